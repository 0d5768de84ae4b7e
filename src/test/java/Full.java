/** Offices that are full of something. */
final class Full {
    private Full() {
    }

    /** So many booklets (120 to 150) of 120 askings, all wanted for day 62 and in the post up to day 61 or 62. */
    static PassportOffice booklets(int n) {
        PassportOffice x = Scene.quick(3, "");
        for (int desk = 0; desk < 4; desk++) {
            x.lend(desk, 30, 0, 2, 0);
            x.lend(desk, 30, 0, 2, 0);
        }
        x.rules(200, 30, 10, 60, 60);
        for (int i = 0; i < 120; i++) x.ask(i % 3, 3, 62, 0, false);
        x.days(1);
        for (int i = 119; i >= 240 - n; i--) {
            x.lose(i);
            x.again(i);
        }
        x.days(1);
        return x;
    }
}
