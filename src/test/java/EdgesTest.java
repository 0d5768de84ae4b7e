/** Each sentence of the document that names a boundary case has a test of its own: promises 1 to 34. */
final class EdgesTest {
    public static void main(String[] args) {
        EdgesOfTexts.all();
        EdgesOfLawTexts.all();
        EdgesOfJudging.all();
        EdgesOfPeople.all();
        EdgesOfAskings.all();
        EdgesOfDesks.all();
        EdgesOfDays.all();
        EdgesOfBooklets.all();
        EdgesOfForecast.all();
        EdgesOfRefusals.all();
        Edge.nothingIsLeftOut();
        Check.close();
    }
}
