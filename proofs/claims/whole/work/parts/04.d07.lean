theorem dL_law__0 : decode cL_law_ 0 = .ok (.new 8, 3) := by decide +kernel
theorem dL_law__3 : decode cL_law_ 3 = .ok (.dup, 1) := by decide +kernel
theorem dL_law__4 : decode cL_law_ 4 = .ok (.invokespecial 114, 3) := by decide +kernel
theorem dL_law__7 : decode cL_law_ 7 = .ok (.astore_n 1, 1) := by decide +kernel
theorem dL_law__8 : decode cL_law_ 8 = .ok (.new 115, 3) := by decide +kernel
theorem dL_law__11 : decode cL_law_ 11 = .ok (.dup, 1) := by decide +kernel
theorem dL_law__12 : decode cL_law_ 12 = .ok (.invokespecial 117, 3) := by decide +kernel
theorem dL_law__15 : decode cL_law_ 15 = .ok (.astore_n 2, 1) := by decide +kernel
theorem dL_law__16 : decode cL_law_ 16 = .ok (.iconst 1, 1) := by decide +kernel
theorem dL_law__17 : decode cL_law_ 17 = .ok (.newarray .long, 2) := by decide +kernel
theorem dL_law__19 : decode cL_law_ 19 = .ok (.astore_n 3, 1) := by decide +kernel
theorem dL_law__20 : decode cL_law_ 20 = .ok (.iconst 0, 1) := by decide +kernel
theorem dL_law__21 : decode cL_law_ 21 = .ok (.istore 4, 2) := by decide +kernel
theorem dL_law__23 : decode cL_law_ 23 = .ok (.iload 4, 2) := by decide +kernel
theorem dL_law__25 : decode cL_law_ 25 = .ok (.aload_n 0, 1) := by decide +kernel
theorem dL_law__26 : decode cL_law_ 26 = .ok (.arraylength, 1) := by decide +kernel
theorem dL_law__27 : decode cL_law_ 27 = .ok (.bipush 8, 2) := by decide +kernel
theorem dL_law__29 : decode cL_law_ 29 = .ok (.isub, 1) := by decide +kernel
theorem dL_law__30 : decode cL_law_ 30 = .ok (.if_icmp .gt 2269, 3) := by decide +kernel
theorem dL_law__33 : decode cL_law_ 33 = .ok (.aload_n 0, 1) := by decide +kernel
theorem dL_law__34 : decode cL_law_ 34 = .ok (.iload 4, 2) := by decide +kernel
theorem dL_law__36 : decode cL_law_ 36 = .ok (.iaload, 1) := by decide +kernel
theorem dL_law__37 : decode cL_law_ 37 = .ok (.bipush 63, 2) := by decide +kernel
theorem dL_law__39 : decode cL_law_ 39 = .ok (.iand, 1) := by decide +kernel
theorem dL_law__40 : decode cL_law_ 40 = .ok (.tableswitch 2253 0 32 #[148, 221, 246, 302, 315, 463, 519, 587, 643, 711, 807, 927, 1047, 1115, 1163, 1267, 1335, 1419, 1455, 1511, 1559, 1615, 1651, 1687, 1723, 1791, 1847, 1903, 1971, 2039, 2107, 2191, 2228], 148) := by decide +kernel
theorem dL_law__188 : decode cL_law_ 188 = .ok (.aload_n 1, 1) := by decide +kernel
theorem dL_law__189 : decode cL_law_ 189 = .ok (.aload_n 0, 1) := by decide +kernel
theorem dL_law__190 : decode cL_law_ 190 = .ok (.iload 4, 2) := by decide +kernel
theorem dL_law__192 : decode cL_law_ 192 = .ok (.iconst 1, 1) := by decide +kernel
theorem dL_law__193 : decode cL_law_ 193 = .ok (.iadd, 1) := by decide +kernel
theorem dL_law__194 : decode cL_law_ 194 = .ok (.iaload, 1) := by decide +kernel
theorem dL_law__195 : decode cL_law_ 195 = .ok (.aload_n 0, 1) := by decide +kernel
theorem dL_law__196 : decode cL_law_ 196 = .ok (.iload 4, 2) := by decide +kernel
theorem dL_law__198 : decode cL_law_ 198 = .ok (.iconst 2, 1) := by decide +kernel
theorem dL_law__199 : decode cL_law_ 199 = .ok (.iadd, 1) := by decide +kernel
theorem dL_law__200 : decode cL_law_ 200 = .ok (.iaload, 1) := by decide +kernel
theorem dL_law__201 : decode cL_law_ 201 = .ok (.aload_n 0, 1) := by decide +kernel
theorem dL_law__202 : decode cL_law_ 202 = .ok (.iload 4, 2) := by decide +kernel
theorem dL_law__204 : decode cL_law_ 204 = .ok (.iconst 3, 1) := by decide +kernel
theorem dL_law__205 : decode cL_law_ 205 = .ok (.iadd, 1) := by decide +kernel
theorem dL_law__206 : decode cL_law_ 206 = .ok (.iaload, 1) := by decide +kernel
theorem dL_law__207 : decode cL_law_ 207 = .ok (.aload_n 0, 1) := by decide +kernel
theorem dL_law__208 : decode cL_law_ 208 = .ok (.iload 4, 2) := by decide +kernel
theorem dL_law__210 : decode cL_law_ 210 = .ok (.iconst 4, 1) := by decide +kernel
theorem dL_law__211 : decode cL_law_ 211 = .ok (.iadd, 1) := by decide +kernel
theorem dL_law__212 : decode cL_law_ 212 = .ok (.iaload, 1) := by decide +kernel
theorem dL_law__213 : decode cL_law_ 213 = .ok (.aload_n 0, 1) := by decide +kernel
theorem dL_law__214 : decode cL_law_ 214 = .ok (.iload 4, 2) := by decide +kernel
theorem dL_law__216 : decode cL_law_ 216 = .ok (.iconst 5, 1) := by decide +kernel
theorem dL_law__217 : decode cL_law_ 217 = .ok (.iadd, 1) := by decide +kernel
theorem dL_law__218 : decode cL_law_ 218 = .ok (.iaload, 1) := by decide +kernel
theorem dL_law__219 : decode cL_law_ 219 = .ok (.invokevirtual 118, 3) := by decide +kernel
theorem dL_law__222 : decode cL_law_ 222 = .ok (.aload_n 2, 1) := by decide +kernel
theorem dL_law__223 : decode cL_law_ 223 = .ok (.aload_n 0, 1) := by decide +kernel
theorem dL_law__224 : decode cL_law_ 224 = .ok (.iload 4, 2) := by decide +kernel
theorem dL_law__226 : decode cL_law_ 226 = .ok (.iconst 1, 1) := by decide +kernel
theorem dL_law__227 : decode cL_law_ 227 = .ok (.iadd, 1) := by decide +kernel
theorem dL_law__228 : decode cL_law_ 228 = .ok (.iaload, 1) := by decide +kernel
theorem dL_law__229 : decode cL_law_ 229 = .ok (.aload_n 0, 1) := by decide +kernel
theorem dL_law__230 : decode cL_law_ 230 = .ok (.iload 4, 2) := by decide +kernel
theorem dL_law__232 : decode cL_law_ 232 = .ok (.iconst 2, 1) := by decide +kernel
theorem dL_law__233 : decode cL_law_ 233 = .ok (.iadd, 1) := by decide +kernel
theorem dL_law__234 : decode cL_law_ 234 = .ok (.iaload, 1) := by decide +kernel
theorem dL_law__235 : decode cL_law_ 235 = .ok (.aload_n 0, 1) := by decide +kernel
theorem dL_law__236 : decode cL_law_ 236 = .ok (.iload 4, 2) := by decide +kernel
theorem dL_law__238 : decode cL_law_ 238 = .ok (.iconst 3, 1) := by decide +kernel
theorem dL_law__239 : decode cL_law_ 239 = .ok (.iadd, 1) := by decide +kernel
theorem dL_law__240 : decode cL_law_ 240 = .ok (.iaload, 1) := by decide +kernel
theorem dL_law__241 : decode cL_law_ 241 = .ok (.aload_n 0, 1) := by decide +kernel
theorem dL_law__242 : decode cL_law_ 242 = .ok (.iload 4, 2) := by decide +kernel
theorem dL_law__244 : decode cL_law_ 244 = .ok (.iconst 4, 1) := by decide +kernel
theorem dL_law__245 : decode cL_law_ 245 = .ok (.iadd, 1) := by decide +kernel
theorem dL_law__246 : decode cL_law_ 246 = .ok (.iaload, 1) := by decide +kernel
theorem dL_law__247 : decode cL_law_ 247 = .ok (.aload_n 0, 1) := by decide +kernel
theorem dL_law__248 : decode cL_law_ 248 = .ok (.iload 4, 2) := by decide +kernel
theorem dL_law__250 : decode cL_law_ 250 = .ok (.iconst 5, 1) := by decide +kernel
theorem dL_law__251 : decode cL_law_ 251 = .ok (.iadd, 1) := by decide +kernel
theorem dL_law__252 : decode cL_law_ 252 = .ok (.iaload, 1) := by decide +kernel
theorem dL_law__253 : decode cL_law_ 253 = .ok (.invokevirtual 121, 3) := by decide +kernel
theorem dL_law__256 : decode cL_law_ 256 = .ok (.if_icmp .eq 2037, 3) := by decide +kernel
theorem dL_law__259 : decode cL_law_ 259 = .ok (.iconst 0, 1) := by decide +kernel
theorem dL_law__260 : decode cL_law_ 260 = .ok (.ireturn, 1) := by decide +kernel
theorem dL_law__261 : decode cL_law_ 261 = .ok (.aload_n 1, 1) := by decide +kernel
theorem dL_law__262 : decode cL_law_ 262 = .ok (.aload_n 0, 1) := by decide +kernel
theorem dL_law__263 : decode cL_law_ 263 = .ok (.iload 4, 2) := by decide +kernel
theorem dL_law__265 : decode cL_law_ 265 = .ok (.iconst 1, 1) := by decide +kernel
theorem dL_law__266 : decode cL_law_ 266 = .ok (.iadd, 1) := by decide +kernel
theorem dL_law__267 : decode cL_law_ 267 = .ok (.iaload, 1) := by decide +kernel
theorem dL_law__268 : decode cL_law_ 268 = .ok (.invokevirtual 122, 3) := by decide +kernel
theorem dL_law__271 : decode cL_law_ 271 = .ok (.aload_n 2, 1) := by decide +kernel
theorem dL_law__272 : decode cL_law_ 272 = .ok (.aload_n 0, 1) := by decide +kernel
theorem dL_law__273 : decode cL_law_ 273 = .ok (.iload 4, 2) := by decide +kernel
theorem dL_law__275 : decode cL_law_ 275 = .ok (.iconst 1, 1) := by decide +kernel
theorem dL_law__276 : decode cL_law_ 276 = .ok (.iadd, 1) := by decide +kernel
theorem dL_law__277 : decode cL_law_ 277 = .ok (.iaload, 1) := by decide +kernel
theorem dL_law__278 : decode cL_law_ 278 = .ok (.invokevirtual 126, 3) := by decide +kernel
theorem dL_law__281 : decode cL_law_ 281 = .ok (.if_icmp .eq 2012, 3) := by decide +kernel
theorem dL_law__284 : decode cL_law_ 284 = .ok (.iconst 0, 1) := by decide +kernel
theorem dL_law__285 : decode cL_law_ 285 = .ok (.ireturn, 1) := by decide +kernel
theorem dL_law__286 : decode cL_law_ 286 = .ok (.aload_n 1, 1) := by decide +kernel
theorem dL_law__287 : decode cL_law_ 287 = .ok (.aload_n 0, 1) := by decide +kernel
theorem dL_law__288 : decode cL_law_ 288 = .ok (.iload 4, 2) := by decide +kernel
theorem dL_law__290 : decode cL_law_ 290 = .ok (.iconst 1, 1) := by decide +kernel
theorem dL_law__291 : decode cL_law_ 291 = .ok (.iadd, 1) := by decide +kernel
theorem dL_law__292 : decode cL_law_ 292 = .ok (.iaload, 1) := by decide +kernel
theorem dL_law__293 : decode cL_law_ 293 = .ok (.aload_n 3, 1) := by decide +kernel
theorem dL_law__294 : decode cL_law_ 294 = .ok (.invokestatic 127, 3) := by decide +kernel
theorem dL_law__297 : decode cL_law_ 297 = .ok (.istore 5, 2) := by decide +kernel
theorem dL_law__299 : decode cL_law_ 299 = .ok (.aload_n 2, 1) := by decide +kernel
theorem dL_law__300 : decode cL_law_ 300 = .ok (.aload_n 0, 1) := by decide +kernel
theorem dL_law__301 : decode cL_law_ 301 = .ok (.iload 4, 2) := by decide +kernel
theorem dL_law__303 : decode cL_law_ 303 = .ok (.iconst 1, 1) := by decide +kernel
theorem dL_law__304 : decode cL_law_ 304 = .ok (.iadd, 1) := by decide +kernel
theorem dL_law__305 : decode cL_law_ 305 = .ok (.iaload, 1) := by decide +kernel
theorem dL_law__306 : decode cL_law_ 306 = .ok (.invokevirtual 132, 3) := by decide +kernel
theorem dL_law__309 : decode cL_law_ 309 = .ok (.istore 6, 2) := by decide +kernel
theorem dL_law__311 : decode cL_law_ 311 = .ok (.aload_n 2, 1) := by decide +kernel
theorem dL_law__312 : decode cL_law_ 312 = .ok (.invokevirtual 133, 3) := by decide +kernel
theorem dL_law__315 : decode cL_law_ 315 = .ok (.iload 5, 2) := by decide +kernel
theorem dL_law__317 : decode cL_law_ 317 = .ok (.if_icmp .eq 5, 3) := by decide +kernel
theorem dL_law__320 : decode cL_law_ 320 = .ok (.iconst 0, 1) := by decide +kernel
theorem dL_law__321 : decode cL_law_ 321 = .ok (.ireturn, 1) := by decide +kernel
theorem dL_law__322 : decode cL_law_ 322 = .ok (.iload 5, 2) := by decide +kernel
theorem dL_law__324 : decode cL_law_ 324 = .ok (.ifCond .ne 15, 3) := by decide +kernel
theorem dL_law__327 : decode cL_law_ 327 = .ok (.aload_n 3, 1) := by decide +kernel
theorem dL_law__328 : decode cL_law_ 328 = .ok (.iconst 0, 1) := by decide +kernel
theorem dL_law__329 : decode cL_law_ 329 = .ok (.laload, 1) := by decide +kernel
theorem dL_law__330 : decode cL_law_ 330 = .ok (.iload 6, 2) := by decide +kernel
theorem dL_law__332 : decode cL_law_ 332 = .ok (.i2l, 1) := by decide +kernel
theorem dL_law__333 : decode cL_law_ 333 = .ok (.lcmp, 1) := by decide +kernel
theorem dL_law__334 : decode cL_law_ 334 = .ok (.ifCond .eq 5, 3) := by decide +kernel
theorem dL_law__337 : decode cL_law_ 337 = .ok (.iconst 0, 1) := by decide +kernel
theorem dL_law__338 : decode cL_law_ 338 = .ok (.ireturn, 1) := by decide +kernel
theorem dL_law__339 : decode cL_law_ 339 = .ok (.goto 1954, 3) := by decide +kernel
theorem dL_law__342 : decode cL_law_ 342 = .ok (.aload_n 1, 1) := by decide +kernel
theorem dL_law__343 : decode cL_law_ 343 = .ok (.invokevirtual 137, 3) := by decide +kernel
theorem dL_law__346 : decode cL_law_ 346 = .ok (.aload_n 2, 1) := by decide +kernel
theorem dL_law__347 : decode cL_law_ 347 = .ok (.invokevirtual 140, 3) := by decide +kernel
theorem dL_law__350 : decode cL_law_ 350 = .ok (.if_icmp .eq 1943, 3) := by decide +kernel
theorem dL_law__353 : decode cL_law_ 353 = .ok (.iconst 0, 1) := by decide +kernel
theorem dL_law__354 : decode cL_law_ 354 = .ok (.ireturn, 1) := by decide +kernel
theorem dL_law__355 : decode cL_law_ 355 = .ok (.aload_n 1, 1) := by decide +kernel
theorem dL_law__356 : decode cL_law_ 356 = .ok (.aload_n 0, 1) := by decide +kernel
theorem dL_law__357 : decode cL_law_ 357 = .ok (.iload 4, 2) := by decide +kernel
theorem dL_law__359 : decode cL_law_ 359 = .ok (.iconst 1, 1) := by decide +kernel
theorem dL_law__360 : decode cL_law_ 360 = .ok (.iadd, 1) := by decide +kernel
theorem dL_law__361 : decode cL_law_ 361 = .ok (.iaload, 1) := by decide +kernel
theorem dL_law__362 : decode cL_law_ 362 = .ok (.aload_n 0, 1) := by decide +kernel
theorem dL_law__363 : decode cL_law_ 363 = .ok (.iload 4, 2) := by decide +kernel
theorem dL_law__365 : decode cL_law_ 365 = .ok (.iconst 2, 1) := by decide +kernel
theorem dL_law__366 : decode cL_law_ 366 = .ok (.iadd, 1) := by decide +kernel
theorem dL_law__367 : decode cL_law_ 367 = .ok (.iaload, 1) := by decide +kernel
theorem dL_law__368 : decode cL_law_ 368 = .ok (.ifCond .eq 7, 3) := by decide +kernel
theorem dL_law__371 : decode cL_law_ 371 = .ok (.iconst 1, 1) := by decide +kernel
theorem dL_law__372 : decode cL_law_ 372 = .ok (.goto 4, 3) := by decide +kernel
theorem dL_law__375 : decode cL_law_ 375 = .ok (.iconst 0, 1) := by decide +kernel
theorem dL_law__376 : decode cL_law_ 376 = .ok (.aload_n 0, 1) := by decide +kernel
theorem dL_law__377 : decode cL_law_ 377 = .ok (.iload 4, 2) := by decide +kernel
theorem dL_law__379 : decode cL_law_ 379 = .ok (.iconst 3, 1) := by decide +kernel
theorem dL_law__380 : decode cL_law_ 380 = .ok (.iadd, 1) := by decide +kernel
theorem dL_law__381 : decode cL_law_ 381 = .ok (.iaload, 1) := by decide +kernel
theorem dL_law__382 : decode cL_law_ 382 = .ok (.aload_n 0, 1) := by decide +kernel
theorem dL_law__383 : decode cL_law_ 383 = .ok (.iload 4, 2) := by decide +kernel
theorem dL_law__385 : decode cL_law_ 385 = .ok (.iconst 4, 1) := by decide +kernel
theorem dL_law__386 : decode cL_law_ 386 = .ok (.iadd, 1) := by decide +kernel
theorem dL_law__387 : decode cL_law_ 387 = .ok (.iaload, 1) := by decide +kernel
theorem dL_law__388 : decode cL_law_ 388 = .ok (.aload_n 0, 1) := by decide +kernel
theorem dL_law__389 : decode cL_law_ 389 = .ok (.iload 4, 2) := by decide +kernel
theorem dL_law__391 : decode cL_law_ 391 = .ok (.iconst 5, 1) := by decide +kernel
theorem dL_law__392 : decode cL_law_ 392 = .ok (.iadd, 1) := by decide +kernel
theorem dL_law__393 : decode cL_law_ 393 = .ok (.iaload, 1) := by decide +kernel
theorem dL_law__394 : decode cL_law_ 394 = .ok (.aload_n 0, 1) := by decide +kernel
theorem dL_law__395 : decode cL_law_ 395 = .ok (.iload 4, 2) := by decide +kernel
theorem dL_law__397 : decode cL_law_ 397 = .ok (.bipush 6, 2) := by decide +kernel
theorem dL_law__399 : decode cL_law_ 399 = .ok (.iadd, 1) := by decide +kernel
theorem dL_law__400 : decode cL_law_ 400 = .ok (.iaload, 1) := by decide +kernel
theorem dL_law__401 : decode cL_law_ 401 = .ok (.aload_n 0, 1) := by decide +kernel
theorem dL_law__402 : decode cL_law_ 402 = .ok (.iload 4, 2) := by decide +kernel
theorem dL_law__404 : decode cL_law_ 404 = .ok (.bipush 7, 2) := by decide +kernel
theorem dL_law__406 : decode cL_law_ 406 = .ok (.iadd, 1) := by decide +kernel
theorem dL_law__407 : decode cL_law_ 407 = .ok (.iaload, 1) := by decide +kernel
theorem dL_law__408 : decode cL_law_ 408 = .ok (.aload_n 3, 1) := by decide +kernel
theorem dL_law__409 : decode cL_law_ 409 = .ok (.invokestatic 141, 3) := by decide +kernel
theorem dL_law__412 : decode cL_law_ 412 = .ok (.istore 5, 2) := by decide +kernel
theorem dL_law__414 : decode cL_law_ 414 = .ok (.aload_n 2, 1) := by decide +kernel
theorem dL_law__415 : decode cL_law_ 415 = .ok (.aload_n 0, 1) := by decide +kernel
theorem dL_law__416 : decode cL_law_ 416 = .ok (.iload 4, 2) := by decide +kernel
theorem dL_law__418 : decode cL_law_ 418 = .ok (.iconst 1, 1) := by decide +kernel
theorem dL_law__419 : decode cL_law_ 419 = .ok (.iadd, 1) := by decide +kernel
theorem dL_law__420 : decode cL_law_ 420 = .ok (.iaload, 1) := by decide +kernel
theorem dL_law__421 : decode cL_law_ 421 = .ok (.aload_n 0, 1) := by decide +kernel
theorem dL_law__422 : decode cL_law_ 422 = .ok (.iload 4, 2) := by decide +kernel
theorem dL_law__424 : decode cL_law_ 424 = .ok (.iconst 2, 1) := by decide +kernel
theorem dL_law__425 : decode cL_law_ 425 = .ok (.iadd, 1) := by decide +kernel
theorem dL_law__426 : decode cL_law_ 426 = .ok (.iaload, 1) := by decide +kernel
theorem dL_law__427 : decode cL_law_ 427 = .ok (.ifCond .eq 7, 3) := by decide +kernel
theorem dL_law__430 : decode cL_law_ 430 = .ok (.iconst 1, 1) := by decide +kernel
theorem dL_law__431 : decode cL_law_ 431 = .ok (.goto 4, 3) := by decide +kernel
theorem dL_law__434 : decode cL_law_ 434 = .ok (.iconst 0, 1) := by decide +kernel
theorem dL_law__435 : decode cL_law_ 435 = .ok (.aload_n 0, 1) := by decide +kernel
theorem dL_law__436 : decode cL_law_ 436 = .ok (.iload 4, 2) := by decide +kernel
theorem dL_law__438 : decode cL_law_ 438 = .ok (.iconst 3, 1) := by decide +kernel
theorem dL_law__439 : decode cL_law_ 439 = .ok (.iadd, 1) := by decide +kernel
theorem dL_law__440 : decode cL_law_ 440 = .ok (.iaload, 1) := by decide +kernel
theorem dL_law__441 : decode cL_law_ 441 = .ok (.aload_n 0, 1) := by decide +kernel
theorem dL_law__442 : decode cL_law_ 442 = .ok (.iload 4, 2) := by decide +kernel
theorem dL_law__444 : decode cL_law_ 444 = .ok (.iconst 4, 1) := by decide +kernel
theorem dL_law__445 : decode cL_law_ 445 = .ok (.iadd, 1) := by decide +kernel
theorem dL_law__446 : decode cL_law_ 446 = .ok (.iaload, 1) := by decide +kernel
theorem dL_law__447 : decode cL_law_ 447 = .ok (.aload_n 0, 1) := by decide +kernel
theorem dL_law__448 : decode cL_law_ 448 = .ok (.iload 4, 2) := by decide +kernel
theorem dL_law__450 : decode cL_law_ 450 = .ok (.iconst 5, 1) := by decide +kernel
theorem dL_law__451 : decode cL_law_ 451 = .ok (.iadd, 1) := by decide +kernel
theorem dL_law__452 : decode cL_law_ 452 = .ok (.iaload, 1) := by decide +kernel
theorem dL_law__453 : decode cL_law_ 453 = .ok (.aload_n 0, 1) := by decide +kernel
theorem dL_law__454 : decode cL_law_ 454 = .ok (.iload 4, 2) := by decide +kernel
theorem dL_law__456 : decode cL_law_ 456 = .ok (.bipush 6, 2) := by decide +kernel
theorem dL_law__458 : decode cL_law_ 458 = .ok (.iadd, 1) := by decide +kernel
theorem dL_law__459 : decode cL_law_ 459 = .ok (.iaload, 1) := by decide +kernel
theorem dL_law__460 : decode cL_law_ 460 = .ok (.aload_n 0, 1) := by decide +kernel
theorem dL_law__461 : decode cL_law_ 461 = .ok (.iload 4, 2) := by decide +kernel
theorem dL_law__463 : decode cL_law_ 463 = .ok (.bipush 7, 2) := by decide +kernel
theorem dL_law__465 : decode cL_law_ 465 = .ok (.iadd, 1) := by decide +kernel
theorem dL_law__466 : decode cL_law_ 466 = .ok (.iaload, 1) := by decide +kernel
theorem dL_law__467 : decode cL_law_ 467 = .ok (.invokevirtual 144, 3) := by decide +kernel
theorem dL_law__470 : decode cL_law_ 470 = .ok (.istore 6, 2) := by decide +kernel
theorem dL_law__472 : decode cL_law_ 472 = .ok (.aload_n 2, 1) := by decide +kernel
theorem dL_law__473 : decode cL_law_ 473 = .ok (.invokevirtual 133, 3) := by decide +kernel
theorem dL_law__476 : decode cL_law_ 476 = .ok (.iload 5, 2) := by decide +kernel
theorem dL_law__478 : decode cL_law_ 478 = .ok (.if_icmp .eq 5, 3) := by decide +kernel
theorem dL_law__481 : decode cL_law_ 481 = .ok (.iconst 0, 1) := by decide +kernel
theorem dL_law__482 : decode cL_law_ 482 = .ok (.ireturn, 1) := by decide +kernel
theorem dL_law__483 : decode cL_law_ 483 = .ok (.iload 5, 2) := by decide +kernel
theorem dL_law__485 : decode cL_law_ 485 = .ok (.ifCond .ne 15, 3) := by decide +kernel
theorem dL_law__488 : decode cL_law_ 488 = .ok (.aload_n 3, 1) := by decide +kernel
theorem dL_law__489 : decode cL_law_ 489 = .ok (.iconst 0, 1) := by decide +kernel
theorem dL_law__490 : decode cL_law_ 490 = .ok (.laload, 1) := by decide +kernel
theorem dL_law__491 : decode cL_law_ 491 = .ok (.iload 6, 2) := by decide +kernel
theorem dL_law__493 : decode cL_law_ 493 = .ok (.i2l, 1) := by decide +kernel
theorem dL_law__494 : decode cL_law_ 494 = .ok (.lcmp, 1) := by decide +kernel
theorem dL_law__495 : decode cL_law_ 495 = .ok (.ifCond .eq 5, 3) := by decide +kernel
theorem dL_law__498 : decode cL_law_ 498 = .ok (.iconst 0, 1) := by decide +kernel
theorem dL_law__499 : decode cL_law_ 499 = .ok (.ireturn, 1) := by decide +kernel
theorem dL_law__500 : decode cL_law_ 500 = .ok (.goto 1793, 3) := by decide +kernel
theorem dL_law__503 : decode cL_law_ 503 = .ok (.aload_n 1, 1) := by decide +kernel
theorem dL_law__504 : decode cL_law_ 504 = .ok (.aload_n 0, 1) := by decide +kernel
theorem dL_law__505 : decode cL_law_ 505 = .ok (.iload 4, 2) := by decide +kernel
theorem dL_law__507 : decode cL_law_ 507 = .ok (.iconst 1, 1) := by decide +kernel
theorem dL_law__508 : decode cL_law_ 508 = .ok (.iadd, 1) := by decide +kernel
theorem dL_law__509 : decode cL_law_ 509 = .ok (.iaload, 1) := by decide +kernel
theorem dL_law__510 : decode cL_law_ 510 = .ok (.aload_n 3, 1) := by decide +kernel
theorem dL_law__511 : decode cL_law_ 511 = .ok (.invokestatic 145, 3) := by decide +kernel
theorem dL_law__514 : decode cL_law_ 514 = .ok (.istore 5, 2) := by decide +kernel
theorem dL_law__516 : decode cL_law_ 516 = .ok (.aload_n 2, 1) := by decide +kernel
theorem dL_law__517 : decode cL_law_ 517 = .ok (.aload_n 0, 1) := by decide +kernel
theorem dL_law__518 : decode cL_law_ 518 = .ok (.iload 4, 2) := by decide +kernel
theorem dL_law__520 : decode cL_law_ 520 = .ok (.iconst 1, 1) := by decide +kernel
theorem dL_law__521 : decode cL_law_ 521 = .ok (.iadd, 1) := by decide +kernel
theorem dL_law__522 : decode cL_law_ 522 = .ok (.iaload, 1) := by decide +kernel
theorem dL_law__523 : decode cL_law_ 523 = .ok (.invokevirtual 147, 3) := by decide +kernel
theorem dL_law__526 : decode cL_law_ 526 = .ok (.istore 6, 2) := by decide +kernel
theorem dL_law__528 : decode cL_law_ 528 = .ok (.aload_n 2, 1) := by decide +kernel
theorem dL_law__529 : decode cL_law_ 529 = .ok (.invokevirtual 133, 3) := by decide +kernel
theorem dL_law__532 : decode cL_law_ 532 = .ok (.iload 5, 2) := by decide +kernel
theorem dL_law__534 : decode cL_law_ 534 = .ok (.if_icmp .eq 5, 3) := by decide +kernel
theorem dL_law__537 : decode cL_law_ 537 = .ok (.iconst 0, 1) := by decide +kernel
theorem dL_law__538 : decode cL_law_ 538 = .ok (.ireturn, 1) := by decide +kernel
theorem dL_law__539 : decode cL_law_ 539 = .ok (.iload 5, 2) := by decide +kernel
theorem dL_law__541 : decode cL_law_ 541 = .ok (.ifCond .ne 15, 3) := by decide +kernel
theorem dL_law__544 : decode cL_law_ 544 = .ok (.aload_n 3, 1) := by decide +kernel
theorem dL_law__545 : decode cL_law_ 545 = .ok (.iconst 0, 1) := by decide +kernel
theorem dL_law__546 : decode cL_law_ 546 = .ok (.laload, 1) := by decide +kernel
theorem dL_law__547 : decode cL_law_ 547 = .ok (.iload 6, 2) := by decide +kernel
theorem dL_law__549 : decode cL_law_ 549 = .ok (.i2l, 1) := by decide +kernel
theorem dL_law__550 : decode cL_law_ 550 = .ok (.lcmp, 1) := by decide +kernel
theorem dL_law__551 : decode cL_law_ 551 = .ok (.ifCond .eq 5, 3) := by decide +kernel
theorem dL_law__554 : decode cL_law_ 554 = .ok (.iconst 0, 1) := by decide +kernel
theorem dL_law__555 : decode cL_law_ 555 = .ok (.ireturn, 1) := by decide +kernel
theorem dL_law__556 : decode cL_law_ 556 = .ok (.goto 1737, 3) := by decide +kernel
theorem dL_law__559 : decode cL_law_ 559 = .ok (.aload_n 1, 1) := by decide +kernel
theorem dL_law__560 : decode cL_law_ 560 = .ok (.aload_n 0, 1) := by decide +kernel
theorem dL_law__561 : decode cL_law_ 561 = .ok (.iload 4, 2) := by decide +kernel
theorem dL_law__563 : decode cL_law_ 563 = .ok (.iconst 1, 1) := by decide +kernel
theorem dL_law__564 : decode cL_law_ 564 = .ok (.iadd, 1) := by decide +kernel
theorem dL_law__565 : decode cL_law_ 565 = .ok (.iaload, 1) := by decide +kernel
theorem dL_law__566 : decode cL_law_ 566 = .ok (.aload_n 0, 1) := by decide +kernel
theorem dL_law__567 : decode cL_law_ 567 = .ok (.iload 4, 2) := by decide +kernel
theorem dL_law__569 : decode cL_law_ 569 = .ok (.iconst 2, 1) := by decide +kernel
theorem dL_law__570 : decode cL_law_ 570 = .ok (.iadd, 1) := by decide +kernel
theorem dL_law__571 : decode cL_law_ 571 = .ok (.iaload, 1) := by decide +kernel
theorem dL_law__572 : decode cL_law_ 572 = .ok (.aload_n 3, 1) := by decide +kernel
theorem dL_law__573 : decode cL_law_ 573 = .ok (.invokestatic 148, 3) := by decide +kernel
theorem dL_law__576 : decode cL_law_ 576 = .ok (.istore 5, 2) := by decide +kernel
theorem dL_law__578 : decode cL_law_ 578 = .ok (.aload_n 2, 1) := by decide +kernel
theorem dL_law__579 : decode cL_law_ 579 = .ok (.aload_n 0, 1) := by decide +kernel
theorem dL_law__580 : decode cL_law_ 580 = .ok (.iload 4, 2) := by decide +kernel
theorem dL_law__582 : decode cL_law_ 582 = .ok (.iconst 1, 1) := by decide +kernel
theorem dL_law__583 : decode cL_law_ 583 = .ok (.iadd, 1) := by decide +kernel
theorem dL_law__584 : decode cL_law_ 584 = .ok (.iaload, 1) := by decide +kernel
theorem dL_law__585 : decode cL_law_ 585 = .ok (.aload_n 0, 1) := by decide +kernel
theorem dL_law__586 : decode cL_law_ 586 = .ok (.iload 4, 2) := by decide +kernel
theorem dL_law__588 : decode cL_law_ 588 = .ok (.iconst 2, 1) := by decide +kernel
theorem dL_law__589 : decode cL_law_ 589 = .ok (.iadd, 1) := by decide +kernel
theorem dL_law__590 : decode cL_law_ 590 = .ok (.iaload, 1) := by decide +kernel
theorem dL_law__591 : decode cL_law_ 591 = .ok (.invokevirtual 151, 3) := by decide +kernel
theorem dL_law__594 : decode cL_law_ 594 = .ok (.istore 6, 2) := by decide +kernel
theorem dL_law__596 : decode cL_law_ 596 = .ok (.aload_n 2, 1) := by decide +kernel
theorem dL_law__597 : decode cL_law_ 597 = .ok (.invokevirtual 133, 3) := by decide +kernel
theorem dL_law__600 : decode cL_law_ 600 = .ok (.iload 5, 2) := by decide +kernel
theorem dL_law__602 : decode cL_law_ 602 = .ok (.if_icmp .eq 5, 3) := by decide +kernel
theorem dL_law__605 : decode cL_law_ 605 = .ok (.iconst 0, 1) := by decide +kernel
theorem dL_law__606 : decode cL_law_ 606 = .ok (.ireturn, 1) := by decide +kernel
theorem dL_law__607 : decode cL_law_ 607 = .ok (.iload 5, 2) := by decide +kernel
theorem dL_law__609 : decode cL_law_ 609 = .ok (.ifCond .ne 15, 3) := by decide +kernel
theorem dL_law__612 : decode cL_law_ 612 = .ok (.aload_n 3, 1) := by decide +kernel
theorem dL_law__613 : decode cL_law_ 613 = .ok (.iconst 0, 1) := by decide +kernel
theorem dL_law__614 : decode cL_law_ 614 = .ok (.laload, 1) := by decide +kernel
theorem dL_law__615 : decode cL_law_ 615 = .ok (.iload 6, 2) := by decide +kernel
theorem dL_law__617 : decode cL_law_ 617 = .ok (.i2l, 1) := by decide +kernel
theorem dL_law__618 : decode cL_law_ 618 = .ok (.lcmp, 1) := by decide +kernel
theorem dL_law__619 : decode cL_law_ 619 = .ok (.ifCond .eq 5, 3) := by decide +kernel
theorem dL_law__622 : decode cL_law_ 622 = .ok (.iconst 0, 1) := by decide +kernel
theorem dL_law__623 : decode cL_law_ 623 = .ok (.ireturn, 1) := by decide +kernel
theorem dL_law__624 : decode cL_law_ 624 = .ok (.goto 1669, 3) := by decide +kernel
theorem dL_law__627 : decode cL_law_ 627 = .ok (.aload_n 1, 1) := by decide +kernel
theorem dL_law__628 : decode cL_law_ 628 = .ok (.aload_n 0, 1) := by decide +kernel
theorem dL_law__629 : decode cL_law_ 629 = .ok (.iload 4, 2) := by decide +kernel
theorem dL_law__631 : decode cL_law_ 631 = .ok (.iconst 1, 1) := by decide +kernel
theorem dL_law__632 : decode cL_law_ 632 = .ok (.iadd, 1) := by decide +kernel
theorem dL_law__633 : decode cL_law_ 633 = .ok (.iaload, 1) := by decide +kernel
theorem dL_law__634 : decode cL_law_ 634 = .ok (.aload_n 3, 1) := by decide +kernel
theorem dL_law__635 : decode cL_law_ 635 = .ok (.invokestatic 152, 3) := by decide +kernel
theorem dL_law__638 : decode cL_law_ 638 = .ok (.istore 5, 2) := by decide +kernel
theorem dL_law__640 : decode cL_law_ 640 = .ok (.aload_n 2, 1) := by decide +kernel
theorem dL_law__641 : decode cL_law_ 641 = .ok (.aload_n 0, 1) := by decide +kernel
theorem dL_law__642 : decode cL_law_ 642 = .ok (.iload 4, 2) := by decide +kernel
theorem dL_law__644 : decode cL_law_ 644 = .ok (.iconst 1, 1) := by decide +kernel
theorem dL_law__645 : decode cL_law_ 645 = .ok (.iadd, 1) := by decide +kernel
theorem dL_law__646 : decode cL_law_ 646 = .ok (.iaload, 1) := by decide +kernel
theorem dL_law__647 : decode cL_law_ 647 = .ok (.invokevirtual 154, 3) := by decide +kernel
theorem dL_law__650 : decode cL_law_ 650 = .ok (.istore 6, 2) := by decide +kernel
theorem dL_law__652 : decode cL_law_ 652 = .ok (.aload_n 2, 1) := by decide +kernel
theorem dL_law__653 : decode cL_law_ 653 = .ok (.invokevirtual 133, 3) := by decide +kernel
theorem dL_law__656 : decode cL_law_ 656 = .ok (.iload 5, 2) := by decide +kernel
theorem dL_law__658 : decode cL_law_ 658 = .ok (.if_icmp .eq 5, 3) := by decide +kernel
theorem dL_law__661 : decode cL_law_ 661 = .ok (.iconst 0, 1) := by decide +kernel
theorem dL_law__662 : decode cL_law_ 662 = .ok (.ireturn, 1) := by decide +kernel
theorem dL_law__663 : decode cL_law_ 663 = .ok (.iload 5, 2) := by decide +kernel
theorem dL_law__665 : decode cL_law_ 665 = .ok (.ifCond .ne 15, 3) := by decide +kernel
theorem dL_law__668 : decode cL_law_ 668 = .ok (.aload_n 3, 1) := by decide +kernel
theorem dL_law__669 : decode cL_law_ 669 = .ok (.iconst 0, 1) := by decide +kernel
theorem dL_law__670 : decode cL_law_ 670 = .ok (.laload, 1) := by decide +kernel
theorem dL_law__671 : decode cL_law_ 671 = .ok (.iload 6, 2) := by decide +kernel
theorem dL_law__673 : decode cL_law_ 673 = .ok (.i2l, 1) := by decide +kernel
theorem dL_law__674 : decode cL_law_ 674 = .ok (.lcmp, 1) := by decide +kernel
theorem dL_law__675 : decode cL_law_ 675 = .ok (.ifCond .eq 5, 3) := by decide +kernel
theorem dL_law__678 : decode cL_law_ 678 = .ok (.iconst 0, 1) := by decide +kernel
theorem dL_law__679 : decode cL_law_ 679 = .ok (.ireturn, 1) := by decide +kernel
theorem dL_law__680 : decode cL_law_ 680 = .ok (.goto 1613, 3) := by decide +kernel
theorem dL_law__683 : decode cL_law_ 683 = .ok (.aload_n 1, 1) := by decide +kernel
theorem dL_law__684 : decode cL_law_ 684 = .ok (.aload_n 0, 1) := by decide +kernel
theorem dL_law__685 : decode cL_law_ 685 = .ok (.iload 4, 2) := by decide +kernel
theorem dL_law__687 : decode cL_law_ 687 = .ok (.iconst 1, 1) := by decide +kernel
theorem dL_law__688 : decode cL_law_ 688 = .ok (.iadd, 1) := by decide +kernel
theorem dL_law__689 : decode cL_law_ 689 = .ok (.iaload, 1) := by decide +kernel
theorem dL_law__690 : decode cL_law_ 690 = .ok (.aload_n 0, 1) := by decide +kernel
theorem dL_law__691 : decode cL_law_ 691 = .ok (.iload 4, 2) := by decide +kernel
theorem dL_law__693 : decode cL_law_ 693 = .ok (.iconst 2, 1) := by decide +kernel
theorem dL_law__694 : decode cL_law_ 694 = .ok (.iadd, 1) := by decide +kernel
theorem dL_law__695 : decode cL_law_ 695 = .ok (.iaload, 1) := by decide +kernel
theorem dL_law__696 : decode cL_law_ 696 = .ok (.aload_n 3, 1) := by decide +kernel
theorem dL_law__697 : decode cL_law_ 697 = .ok (.invokestatic 155, 3) := by decide +kernel
theorem dL_law__700 : decode cL_law_ 700 = .ok (.istore 5, 2) := by decide +kernel
theorem dL_law__702 : decode cL_law_ 702 = .ok (.aload_n 2, 1) := by decide +kernel
theorem dL_law__703 : decode cL_law_ 703 = .ok (.aload_n 0, 1) := by decide +kernel
theorem dL_law__704 : decode cL_law_ 704 = .ok (.iload 4, 2) := by decide +kernel
theorem dL_law__706 : decode cL_law_ 706 = .ok (.iconst 1, 1) := by decide +kernel
theorem dL_law__707 : decode cL_law_ 707 = .ok (.iadd, 1) := by decide +kernel
theorem dL_law__708 : decode cL_law_ 708 = .ok (.iaload, 1) := by decide +kernel
theorem dL_law__709 : decode cL_law_ 709 = .ok (.aload_n 0, 1) := by decide +kernel
theorem dL_law__710 : decode cL_law_ 710 = .ok (.iload 4, 2) := by decide +kernel
theorem dL_law__712 : decode cL_law_ 712 = .ok (.iconst 2, 1) := by decide +kernel
theorem dL_law__713 : decode cL_law_ 713 = .ok (.iadd, 1) := by decide +kernel
theorem dL_law__714 : decode cL_law_ 714 = .ok (.iaload, 1) := by decide +kernel
theorem dL_law__715 : decode cL_law_ 715 = .ok (.invokevirtual 157, 3) := by decide +kernel
theorem dL_law__718 : decode cL_law_ 718 = .ok (.istore 6, 2) := by decide +kernel
theorem dL_law__720 : decode cL_law_ 720 = .ok (.aload_n 2, 1) := by decide +kernel
theorem dL_law__721 : decode cL_law_ 721 = .ok (.invokevirtual 133, 3) := by decide +kernel
theorem dL_law__724 : decode cL_law_ 724 = .ok (.iload 5, 2) := by decide +kernel
theorem dL_law__726 : decode cL_law_ 726 = .ok (.if_icmp .eq 5, 3) := by decide +kernel
theorem dL_law__729 : decode cL_law_ 729 = .ok (.iconst 0, 1) := by decide +kernel
theorem dL_law__730 : decode cL_law_ 730 = .ok (.ireturn, 1) := by decide +kernel
theorem dL_law__731 : decode cL_law_ 731 = .ok (.iload 5, 2) := by decide +kernel
theorem dL_law__733 : decode cL_law_ 733 = .ok (.ifCond .ne 15, 3) := by decide +kernel
theorem dL_law__736 : decode cL_law_ 736 = .ok (.aload_n 3, 1) := by decide +kernel
theorem dL_law__737 : decode cL_law_ 737 = .ok (.iconst 0, 1) := by decide +kernel
theorem dL_law__738 : decode cL_law_ 738 = .ok (.laload, 1) := by decide +kernel
theorem dL_law__739 : decode cL_law_ 739 = .ok (.iload 6, 2) := by decide +kernel
theorem dL_law__741 : decode cL_law_ 741 = .ok (.i2l, 1) := by decide +kernel
theorem dL_law__742 : decode cL_law_ 742 = .ok (.lcmp, 1) := by decide +kernel
theorem dL_law__743 : decode cL_law_ 743 = .ok (.ifCond .eq 5, 3) := by decide +kernel
theorem dL_law__746 : decode cL_law_ 746 = .ok (.iconst 0, 1) := by decide +kernel
theorem dL_law__747 : decode cL_law_ 747 = .ok (.ireturn, 1) := by decide +kernel
theorem dL_law__748 : decode cL_law_ 748 = .ok (.goto 1545, 3) := by decide +kernel
theorem dL_law__751 : decode cL_law_ 751 = .ok (.aload_n 1, 1) := by decide +kernel
theorem dL_law__752 : decode cL_law_ 752 = .ok (.aload_n 0, 1) := by decide +kernel
theorem dL_law__753 : decode cL_law_ 753 = .ok (.iload 4, 2) := by decide +kernel
theorem dL_law__755 : decode cL_law_ 755 = .ok (.iconst 1, 1) := by decide +kernel
theorem dL_law__756 : decode cL_law_ 756 = .ok (.iadd, 1) := by decide +kernel
theorem dL_law__757 : decode cL_law_ 757 = .ok (.iaload, 1) := by decide +kernel
theorem dL_law__758 : decode cL_law_ 758 = .ok (.aload_n 0, 1) := by decide +kernel
theorem dL_law__759 : decode cL_law_ 759 = .ok (.iload 4, 2) := by decide +kernel
theorem dL_law__761 : decode cL_law_ 761 = .ok (.iconst 2, 1) := by decide +kernel
theorem dL_law__762 : decode cL_law_ 762 = .ok (.iadd, 1) := by decide +kernel
theorem dL_law__763 : decode cL_law_ 763 = .ok (.iaload, 1) := by decide +kernel
theorem dL_law__764 : decode cL_law_ 764 = .ok (.aload_n 0, 1) := by decide +kernel
theorem dL_law__765 : decode cL_law_ 765 = .ok (.iload 4, 2) := by decide +kernel
theorem dL_law__767 : decode cL_law_ 767 = .ok (.iconst 3, 1) := by decide +kernel
theorem dL_law__768 : decode cL_law_ 768 = .ok (.iadd, 1) := by decide +kernel
theorem dL_law__769 : decode cL_law_ 769 = .ok (.iaload, 1) := by decide +kernel
theorem dL_law__770 : decode cL_law_ 770 = .ok (.ifCond .eq 7, 3) := by decide +kernel
theorem dL_law__773 : decode cL_law_ 773 = .ok (.iconst 1, 1) := by decide +kernel
theorem dL_law__774 : decode cL_law_ 774 = .ok (.goto 4, 3) := by decide +kernel
theorem dL_law__777 : decode cL_law_ 777 = .ok (.iconst 0, 1) := by decide +kernel
theorem dL_law__778 : decode cL_law_ 778 = .ok (.aload_n 3, 1) := by decide +kernel
theorem dL_law__779 : decode cL_law_ 779 = .ok (.invokestatic 158, 3) := by decide +kernel
theorem dL_law__782 : decode cL_law_ 782 = .ok (.istore 5, 2) := by decide +kernel
theorem dL_law__784 : decode cL_law_ 784 = .ok (.aload_n 2, 1) := by decide +kernel
theorem dL_law__785 : decode cL_law_ 785 = .ok (.aload_n 0, 1) := by decide +kernel
theorem dL_law__786 : decode cL_law_ 786 = .ok (.iload 4, 2) := by decide +kernel
theorem dL_law__788 : decode cL_law_ 788 = .ok (.iconst 1, 1) := by decide +kernel
theorem dL_law__789 : decode cL_law_ 789 = .ok (.iadd, 1) := by decide +kernel
theorem dL_law__790 : decode cL_law_ 790 = .ok (.iaload, 1) := by decide +kernel
theorem dL_law__791 : decode cL_law_ 791 = .ok (.aload_n 0, 1) := by decide +kernel
theorem dL_law__792 : decode cL_law_ 792 = .ok (.iload 4, 2) := by decide +kernel
theorem dL_law__794 : decode cL_law_ 794 = .ok (.iconst 2, 1) := by decide +kernel
theorem dL_law__795 : decode cL_law_ 795 = .ok (.iadd, 1) := by decide +kernel
theorem dL_law__796 : decode cL_law_ 796 = .ok (.iaload, 1) := by decide +kernel
theorem dL_law__797 : decode cL_law_ 797 = .ok (.aload_n 0, 1) := by decide +kernel
theorem dL_law__798 : decode cL_law_ 798 = .ok (.iload 4, 2) := by decide +kernel
theorem dL_law__800 : decode cL_law_ 800 = .ok (.iconst 3, 1) := by decide +kernel
theorem dL_law__801 : decode cL_law_ 801 = .ok (.iadd, 1) := by decide +kernel
theorem dL_law__802 : decode cL_law_ 802 = .ok (.iaload, 1) := by decide +kernel
theorem dL_law__803 : decode cL_law_ 803 = .ok (.ifCond .eq 7, 3) := by decide +kernel
theorem dL_law__806 : decode cL_law_ 806 = .ok (.iconst 1, 1) := by decide +kernel
theorem dL_law__807 : decode cL_law_ 807 = .ok (.goto 4, 3) := by decide +kernel
theorem dL_law__810 : decode cL_law_ 810 = .ok (.iconst 0, 1) := by decide +kernel
theorem dL_law__811 : decode cL_law_ 811 = .ok (.invokevirtual 161, 3) := by decide +kernel
theorem dL_law__814 : decode cL_law_ 814 = .ok (.istore 6, 2) := by decide +kernel
theorem dL_law__816 : decode cL_law_ 816 = .ok (.aload_n 2, 1) := by decide +kernel
theorem dL_law__817 : decode cL_law_ 817 = .ok (.invokevirtual 133, 3) := by decide +kernel
theorem dL_law__820 : decode cL_law_ 820 = .ok (.iload 5, 2) := by decide +kernel
theorem dL_law__822 : decode cL_law_ 822 = .ok (.if_icmp .eq 5, 3) := by decide +kernel
theorem dL_law__825 : decode cL_law_ 825 = .ok (.iconst 0, 1) := by decide +kernel
theorem dL_law__826 : decode cL_law_ 826 = .ok (.ireturn, 1) := by decide +kernel
theorem dL_law__827 : decode cL_law_ 827 = .ok (.iload 5, 2) := by decide +kernel
theorem dL_law__829 : decode cL_law_ 829 = .ok (.ifCond .ne 15, 3) := by decide +kernel
theorem dL_law__832 : decode cL_law_ 832 = .ok (.aload_n 3, 1) := by decide +kernel
theorem dL_law__833 : decode cL_law_ 833 = .ok (.iconst 0, 1) := by decide +kernel
theorem dL_law__834 : decode cL_law_ 834 = .ok (.laload, 1) := by decide +kernel
theorem dL_law__835 : decode cL_law_ 835 = .ok (.iload 6, 2) := by decide +kernel
theorem dL_law__837 : decode cL_law_ 837 = .ok (.i2l, 1) := by decide +kernel
theorem dL_law__838 : decode cL_law_ 838 = .ok (.lcmp, 1) := by decide +kernel
theorem dL_law__839 : decode cL_law_ 839 = .ok (.ifCond .eq 5, 3) := by decide +kernel
theorem dL_law__842 : decode cL_law_ 842 = .ok (.iconst 0, 1) := by decide +kernel
theorem dL_law__843 : decode cL_law_ 843 = .ok (.ireturn, 1) := by decide +kernel
theorem dL_law__844 : decode cL_law_ 844 = .ok (.goto 1449, 3) := by decide +kernel
theorem dL_law__847 : decode cL_law_ 847 = .ok (.aload_n 1, 1) := by decide +kernel
theorem dL_law__848 : decode cL_law_ 848 = .ok (.aload_n 0, 1) := by decide +kernel
theorem dL_law__849 : decode cL_law_ 849 = .ok (.iload 4, 2) := by decide +kernel
theorem dL_law__851 : decode cL_law_ 851 = .ok (.iconst 1, 1) := by decide +kernel
theorem dL_law__852 : decode cL_law_ 852 = .ok (.iadd, 1) := by decide +kernel
theorem dL_law__853 : decode cL_law_ 853 = .ok (.iaload, 1) := by decide +kernel
theorem dL_law__854 : decode cL_law_ 854 = .ok (.aload_n 0, 1) := by decide +kernel
theorem dL_law__855 : decode cL_law_ 855 = .ok (.iload 4, 2) := by decide +kernel
theorem dL_law__857 : decode cL_law_ 857 = .ok (.iconst 2, 1) := by decide +kernel
theorem dL_law__858 : decode cL_law_ 858 = .ok (.iadd, 1) := by decide +kernel
theorem dL_law__859 : decode cL_law_ 859 = .ok (.iaload, 1) := by decide +kernel
theorem dL_law__860 : decode cL_law_ 860 = .ok (.aload_n 0, 1) := by decide +kernel
theorem dL_law__861 : decode cL_law_ 861 = .ok (.iload 4, 2) := by decide +kernel
theorem dL_law__863 : decode cL_law_ 863 = .ok (.iconst 3, 1) := by decide +kernel
theorem dL_law__864 : decode cL_law_ 864 = .ok (.iadd, 1) := by decide +kernel
theorem dL_law__865 : decode cL_law_ 865 = .ok (.iaload, 1) := by decide +kernel
theorem dL_law__866 : decode cL_law_ 866 = .ok (.aload_n 0, 1) := by decide +kernel
theorem dL_law__867 : decode cL_law_ 867 = .ok (.iload 4, 2) := by decide +kernel
theorem dL_law__869 : decode cL_law_ 869 = .ok (.iconst 4, 1) := by decide +kernel
theorem dL_law__870 : decode cL_law_ 870 = .ok (.iadd, 1) := by decide +kernel
theorem dL_law__871 : decode cL_law_ 871 = .ok (.iaload, 1) := by decide +kernel
theorem dL_law__872 : decode cL_law_ 872 = .ok (.ifCond .eq 7, 3) := by decide +kernel
theorem dL_law__875 : decode cL_law_ 875 = .ok (.iconst 1, 1) := by decide +kernel
theorem dL_law__876 : decode cL_law_ 876 = .ok (.goto 4, 3) := by decide +kernel
theorem dL_law__879 : decode cL_law_ 879 = .ok (.iconst 0, 1) := by decide +kernel
theorem dL_law__880 : decode cL_law_ 880 = .ok (.aload_n 0, 1) := by decide +kernel
theorem dL_law__881 : decode cL_law_ 881 = .ok (.iload 4, 2) := by decide +kernel
theorem dL_law__883 : decode cL_law_ 883 = .ok (.iconst 5, 1) := by decide +kernel
theorem dL_law__884 : decode cL_law_ 884 = .ok (.iadd, 1) := by decide +kernel
theorem dL_law__885 : decode cL_law_ 885 = .ok (.iaload, 1) := by decide +kernel
theorem dL_law__886 : decode cL_law_ 886 = .ok (.aload_n 3, 1) := by decide +kernel
theorem dL_law__887 : decode cL_law_ 887 = .ok (.invokestatic 162, 3) := by decide +kernel
theorem dL_law__890 : decode cL_law_ 890 = .ok (.istore 5, 2) := by decide +kernel
theorem dL_law__892 : decode cL_law_ 892 = .ok (.aload_n 2, 1) := by decide +kernel
theorem dL_law__893 : decode cL_law_ 893 = .ok (.aload_n 0, 1) := by decide +kernel
theorem dL_law__894 : decode cL_law_ 894 = .ok (.iload 4, 2) := by decide +kernel
theorem dL_law__896 : decode cL_law_ 896 = .ok (.iconst 1, 1) := by decide +kernel
theorem dL_law__897 : decode cL_law_ 897 = .ok (.iadd, 1) := by decide +kernel
theorem dL_law__898 : decode cL_law_ 898 = .ok (.iaload, 1) := by decide +kernel
theorem dL_law__899 : decode cL_law_ 899 = .ok (.aload_n 0, 1) := by decide +kernel
theorem dL_law__900 : decode cL_law_ 900 = .ok (.iload 4, 2) := by decide +kernel
theorem dL_law__902 : decode cL_law_ 902 = .ok (.iconst 2, 1) := by decide +kernel
theorem dL_law__903 : decode cL_law_ 903 = .ok (.iadd, 1) := by decide +kernel
theorem dL_law__904 : decode cL_law_ 904 = .ok (.iaload, 1) := by decide +kernel
theorem dL_law__905 : decode cL_law_ 905 = .ok (.aload_n 0, 1) := by decide +kernel
theorem dL_law__906 : decode cL_law_ 906 = .ok (.iload 4, 2) := by decide +kernel
theorem dL_law__908 : decode cL_law_ 908 = .ok (.iconst 3, 1) := by decide +kernel
theorem dL_law__909 : decode cL_law_ 909 = .ok (.iadd, 1) := by decide +kernel
theorem dL_law__910 : decode cL_law_ 910 = .ok (.iaload, 1) := by decide +kernel
theorem dL_law__911 : decode cL_law_ 911 = .ok (.aload_n 0, 1) := by decide +kernel
theorem dL_law__912 : decode cL_law_ 912 = .ok (.iload 4, 2) := by decide +kernel
theorem dL_law__914 : decode cL_law_ 914 = .ok (.iconst 4, 1) := by decide +kernel
theorem dL_law__915 : decode cL_law_ 915 = .ok (.iadd, 1) := by decide +kernel
theorem dL_law__916 : decode cL_law_ 916 = .ok (.iaload, 1) := by decide +kernel
theorem dL_law__917 : decode cL_law_ 917 = .ok (.ifCond .eq 7, 3) := by decide +kernel
theorem dL_law__920 : decode cL_law_ 920 = .ok (.iconst 1, 1) := by decide +kernel
theorem dL_law__921 : decode cL_law_ 921 = .ok (.goto 4, 3) := by decide +kernel
theorem dL_law__924 : decode cL_law_ 924 = .ok (.iconst 0, 1) := by decide +kernel
theorem dL_law__925 : decode cL_law_ 925 = .ok (.aload_n 0, 1) := by decide +kernel
theorem dL_law__926 : decode cL_law_ 926 = .ok (.iload 4, 2) := by decide +kernel
theorem dL_law__928 : decode cL_law_ 928 = .ok (.iconst 5, 1) := by decide +kernel
theorem dL_law__929 : decode cL_law_ 929 = .ok (.iadd, 1) := by decide +kernel
theorem dL_law__930 : decode cL_law_ 930 = .ok (.iaload, 1) := by decide +kernel
theorem dL_law__931 : decode cL_law_ 931 = .ok (.invokevirtual 165, 3) := by decide +kernel
theorem dL_law__934 : decode cL_law_ 934 = .ok (.istore 6, 2) := by decide +kernel
theorem dL_law__936 : decode cL_law_ 936 = .ok (.aload_n 2, 1) := by decide +kernel
theorem dL_law__937 : decode cL_law_ 937 = .ok (.invokevirtual 133, 3) := by decide +kernel
theorem dL_law__940 : decode cL_law_ 940 = .ok (.iload 5, 2) := by decide +kernel
theorem dL_law__942 : decode cL_law_ 942 = .ok (.if_icmp .eq 5, 3) := by decide +kernel
theorem dL_law__945 : decode cL_law_ 945 = .ok (.iconst 0, 1) := by decide +kernel
theorem dL_law__946 : decode cL_law_ 946 = .ok (.ireturn, 1) := by decide +kernel
theorem dL_law__947 : decode cL_law_ 947 = .ok (.iload 5, 2) := by decide +kernel
theorem dL_law__949 : decode cL_law_ 949 = .ok (.ifCond .ne 15, 3) := by decide +kernel
theorem dL_law__952 : decode cL_law_ 952 = .ok (.aload_n 3, 1) := by decide +kernel
theorem dL_law__953 : decode cL_law_ 953 = .ok (.iconst 0, 1) := by decide +kernel
theorem dL_law__954 : decode cL_law_ 954 = .ok (.laload, 1) := by decide +kernel
theorem dL_law__955 : decode cL_law_ 955 = .ok (.iload 6, 2) := by decide +kernel
theorem dL_law__957 : decode cL_law_ 957 = .ok (.i2l, 1) := by decide +kernel
theorem dL_law__958 : decode cL_law_ 958 = .ok (.lcmp, 1) := by decide +kernel
theorem dL_law__959 : decode cL_law_ 959 = .ok (.ifCond .eq 5, 3) := by decide +kernel
theorem dL_law__962 : decode cL_law_ 962 = .ok (.iconst 0, 1) := by decide +kernel
theorem dL_law__963 : decode cL_law_ 963 = .ok (.ireturn, 1) := by decide +kernel
theorem dL_law__964 : decode cL_law_ 964 = .ok (.goto 1329, 3) := by decide +kernel
theorem dL_law__967 : decode cL_law_ 967 = .ok (.aload_n 1, 1) := by decide +kernel
theorem dL_law__968 : decode cL_law_ 968 = .ok (.aload_n 0, 1) := by decide +kernel
theorem dL_law__969 : decode cL_law_ 969 = .ok (.iload 4, 2) := by decide +kernel
theorem dL_law__971 : decode cL_law_ 971 = .ok (.iconst 1, 1) := by decide +kernel
theorem dL_law__972 : decode cL_law_ 972 = .ok (.iadd, 1) := by decide +kernel
theorem dL_law__973 : decode cL_law_ 973 = .ok (.iaload, 1) := by decide +kernel
theorem dL_law__974 : decode cL_law_ 974 = .ok (.aload_n 0, 1) := by decide +kernel
theorem dL_law__975 : decode cL_law_ 975 = .ok (.iload 4, 2) := by decide +kernel
theorem dL_law__977 : decode cL_law_ 977 = .ok (.iconst 2, 1) := by decide +kernel
theorem dL_law__978 : decode cL_law_ 978 = .ok (.iadd, 1) := by decide +kernel
theorem dL_law__979 : decode cL_law_ 979 = .ok (.iaload, 1) := by decide +kernel
theorem dL_law__980 : decode cL_law_ 980 = .ok (.aload_n 0, 1) := by decide +kernel
theorem dL_law__981 : decode cL_law_ 981 = .ok (.iload 4, 2) := by decide +kernel
theorem dL_law__983 : decode cL_law_ 983 = .ok (.iconst 3, 1) := by decide +kernel
theorem dL_law__984 : decode cL_law_ 984 = .ok (.iadd, 1) := by decide +kernel
theorem dL_law__985 : decode cL_law_ 985 = .ok (.iaload, 1) := by decide +kernel
theorem dL_law__986 : decode cL_law_ 986 = .ok (.aload_n 0, 1) := by decide +kernel
theorem dL_law__987 : decode cL_law_ 987 = .ok (.iload 4, 2) := by decide +kernel
theorem dL_law__989 : decode cL_law_ 989 = .ok (.iconst 4, 1) := by decide +kernel
theorem dL_law__990 : decode cL_law_ 990 = .ok (.iadd, 1) := by decide +kernel
theorem dL_law__991 : decode cL_law_ 991 = .ok (.iaload, 1) := by decide +kernel
theorem dL_law__992 : decode cL_law_ 992 = .ok (.aload_n 0, 1) := by decide +kernel
theorem dL_law__993 : decode cL_law_ 993 = .ok (.iload 4, 2) := by decide +kernel
theorem dL_law__995 : decode cL_law_ 995 = .ok (.iconst 5, 1) := by decide +kernel
theorem dL_law__996 : decode cL_law_ 996 = .ok (.iadd, 1) := by decide +kernel
theorem dL_law__997 : decode cL_law_ 997 = .ok (.iaload, 1) := by decide +kernel
theorem dL_law__998 : decode cL_law_ 998 = .ok (.ifCond .eq 7, 3) := by decide +kernel
theorem dL_law__1001 : decode cL_law_ 1001 = .ok (.iconst 1, 1) := by decide +kernel
theorem dL_law__1002 : decode cL_law_ 1002 = .ok (.goto 4, 3) := by decide +kernel
theorem dL_law__1005 : decode cL_law_ 1005 = .ok (.iconst 0, 1) := by decide +kernel
theorem dL_law__1006 : decode cL_law_ 1006 = .ok (.aload_n 3, 1) := by decide +kernel
theorem dL_law__1007 : decode cL_law_ 1007 = .ok (.invokestatic 166, 3) := by decide +kernel
theorem dL_law__1010 : decode cL_law_ 1010 = .ok (.istore 5, 2) := by decide +kernel
theorem dL_law__1012 : decode cL_law_ 1012 = .ok (.aload_n 2, 1) := by decide +kernel
theorem dL_law__1013 : decode cL_law_ 1013 = .ok (.aload_n 0, 1) := by decide +kernel
theorem dL_law__1014 : decode cL_law_ 1014 = .ok (.iload 4, 2) := by decide +kernel
theorem dL_law__1016 : decode cL_law_ 1016 = .ok (.iconst 1, 1) := by decide +kernel
theorem dL_law__1017 : decode cL_law_ 1017 = .ok (.iadd, 1) := by decide +kernel
theorem dL_law__1018 : decode cL_law_ 1018 = .ok (.iaload, 1) := by decide +kernel
theorem dL_law__1019 : decode cL_law_ 1019 = .ok (.aload_n 0, 1) := by decide +kernel
theorem dL_law__1020 : decode cL_law_ 1020 = .ok (.iload 4, 2) := by decide +kernel
theorem dL_law__1022 : decode cL_law_ 1022 = .ok (.iconst 2, 1) := by decide +kernel
theorem dL_law__1023 : decode cL_law_ 1023 = .ok (.iadd, 1) := by decide +kernel
theorem dL_law__1024 : decode cL_law_ 1024 = .ok (.iaload, 1) := by decide +kernel
theorem dL_law__1025 : decode cL_law_ 1025 = .ok (.aload_n 0, 1) := by decide +kernel
theorem dL_law__1026 : decode cL_law_ 1026 = .ok (.iload 4, 2) := by decide +kernel
theorem dL_law__1028 : decode cL_law_ 1028 = .ok (.iconst 3, 1) := by decide +kernel
theorem dL_law__1029 : decode cL_law_ 1029 = .ok (.iadd, 1) := by decide +kernel
theorem dL_law__1030 : decode cL_law_ 1030 = .ok (.iaload, 1) := by decide +kernel
theorem dL_law__1031 : decode cL_law_ 1031 = .ok (.aload_n 0, 1) := by decide +kernel
theorem dL_law__1032 : decode cL_law_ 1032 = .ok (.iload 4, 2) := by decide +kernel
theorem dL_law__1034 : decode cL_law_ 1034 = .ok (.iconst 4, 1) := by decide +kernel
theorem dL_law__1035 : decode cL_law_ 1035 = .ok (.iadd, 1) := by decide +kernel
theorem dL_law__1036 : decode cL_law_ 1036 = .ok (.iaload, 1) := by decide +kernel
theorem dL_law__1037 : decode cL_law_ 1037 = .ok (.aload_n 0, 1) := by decide +kernel
theorem dL_law__1038 : decode cL_law_ 1038 = .ok (.iload 4, 2) := by decide +kernel
theorem dL_law__1040 : decode cL_law_ 1040 = .ok (.iconst 5, 1) := by decide +kernel
theorem dL_law__1041 : decode cL_law_ 1041 = .ok (.iadd, 1) := by decide +kernel
theorem dL_law__1042 : decode cL_law_ 1042 = .ok (.iaload, 1) := by decide +kernel
theorem dL_law__1043 : decode cL_law_ 1043 = .ok (.ifCond .eq 7, 3) := by decide +kernel
theorem dL_law__1046 : decode cL_law_ 1046 = .ok (.iconst 1, 1) := by decide +kernel
theorem dL_law__1047 : decode cL_law_ 1047 = .ok (.goto 4, 3) := by decide +kernel
theorem dL_law__1050 : decode cL_law_ 1050 = .ok (.iconst 0, 1) := by decide +kernel
theorem dL_law__1051 : decode cL_law_ 1051 = .ok (.invokevirtual 169, 3) := by decide +kernel
theorem dL_law__1054 : decode cL_law_ 1054 = .ok (.istore 6, 2) := by decide +kernel
theorem dL_law__1056 : decode cL_law_ 1056 = .ok (.aload_n 2, 1) := by decide +kernel
theorem dL_law__1057 : decode cL_law_ 1057 = .ok (.invokevirtual 133, 3) := by decide +kernel
theorem dL_law__1060 : decode cL_law_ 1060 = .ok (.iload 5, 2) := by decide +kernel
theorem dL_law__1062 : decode cL_law_ 1062 = .ok (.if_icmp .eq 5, 3) := by decide +kernel
theorem dL_law__1065 : decode cL_law_ 1065 = .ok (.iconst 0, 1) := by decide +kernel
theorem dL_law__1066 : decode cL_law_ 1066 = .ok (.ireturn, 1) := by decide +kernel
theorem dL_law__1067 : decode cL_law_ 1067 = .ok (.iload 5, 2) := by decide +kernel
theorem dL_law__1069 : decode cL_law_ 1069 = .ok (.ifCond .ne 15, 3) := by decide +kernel
theorem dL_law__1072 : decode cL_law_ 1072 = .ok (.aload_n 3, 1) := by decide +kernel
theorem dL_law__1073 : decode cL_law_ 1073 = .ok (.iconst 0, 1) := by decide +kernel
theorem dL_law__1074 : decode cL_law_ 1074 = .ok (.laload, 1) := by decide +kernel
theorem dL_law__1075 : decode cL_law_ 1075 = .ok (.iload 6, 2) := by decide +kernel
theorem dL_law__1077 : decode cL_law_ 1077 = .ok (.i2l, 1) := by decide +kernel
theorem dL_law__1078 : decode cL_law_ 1078 = .ok (.lcmp, 1) := by decide +kernel
theorem dL_law__1079 : decode cL_law_ 1079 = .ok (.ifCond .eq 5, 3) := by decide +kernel
theorem dL_law__1082 : decode cL_law_ 1082 = .ok (.iconst 0, 1) := by decide +kernel
theorem dL_law__1083 : decode cL_law_ 1083 = .ok (.ireturn, 1) := by decide +kernel
theorem dL_law__1084 : decode cL_law_ 1084 = .ok (.goto 1209, 3) := by decide +kernel
theorem dL_law__1087 : decode cL_law_ 1087 = .ok (.aload_n 1, 1) := by decide +kernel
theorem dL_law__1088 : decode cL_law_ 1088 = .ok (.aload_n 0, 1) := by decide +kernel
theorem dL_law__1089 : decode cL_law_ 1089 = .ok (.iload 4, 2) := by decide +kernel
theorem dL_law__1091 : decode cL_law_ 1091 = .ok (.iconst 1, 1) := by decide +kernel
theorem dL_law__1092 : decode cL_law_ 1092 = .ok (.iadd, 1) := by decide +kernel
theorem dL_law__1093 : decode cL_law_ 1093 = .ok (.iaload, 1) := by decide +kernel
theorem dL_law__1094 : decode cL_law_ 1094 = .ok (.aload_n 0, 1) := by decide +kernel
theorem dL_law__1095 : decode cL_law_ 1095 = .ok (.iload 4, 2) := by decide +kernel
theorem dL_law__1097 : decode cL_law_ 1097 = .ok (.iconst 2, 1) := by decide +kernel
theorem dL_law__1098 : decode cL_law_ 1098 = .ok (.iadd, 1) := by decide +kernel
theorem dL_law__1099 : decode cL_law_ 1099 = .ok (.iaload, 1) := by decide +kernel
theorem dL_law__1100 : decode cL_law_ 1100 = .ok (.aload_n 3, 1) := by decide +kernel
theorem dL_law__1101 : decode cL_law_ 1101 = .ok (.invokestatic 170, 3) := by decide +kernel
theorem dL_law__1104 : decode cL_law_ 1104 = .ok (.istore 5, 2) := by decide +kernel
theorem dL_law__1106 : decode cL_law_ 1106 = .ok (.aload_n 2, 1) := by decide +kernel
theorem dL_law__1107 : decode cL_law_ 1107 = .ok (.aload_n 0, 1) := by decide +kernel
theorem dL_law__1108 : decode cL_law_ 1108 = .ok (.iload 4, 2) := by decide +kernel
theorem dL_law__1110 : decode cL_law_ 1110 = .ok (.iconst 1, 1) := by decide +kernel
theorem dL_law__1111 : decode cL_law_ 1111 = .ok (.iadd, 1) := by decide +kernel
theorem dL_law__1112 : decode cL_law_ 1112 = .ok (.iaload, 1) := by decide +kernel
theorem dL_law__1113 : decode cL_law_ 1113 = .ok (.aload_n 0, 1) := by decide +kernel
theorem dL_law__1114 : decode cL_law_ 1114 = .ok (.iload 4, 2) := by decide +kernel
theorem dL_law__1116 : decode cL_law_ 1116 = .ok (.iconst 2, 1) := by decide +kernel
theorem dL_law__1117 : decode cL_law_ 1117 = .ok (.iadd, 1) := by decide +kernel
theorem dL_law__1118 : decode cL_law_ 1118 = .ok (.iaload, 1) := by decide +kernel
theorem dL_law__1119 : decode cL_law_ 1119 = .ok (.invokevirtual 172, 3) := by decide +kernel
theorem dL_law__1122 : decode cL_law_ 1122 = .ok (.istore 6, 2) := by decide +kernel
theorem dL_law__1124 : decode cL_law_ 1124 = .ok (.aload_n 2, 1) := by decide +kernel
theorem dL_law__1125 : decode cL_law_ 1125 = .ok (.invokevirtual 133, 3) := by decide +kernel
theorem dL_law__1128 : decode cL_law_ 1128 = .ok (.iload 5, 2) := by decide +kernel
theorem dL_law__1130 : decode cL_law_ 1130 = .ok (.if_icmp .eq 5, 3) := by decide +kernel
theorem dL_law__1133 : decode cL_law_ 1133 = .ok (.iconst 0, 1) := by decide +kernel
theorem dL_law__1134 : decode cL_law_ 1134 = .ok (.ireturn, 1) := by decide +kernel
theorem dL_law__1135 : decode cL_law_ 1135 = .ok (.iload 5, 2) := by decide +kernel
theorem dL_law__1137 : decode cL_law_ 1137 = .ok (.ifCond .ne 15, 3) := by decide +kernel
theorem dL_law__1140 : decode cL_law_ 1140 = .ok (.aload_n 3, 1) := by decide +kernel
theorem dL_law__1141 : decode cL_law_ 1141 = .ok (.iconst 0, 1) := by decide +kernel
theorem dL_law__1142 : decode cL_law_ 1142 = .ok (.laload, 1) := by decide +kernel
theorem dL_law__1143 : decode cL_law_ 1143 = .ok (.iload 6, 2) := by decide +kernel
theorem dL_law__1145 : decode cL_law_ 1145 = .ok (.i2l, 1) := by decide +kernel
theorem dL_law__1146 : decode cL_law_ 1146 = .ok (.lcmp, 1) := by decide +kernel
theorem dL_law__1147 : decode cL_law_ 1147 = .ok (.ifCond .eq 5, 3) := by decide +kernel
theorem dL_law__1150 : decode cL_law_ 1150 = .ok (.iconst 0, 1) := by decide +kernel
theorem dL_law__1151 : decode cL_law_ 1151 = .ok (.ireturn, 1) := by decide +kernel
theorem dL_law__1152 : decode cL_law_ 1152 = .ok (.goto 1141, 3) := by decide +kernel
theorem dL_law__1155 : decode cL_law_ 1155 = .ok (.aload_n 1, 1) := by decide +kernel
theorem dL_law__1156 : decode cL_law_ 1156 = .ok (.aload_n 0, 1) := by decide +kernel
theorem dL_law__1157 : decode cL_law_ 1157 = .ok (.iload 4, 2) := by decide +kernel
theorem dL_law__1159 : decode cL_law_ 1159 = .ok (.iconst 1, 1) := by decide +kernel
theorem dL_law__1160 : decode cL_law_ 1160 = .ok (.iadd, 1) := by decide +kernel
theorem dL_law__1161 : decode cL_law_ 1161 = .ok (.iaload, 1) := by decide +kernel
theorem dL_law__1162 : decode cL_law_ 1162 = .ok (.aload_n 0, 1) := by decide +kernel
theorem dL_law__1163 : decode cL_law_ 1163 = .ok (.iload 4, 2) := by decide +kernel
theorem dL_law__1165 : decode cL_law_ 1165 = .ok (.iconst 2, 1) := by decide +kernel
theorem dL_law__1166 : decode cL_law_ 1166 = .ok (.iadd, 1) := by decide +kernel
theorem dL_law__1167 : decode cL_law_ 1167 = .ok (.iaload, 1) := by decide +kernel
theorem dL_law__1168 : decode cL_law_ 1168 = .ok (.invokestatic 173, 3) := by decide +kernel
theorem dL_law__1171 : decode cL_law_ 1171 = .ok (.istore 5, 2) := by decide +kernel
theorem dL_law__1173 : decode cL_law_ 1173 = .ok (.aload_n 2, 1) := by decide +kernel
theorem dL_law__1174 : decode cL_law_ 1174 = .ok (.aload_n 0, 1) := by decide +kernel
theorem dL_law__1175 : decode cL_law_ 1175 = .ok (.iload 4, 2) := by decide +kernel
theorem dL_law__1177 : decode cL_law_ 1177 = .ok (.iconst 1, 1) := by decide +kernel
theorem dL_law__1178 : decode cL_law_ 1178 = .ok (.iadd, 1) := by decide +kernel
theorem dL_law__1179 : decode cL_law_ 1179 = .ok (.iaload, 1) := by decide +kernel
theorem dL_law__1180 : decode cL_law_ 1180 = .ok (.aload_n 0, 1) := by decide +kernel
theorem dL_law__1181 : decode cL_law_ 1181 = .ok (.iload 4, 2) := by decide +kernel
theorem dL_law__1183 : decode cL_law_ 1183 = .ok (.iconst 2, 1) := by decide +kernel
theorem dL_law__1184 : decode cL_law_ 1184 = .ok (.iadd, 1) := by decide +kernel
theorem dL_law__1185 : decode cL_law_ 1185 = .ok (.iaload, 1) := by decide +kernel
theorem dL_law__1186 : decode cL_law_ 1186 = .ok (.invokevirtual 176, 3) := by decide +kernel
theorem dL_law__1189 : decode cL_law_ 1189 = .ok (.aload_n 2, 1) := by decide +kernel
theorem dL_law__1190 : decode cL_law_ 1190 = .ok (.invokevirtual 133, 3) := by decide +kernel
theorem dL_law__1193 : decode cL_law_ 1193 = .ok (.iload 5, 2) := by decide +kernel
theorem dL_law__1195 : decode cL_law_ 1195 = .ok (.if_icmp .eq 5, 3) := by decide +kernel
theorem dL_law__1198 : decode cL_law_ 1198 = .ok (.iconst 0, 1) := by decide +kernel
theorem dL_law__1199 : decode cL_law_ 1199 = .ok (.ireturn, 1) := by decide +kernel
theorem dL_law__1200 : decode cL_law_ 1200 = .ok (.goto 1093, 3) := by decide +kernel
theorem dL_law__1203 : decode cL_law_ 1203 = .ok (.aload_n 1, 1) := by decide +kernel
theorem dL_law__1204 : decode cL_law_ 1204 = .ok (.aload_n 0, 1) := by decide +kernel
theorem dL_law__1205 : decode cL_law_ 1205 = .ok (.iload 4, 2) := by decide +kernel
theorem dL_law__1207 : decode cL_law_ 1207 = .ok (.iconst 1, 1) := by decide +kernel
theorem dL_law__1208 : decode cL_law_ 1208 = .ok (.iadd, 1) := by decide +kernel
theorem dL_law__1209 : decode cL_law_ 1209 = .ok (.iaload, 1) := by decide +kernel
theorem dL_law__1210 : decode cL_law_ 1210 = .ok (.aload_n 0, 1) := by decide +kernel
theorem dL_law__1211 : decode cL_law_ 1211 = .ok (.iload 4, 2) := by decide +kernel
theorem dL_law__1213 : decode cL_law_ 1213 = .ok (.iconst 2, 1) := by decide +kernel
theorem dL_law__1214 : decode cL_law_ 1214 = .ok (.iadd, 1) := by decide +kernel
theorem dL_law__1215 : decode cL_law_ 1215 = .ok (.iaload, 1) := by decide +kernel
theorem dL_law__1216 : decode cL_law_ 1216 = .ok (.aload_n 0, 1) := by decide +kernel
theorem dL_law__1217 : decode cL_law_ 1217 = .ok (.iload 4, 2) := by decide +kernel
theorem dL_law__1219 : decode cL_law_ 1219 = .ok (.iconst 3, 1) := by decide +kernel
theorem dL_law__1220 : decode cL_law_ 1220 = .ok (.iadd, 1) := by decide +kernel
theorem dL_law__1221 : decode cL_law_ 1221 = .ok (.iaload, 1) := by decide +kernel
theorem dL_law__1222 : decode cL_law_ 1222 = .ok (.aload_n 0, 1) := by decide +kernel
theorem dL_law__1223 : decode cL_law_ 1223 = .ok (.iload 4, 2) := by decide +kernel
theorem dL_law__1225 : decode cL_law_ 1225 = .ok (.iconst 4, 1) := by decide +kernel
theorem dL_law__1226 : decode cL_law_ 1226 = .ok (.iadd, 1) := by decide +kernel
theorem dL_law__1227 : decode cL_law_ 1227 = .ok (.iaload, 1) := by decide +kernel
theorem dL_law__1228 : decode cL_law_ 1228 = .ok (.aload_n 0, 1) := by decide +kernel
theorem dL_law__1229 : decode cL_law_ 1229 = .ok (.iload 4, 2) := by decide +kernel
theorem dL_law__1231 : decode cL_law_ 1231 = .ok (.iconst 5, 1) := by decide +kernel
theorem dL_law__1232 : decode cL_law_ 1232 = .ok (.iadd, 1) := by decide +kernel
theorem dL_law__1233 : decode cL_law_ 1233 = .ok (.iaload, 1) := by decide +kernel
theorem dL_law__1234 : decode cL_law_ 1234 = .ok (.aload_n 3, 1) := by decide +kernel
theorem dL_law__1235 : decode cL_law_ 1235 = .ok (.invokestatic 177, 3) := by decide +kernel
theorem dL_law__1238 : decode cL_law_ 1238 = .ok (.istore 5, 2) := by decide +kernel
theorem dL_law__1240 : decode cL_law_ 1240 = .ok (.aload_n 2, 1) := by decide +kernel
theorem dL_law__1241 : decode cL_law_ 1241 = .ok (.aload_n 0, 1) := by decide +kernel
theorem dL_law__1242 : decode cL_law_ 1242 = .ok (.iload 4, 2) := by decide +kernel
theorem dL_law__1244 : decode cL_law_ 1244 = .ok (.iconst 1, 1) := by decide +kernel
theorem dL_law__1245 : decode cL_law_ 1245 = .ok (.iadd, 1) := by decide +kernel
theorem dL_law__1246 : decode cL_law_ 1246 = .ok (.iaload, 1) := by decide +kernel
theorem dL_law__1247 : decode cL_law_ 1247 = .ok (.aload_n 0, 1) := by decide +kernel
theorem dL_law__1248 : decode cL_law_ 1248 = .ok (.iload 4, 2) := by decide +kernel
theorem dL_law__1250 : decode cL_law_ 1250 = .ok (.iconst 2, 1) := by decide +kernel
theorem dL_law__1251 : decode cL_law_ 1251 = .ok (.iadd, 1) := by decide +kernel
theorem dL_law__1252 : decode cL_law_ 1252 = .ok (.iaload, 1) := by decide +kernel
theorem dL_law__1253 : decode cL_law_ 1253 = .ok (.aload_n 0, 1) := by decide +kernel
theorem dL_law__1254 : decode cL_law_ 1254 = .ok (.iload 4, 2) := by decide +kernel
theorem dL_law__1256 : decode cL_law_ 1256 = .ok (.iconst 3, 1) := by decide +kernel
theorem dL_law__1257 : decode cL_law_ 1257 = .ok (.iadd, 1) := by decide +kernel
theorem dL_law__1258 : decode cL_law_ 1258 = .ok (.iaload, 1) := by decide +kernel
theorem dL_law__1259 : decode cL_law_ 1259 = .ok (.aload_n 0, 1) := by decide +kernel
theorem dL_law__1260 : decode cL_law_ 1260 = .ok (.iload 4, 2) := by decide +kernel
theorem dL_law__1262 : decode cL_law_ 1262 = .ok (.iconst 4, 1) := by decide +kernel
theorem dL_law__1263 : decode cL_law_ 1263 = .ok (.iadd, 1) := by decide +kernel
theorem dL_law__1264 : decode cL_law_ 1264 = .ok (.iaload, 1) := by decide +kernel
theorem dL_law__1265 : decode cL_law_ 1265 = .ok (.aload_n 0, 1) := by decide +kernel
theorem dL_law__1266 : decode cL_law_ 1266 = .ok (.iload 4, 2) := by decide +kernel
theorem dL_law__1268 : decode cL_law_ 1268 = .ok (.iconst 5, 1) := by decide +kernel
theorem dL_law__1269 : decode cL_law_ 1269 = .ok (.iadd, 1) := by decide +kernel
theorem dL_law__1270 : decode cL_law_ 1270 = .ok (.iaload, 1) := by decide +kernel
theorem dL_law__1271 : decode cL_law_ 1271 = .ok (.invokevirtual 180, 3) := by decide +kernel
theorem dL_law__1274 : decode cL_law_ 1274 = .ok (.istore 6, 2) := by decide +kernel
theorem dL_law__1276 : decode cL_law_ 1276 = .ok (.aload_n 2, 1) := by decide +kernel
theorem dL_law__1277 : decode cL_law_ 1277 = .ok (.invokevirtual 133, 3) := by decide +kernel
theorem dL_law__1280 : decode cL_law_ 1280 = .ok (.iload 5, 2) := by decide +kernel
theorem dL_law__1282 : decode cL_law_ 1282 = .ok (.if_icmp .eq 5, 3) := by decide +kernel
theorem dL_law__1285 : decode cL_law_ 1285 = .ok (.iconst 0, 1) := by decide +kernel
theorem dL_law__1286 : decode cL_law_ 1286 = .ok (.ireturn, 1) := by decide +kernel
theorem dL_law__1287 : decode cL_law_ 1287 = .ok (.iload 5, 2) := by decide +kernel
theorem dL_law__1289 : decode cL_law_ 1289 = .ok (.ifCond .ne 15, 3) := by decide +kernel
theorem dL_law__1292 : decode cL_law_ 1292 = .ok (.aload_n 3, 1) := by decide +kernel
theorem dL_law__1293 : decode cL_law_ 1293 = .ok (.iconst 0, 1) := by decide +kernel
theorem dL_law__1294 : decode cL_law_ 1294 = .ok (.laload, 1) := by decide +kernel
theorem dL_law__1295 : decode cL_law_ 1295 = .ok (.iload 6, 2) := by decide +kernel
theorem dL_law__1297 : decode cL_law_ 1297 = .ok (.i2l, 1) := by decide +kernel
theorem dL_law__1298 : decode cL_law_ 1298 = .ok (.lcmp, 1) := by decide +kernel
theorem dL_law__1299 : decode cL_law_ 1299 = .ok (.ifCond .eq 5, 3) := by decide +kernel
theorem dL_law__1302 : decode cL_law_ 1302 = .ok (.iconst 0, 1) := by decide +kernel
theorem dL_law__1303 : decode cL_law_ 1303 = .ok (.ireturn, 1) := by decide +kernel
theorem dL_law__1304 : decode cL_law_ 1304 = .ok (.goto 989, 3) := by decide +kernel
theorem dL_law__1307 : decode cL_law_ 1307 = .ok (.aload_n 1, 1) := by decide +kernel
theorem dL_law__1308 : decode cL_law_ 1308 = .ok (.aload_n 0, 1) := by decide +kernel
theorem dL_law__1309 : decode cL_law_ 1309 = .ok (.iload 4, 2) := by decide +kernel
theorem dL_law__1311 : decode cL_law_ 1311 = .ok (.iconst 1, 1) := by decide +kernel
theorem dL_law__1312 : decode cL_law_ 1312 = .ok (.iadd, 1) := by decide +kernel
theorem dL_law__1313 : decode cL_law_ 1313 = .ok (.iaload, 1) := by decide +kernel
theorem dL_law__1314 : decode cL_law_ 1314 = .ok (.aload_n 0, 1) := by decide +kernel
theorem dL_law__1315 : decode cL_law_ 1315 = .ok (.iload 4, 2) := by decide +kernel
theorem dL_law__1317 : decode cL_law_ 1317 = .ok (.iconst 2, 1) := by decide +kernel
theorem dL_law__1318 : decode cL_law_ 1318 = .ok (.iadd, 1) := by decide +kernel
theorem dL_law__1319 : decode cL_law_ 1319 = .ok (.iaload, 1) := by decide +kernel
theorem dL_law__1320 : decode cL_law_ 1320 = .ok (.aload_n 3, 1) := by decide +kernel
theorem dL_law__1321 : decode cL_law_ 1321 = .ok (.invokestatic 181, 3) := by decide +kernel
theorem dL_law__1324 : decode cL_law_ 1324 = .ok (.istore 5, 2) := by decide +kernel
theorem dL_law__1326 : decode cL_law_ 1326 = .ok (.aload_n 2, 1) := by decide +kernel
theorem dL_law__1327 : decode cL_law_ 1327 = .ok (.aload_n 0, 1) := by decide +kernel
theorem dL_law__1328 : decode cL_law_ 1328 = .ok (.iload 4, 2) := by decide +kernel
theorem dL_law__1330 : decode cL_law_ 1330 = .ok (.iconst 1, 1) := by decide +kernel
theorem dL_law__1331 : decode cL_law_ 1331 = .ok (.iadd, 1) := by decide +kernel
theorem dL_law__1332 : decode cL_law_ 1332 = .ok (.iaload, 1) := by decide +kernel
theorem dL_law__1333 : decode cL_law_ 1333 = .ok (.aload_n 0, 1) := by decide +kernel
theorem dL_law__1334 : decode cL_law_ 1334 = .ok (.iload 4, 2) := by decide +kernel
theorem dL_law__1336 : decode cL_law_ 1336 = .ok (.iconst 2, 1) := by decide +kernel
theorem dL_law__1337 : decode cL_law_ 1337 = .ok (.iadd, 1) := by decide +kernel
theorem dL_law__1338 : decode cL_law_ 1338 = .ok (.iaload, 1) := by decide +kernel
theorem dL_law__1339 : decode cL_law_ 1339 = .ok (.invokevirtual 183, 3) := by decide +kernel
theorem dL_law__1342 : decode cL_law_ 1342 = .ok (.istore 6, 2) := by decide +kernel
theorem dL_law__1344 : decode cL_law_ 1344 = .ok (.aload_n 2, 1) := by decide +kernel
theorem dL_law__1345 : decode cL_law_ 1345 = .ok (.invokevirtual 133, 3) := by decide +kernel
theorem dL_law__1348 : decode cL_law_ 1348 = .ok (.iload 5, 2) := by decide +kernel
theorem dL_law__1350 : decode cL_law_ 1350 = .ok (.if_icmp .eq 5, 3) := by decide +kernel
theorem dL_law__1353 : decode cL_law_ 1353 = .ok (.iconst 0, 1) := by decide +kernel
theorem dL_law__1354 : decode cL_law_ 1354 = .ok (.ireturn, 1) := by decide +kernel
theorem dL_law__1355 : decode cL_law_ 1355 = .ok (.iload 5, 2) := by decide +kernel
theorem dL_law__1357 : decode cL_law_ 1357 = .ok (.ifCond .ne 15, 3) := by decide +kernel
theorem dL_law__1360 : decode cL_law_ 1360 = .ok (.aload_n 3, 1) := by decide +kernel
theorem dL_law__1361 : decode cL_law_ 1361 = .ok (.iconst 0, 1) := by decide +kernel
theorem dL_law__1362 : decode cL_law_ 1362 = .ok (.laload, 1) := by decide +kernel
theorem dL_law__1363 : decode cL_law_ 1363 = .ok (.iload 6, 2) := by decide +kernel
theorem dL_law__1365 : decode cL_law_ 1365 = .ok (.i2l, 1) := by decide +kernel
theorem dL_law__1366 : decode cL_law_ 1366 = .ok (.lcmp, 1) := by decide +kernel
theorem dL_law__1367 : decode cL_law_ 1367 = .ok (.ifCond .eq 5, 3) := by decide +kernel
theorem dL_law__1370 : decode cL_law_ 1370 = .ok (.iconst 0, 1) := by decide +kernel
theorem dL_law__1371 : decode cL_law_ 1371 = .ok (.ireturn, 1) := by decide +kernel
theorem dL_law__1372 : decode cL_law_ 1372 = .ok (.goto 921, 3) := by decide +kernel
theorem dL_law__1375 : decode cL_law_ 1375 = .ok (.aload_n 1, 1) := by decide +kernel
theorem dL_law__1376 : decode cL_law_ 1376 = .ok (.aload_n 0, 1) := by decide +kernel
theorem dL_law__1377 : decode cL_law_ 1377 = .ok (.iload 4, 2) := by decide +kernel
theorem dL_law__1379 : decode cL_law_ 1379 = .ok (.iconst 1, 1) := by decide +kernel
theorem dL_law__1380 : decode cL_law_ 1380 = .ok (.iadd, 1) := by decide +kernel
theorem dL_law__1381 : decode cL_law_ 1381 = .ok (.iaload, 1) := by decide +kernel
theorem dL_law__1382 : decode cL_law_ 1382 = .ok (.aload_n 0, 1) := by decide +kernel
theorem dL_law__1383 : decode cL_law_ 1383 = .ok (.iload 4, 2) := by decide +kernel
theorem dL_law__1385 : decode cL_law_ 1385 = .ok (.iconst 2, 1) := by decide +kernel
theorem dL_law__1386 : decode cL_law_ 1386 = .ok (.iadd, 1) := by decide +kernel
theorem dL_law__1387 : decode cL_law_ 1387 = .ok (.iaload, 1) := by decide +kernel
theorem dL_law__1388 : decode cL_law_ 1388 = .ok (.aload_n 0, 1) := by decide +kernel
theorem dL_law__1389 : decode cL_law_ 1389 = .ok (.iload 4, 2) := by decide +kernel
theorem dL_law__1391 : decode cL_law_ 1391 = .ok (.iconst 3, 1) := by decide +kernel
theorem dL_law__1392 : decode cL_law_ 1392 = .ok (.iadd, 1) := by decide +kernel
theorem dL_law__1393 : decode cL_law_ 1393 = .ok (.iaload, 1) := by decide +kernel
theorem dL_law__1394 : decode cL_law_ 1394 = .ok (.aload_n 0, 1) := by decide +kernel
theorem dL_law__1395 : decode cL_law_ 1395 = .ok (.iload 4, 2) := by decide +kernel
theorem dL_law__1397 : decode cL_law_ 1397 = .ok (.iconst 4, 1) := by decide +kernel
theorem dL_law__1398 : decode cL_law_ 1398 = .ok (.iadd, 1) := by decide +kernel
theorem dL_law__1399 : decode cL_law_ 1399 = .ok (.iaload, 1) := by decide +kernel
theorem dL_law__1400 : decode cL_law_ 1400 = .ok (.aload_n 0, 1) := by decide +kernel
theorem dL_law__1401 : decode cL_law_ 1401 = .ok (.iload 4, 2) := by decide +kernel
theorem dL_law__1403 : decode cL_law_ 1403 = .ok (.iconst 5, 1) := by decide +kernel
theorem dL_law__1404 : decode cL_law_ 1404 = .ok (.iadd, 1) := by decide +kernel
theorem dL_law__1405 : decode cL_law_ 1405 = .ok (.iaload, 1) := by decide +kernel
theorem dL_law__1406 : decode cL_law_ 1406 = .ok (.invokestatic 184, 3) := by decide +kernel
theorem dL_law__1409 : decode cL_law_ 1409 = .ok (.istore 5, 2) := by decide +kernel
theorem dL_law__1411 : decode cL_law_ 1411 = .ok (.aload_n 2, 1) := by decide +kernel
theorem dL_law__1412 : decode cL_law_ 1412 = .ok (.aload_n 0, 1) := by decide +kernel
theorem dL_law__1413 : decode cL_law_ 1413 = .ok (.iload 4, 2) := by decide +kernel
theorem dL_law__1415 : decode cL_law_ 1415 = .ok (.iconst 1, 1) := by decide +kernel
theorem dL_law__1416 : decode cL_law_ 1416 = .ok (.iadd, 1) := by decide +kernel
theorem dL_law__1417 : decode cL_law_ 1417 = .ok (.iaload, 1) := by decide +kernel
theorem dL_law__1418 : decode cL_law_ 1418 = .ok (.aload_n 0, 1) := by decide +kernel
theorem dL_law__1419 : decode cL_law_ 1419 = .ok (.iload 4, 2) := by decide +kernel
theorem dL_law__1421 : decode cL_law_ 1421 = .ok (.iconst 2, 1) := by decide +kernel
theorem dL_law__1422 : decode cL_law_ 1422 = .ok (.iadd, 1) := by decide +kernel
theorem dL_law__1423 : decode cL_law_ 1423 = .ok (.iaload, 1) := by decide +kernel
theorem dL_law__1424 : decode cL_law_ 1424 = .ok (.aload_n 0, 1) := by decide +kernel
theorem dL_law__1425 : decode cL_law_ 1425 = .ok (.iload 4, 2) := by decide +kernel
theorem dL_law__1427 : decode cL_law_ 1427 = .ok (.iconst 3, 1) := by decide +kernel
theorem dL_law__1428 : decode cL_law_ 1428 = .ok (.iadd, 1) := by decide +kernel
theorem dL_law__1429 : decode cL_law_ 1429 = .ok (.iaload, 1) := by decide +kernel
theorem dL_law__1430 : decode cL_law_ 1430 = .ok (.aload_n 0, 1) := by decide +kernel
theorem dL_law__1431 : decode cL_law_ 1431 = .ok (.iload 4, 2) := by decide +kernel
theorem dL_law__1433 : decode cL_law_ 1433 = .ok (.iconst 4, 1) := by decide +kernel
theorem dL_law__1434 : decode cL_law_ 1434 = .ok (.iadd, 1) := by decide +kernel
theorem dL_law__1435 : decode cL_law_ 1435 = .ok (.iaload, 1) := by decide +kernel
theorem dL_law__1436 : decode cL_law_ 1436 = .ok (.aload_n 0, 1) := by decide +kernel
theorem dL_law__1437 : decode cL_law_ 1437 = .ok (.iload 4, 2) := by decide +kernel
theorem dL_law__1439 : decode cL_law_ 1439 = .ok (.iconst 5, 1) := by decide +kernel
theorem dL_law__1440 : decode cL_law_ 1440 = .ok (.iadd, 1) := by decide +kernel
theorem dL_law__1441 : decode cL_law_ 1441 = .ok (.iaload, 1) := by decide +kernel
theorem dL_law__1442 : decode cL_law_ 1442 = .ok (.invokevirtual 187, 3) := by decide +kernel
theorem dL_law__1445 : decode cL_law_ 1445 = .ok (.aload_n 2, 1) := by decide +kernel
theorem dL_law__1446 : decode cL_law_ 1446 = .ok (.invokevirtual 133, 3) := by decide +kernel
theorem dL_law__1449 : decode cL_law_ 1449 = .ok (.iload 5, 2) := by decide +kernel
theorem dL_law__1451 : decode cL_law_ 1451 = .ok (.if_icmp .eq 5, 3) := by decide +kernel
theorem dL_law__1454 : decode cL_law_ 1454 = .ok (.iconst 0, 1) := by decide +kernel
theorem dL_law__1455 : decode cL_law_ 1455 = .ok (.ireturn, 1) := by decide +kernel
theorem dL_law__1456 : decode cL_law_ 1456 = .ok (.goto 837, 3) := by decide +kernel
theorem dL_law__1459 : decode cL_law_ 1459 = .ok (.aload_n 1, 1) := by decide +kernel
theorem dL_law__1460 : decode cL_law_ 1460 = .ok (.aload_n 0, 1) := by decide +kernel
theorem dL_law__1461 : decode cL_law_ 1461 = .ok (.iload 4, 2) := by decide +kernel
theorem dL_law__1463 : decode cL_law_ 1463 = .ok (.iconst 1, 1) := by decide +kernel
theorem dL_law__1464 : decode cL_law_ 1464 = .ok (.iadd, 1) := by decide +kernel
theorem dL_law__1465 : decode cL_law_ 1465 = .ok (.iaload, 1) := by decide +kernel
theorem dL_law__1466 : decode cL_law_ 1466 = .ok (.invokestatic 188, 3) := by decide +kernel
theorem dL_law__1469 : decode cL_law_ 1469 = .ok (.istore 5, 2) := by decide +kernel
theorem dL_law__1471 : decode cL_law_ 1471 = .ok (.aload_n 2, 1) := by decide +kernel
theorem dL_law__1472 : decode cL_law_ 1472 = .ok (.aload_n 0, 1) := by decide +kernel
theorem dL_law__1473 : decode cL_law_ 1473 = .ok (.iload 4, 2) := by decide +kernel
theorem dL_law__1475 : decode cL_law_ 1475 = .ok (.iconst 1, 1) := by decide +kernel
theorem dL_law__1476 : decode cL_law_ 1476 = .ok (.iadd, 1) := by decide +kernel
theorem dL_law__1477 : decode cL_law_ 1477 = .ok (.iaload, 1) := by decide +kernel
theorem dL_law__1478 : decode cL_law_ 1478 = .ok (.invokevirtual 191, 3) := by decide +kernel
theorem dL_law__1481 : decode cL_law_ 1481 = .ok (.aload_n 2, 1) := by decide +kernel
theorem dL_law__1482 : decode cL_law_ 1482 = .ok (.invokevirtual 133, 3) := by decide +kernel
theorem dL_law__1485 : decode cL_law_ 1485 = .ok (.iload 5, 2) := by decide +kernel
theorem dL_law__1487 : decode cL_law_ 1487 = .ok (.if_icmp .eq 5, 3) := by decide +kernel
theorem dL_law__1490 : decode cL_law_ 1490 = .ok (.iconst 0, 1) := by decide +kernel
theorem dL_law__1491 : decode cL_law_ 1491 = .ok (.ireturn, 1) := by decide +kernel
theorem dL_law__1492 : decode cL_law_ 1492 = .ok (.goto 801, 3) := by decide +kernel
theorem dL_law__1495 : decode cL_law_ 1495 = .ok (.aload_n 1, 1) := by decide +kernel
theorem dL_law__1496 : decode cL_law_ 1496 = .ok (.aload_n 0, 1) := by decide +kernel
theorem dL_law__1497 : decode cL_law_ 1497 = .ok (.iload 4, 2) := by decide +kernel
theorem dL_law__1499 : decode cL_law_ 1499 = .ok (.iconst 1, 1) := by decide +kernel
theorem dL_law__1500 : decode cL_law_ 1500 = .ok (.iadd, 1) := by decide +kernel
theorem dL_law__1501 : decode cL_law_ 1501 = .ok (.iaload, 1) := by decide +kernel
theorem dL_law__1502 : decode cL_law_ 1502 = .ok (.aload_n 3, 1) := by decide +kernel
theorem dL_law__1503 : decode cL_law_ 1503 = .ok (.invokestatic 192, 3) := by decide +kernel
theorem dL_law__1506 : decode cL_law_ 1506 = .ok (.istore 5, 2) := by decide +kernel
theorem dL_law__1508 : decode cL_law_ 1508 = .ok (.aload_n 2, 1) := by decide +kernel
theorem dL_law__1509 : decode cL_law_ 1509 = .ok (.aload_n 0, 1) := by decide +kernel
theorem dL_law__1510 : decode cL_law_ 1510 = .ok (.iload 4, 2) := by decide +kernel
theorem dL_law__1512 : decode cL_law_ 1512 = .ok (.iconst 1, 1) := by decide +kernel
theorem dL_law__1513 : decode cL_law_ 1513 = .ok (.iadd, 1) := by decide +kernel
theorem dL_law__1514 : decode cL_law_ 1514 = .ok (.iaload, 1) := by decide +kernel
theorem dL_law__1515 : decode cL_law_ 1515 = .ok (.invokevirtual 194, 3) := by decide +kernel
theorem dL_law__1518 : decode cL_law_ 1518 = .ok (.istore 6, 2) := by decide +kernel
theorem dL_law__1520 : decode cL_law_ 1520 = .ok (.aload_n 2, 1) := by decide +kernel
theorem dL_law__1521 : decode cL_law_ 1521 = .ok (.invokevirtual 133, 3) := by decide +kernel
theorem dL_law__1524 : decode cL_law_ 1524 = .ok (.iload 5, 2) := by decide +kernel
theorem dL_law__1526 : decode cL_law_ 1526 = .ok (.if_icmp .eq 5, 3) := by decide +kernel
theorem dL_law__1529 : decode cL_law_ 1529 = .ok (.iconst 0, 1) := by decide +kernel
theorem dL_law__1530 : decode cL_law_ 1530 = .ok (.ireturn, 1) := by decide +kernel
theorem dL_law__1531 : decode cL_law_ 1531 = .ok (.iload 5, 2) := by decide +kernel
theorem dL_law__1533 : decode cL_law_ 1533 = .ok (.ifCond .ne 15, 3) := by decide +kernel
theorem dL_law__1536 : decode cL_law_ 1536 = .ok (.aload_n 3, 1) := by decide +kernel
theorem dL_law__1537 : decode cL_law_ 1537 = .ok (.iconst 0, 1) := by decide +kernel
theorem dL_law__1538 : decode cL_law_ 1538 = .ok (.laload, 1) := by decide +kernel
theorem dL_law__1539 : decode cL_law_ 1539 = .ok (.iload 6, 2) := by decide +kernel
theorem dL_law__1541 : decode cL_law_ 1541 = .ok (.i2l, 1) := by decide +kernel
theorem dL_law__1542 : decode cL_law_ 1542 = .ok (.lcmp, 1) := by decide +kernel
theorem dL_law__1543 : decode cL_law_ 1543 = .ok (.ifCond .eq 5, 3) := by decide +kernel
theorem dL_law__1546 : decode cL_law_ 1546 = .ok (.iconst 0, 1) := by decide +kernel
theorem dL_law__1547 : decode cL_law_ 1547 = .ok (.ireturn, 1) := by decide +kernel
theorem dL_law__1548 : decode cL_law_ 1548 = .ok (.goto 745, 3) := by decide +kernel
theorem dL_law__1551 : decode cL_law_ 1551 = .ok (.aload_n 1, 1) := by decide +kernel
theorem dL_law__1552 : decode cL_law_ 1552 = .ok (.aload_n 0, 1) := by decide +kernel
theorem dL_law__1553 : decode cL_law_ 1553 = .ok (.iload 4, 2) := by decide +kernel
theorem dL_law__1555 : decode cL_law_ 1555 = .ok (.iconst 1, 1) := by decide +kernel
theorem dL_law__1556 : decode cL_law_ 1556 = .ok (.iadd, 1) := by decide +kernel
theorem dL_law__1557 : decode cL_law_ 1557 = .ok (.iaload, 1) := by decide +kernel
theorem dL_law__1558 : decode cL_law_ 1558 = .ok (.aload_n 0, 1) := by decide +kernel
theorem dL_law__1559 : decode cL_law_ 1559 = .ok (.iload 4, 2) := by decide +kernel
theorem dL_law__1561 : decode cL_law_ 1561 = .ok (.iconst 2, 1) := by decide +kernel
theorem dL_law__1562 : decode cL_law_ 1562 = .ok (.iadd, 1) := by decide +kernel
theorem dL_law__1563 : decode cL_law_ 1563 = .ok (.iaload, 1) := by decide +kernel
theorem dL_law__1564 : decode cL_law_ 1564 = .ok (.invokestatic 195, 3) := by decide +kernel
theorem dL_law__1567 : decode cL_law_ 1567 = .ok (.istore 5, 2) := by decide +kernel
theorem dL_law__1569 : decode cL_law_ 1569 = .ok (.aload_n 2, 1) := by decide +kernel
theorem dL_law__1570 : decode cL_law_ 1570 = .ok (.aload_n 0, 1) := by decide +kernel
theorem dL_law__1571 : decode cL_law_ 1571 = .ok (.iload 4, 2) := by decide +kernel
theorem dL_law__1573 : decode cL_law_ 1573 = .ok (.iconst 1, 1) := by decide +kernel
theorem dL_law__1574 : decode cL_law_ 1574 = .ok (.iadd, 1) := by decide +kernel
theorem dL_law__1575 : decode cL_law_ 1575 = .ok (.iaload, 1) := by decide +kernel
theorem dL_law__1576 : decode cL_law_ 1576 = .ok (.aload_n 0, 1) := by decide +kernel
theorem dL_law__1577 : decode cL_law_ 1577 = .ok (.iload 4, 2) := by decide +kernel
theorem dL_law__1579 : decode cL_law_ 1579 = .ok (.iconst 2, 1) := by decide +kernel
theorem dL_law__1580 : decode cL_law_ 1580 = .ok (.iadd, 1) := by decide +kernel
theorem dL_law__1581 : decode cL_law_ 1581 = .ok (.iaload, 1) := by decide +kernel
theorem dL_law__1582 : decode cL_law_ 1582 = .ok (.invokevirtual 197, 3) := by decide +kernel
theorem dL_law__1585 : decode cL_law_ 1585 = .ok (.aload_n 2, 1) := by decide +kernel
theorem dL_law__1586 : decode cL_law_ 1586 = .ok (.invokevirtual 133, 3) := by decide +kernel
theorem dL_law__1589 : decode cL_law_ 1589 = .ok (.iload 5, 2) := by decide +kernel
theorem dL_law__1591 : decode cL_law_ 1591 = .ok (.if_icmp .eq 5, 3) := by decide +kernel
theorem dL_law__1594 : decode cL_law_ 1594 = .ok (.iconst 0, 1) := by decide +kernel
theorem dL_law__1595 : decode cL_law_ 1595 = .ok (.ireturn, 1) := by decide +kernel
theorem dL_law__1596 : decode cL_law_ 1596 = .ok (.goto 697, 3) := by decide +kernel
theorem dL_law__1599 : decode cL_law_ 1599 = .ok (.aload_n 1, 1) := by decide +kernel
theorem dL_law__1600 : decode cL_law_ 1600 = .ok (.aload_n 0, 1) := by decide +kernel
theorem dL_law__1601 : decode cL_law_ 1601 = .ok (.iload 4, 2) := by decide +kernel
theorem dL_law__1603 : decode cL_law_ 1603 = .ok (.iconst 1, 1) := by decide +kernel
theorem dL_law__1604 : decode cL_law_ 1604 = .ok (.iadd, 1) := by decide +kernel
theorem dL_law__1605 : decode cL_law_ 1605 = .ok (.iaload, 1) := by decide +kernel
theorem dL_law__1606 : decode cL_law_ 1606 = .ok (.aload_n 3, 1) := by decide +kernel
theorem dL_law__1607 : decode cL_law_ 1607 = .ok (.invokestatic 198, 3) := by decide +kernel
theorem dL_law__1610 : decode cL_law_ 1610 = .ok (.istore 5, 2) := by decide +kernel
theorem dL_law__1612 : decode cL_law_ 1612 = .ok (.aload_n 2, 1) := by decide +kernel
theorem dL_law__1613 : decode cL_law_ 1613 = .ok (.aload_n 0, 1) := by decide +kernel
theorem dL_law__1614 : decode cL_law_ 1614 = .ok (.iload 4, 2) := by decide +kernel
theorem dL_law__1616 : decode cL_law_ 1616 = .ok (.iconst 1, 1) := by decide +kernel
theorem dL_law__1617 : decode cL_law_ 1617 = .ok (.iadd, 1) := by decide +kernel
theorem dL_law__1618 : decode cL_law_ 1618 = .ok (.iaload, 1) := by decide +kernel
theorem dL_law__1619 : decode cL_law_ 1619 = .ok (.invokevirtual 200, 3) := by decide +kernel
theorem dL_law__1622 : decode cL_law_ 1622 = .ok (.istore 6, 2) := by decide +kernel
theorem dL_law__1624 : decode cL_law_ 1624 = .ok (.aload_n 2, 1) := by decide +kernel
theorem dL_law__1625 : decode cL_law_ 1625 = .ok (.invokevirtual 133, 3) := by decide +kernel
theorem dL_law__1628 : decode cL_law_ 1628 = .ok (.iload 5, 2) := by decide +kernel
theorem dL_law__1630 : decode cL_law_ 1630 = .ok (.if_icmp .eq 5, 3) := by decide +kernel
theorem dL_law__1633 : decode cL_law_ 1633 = .ok (.iconst 0, 1) := by decide +kernel
theorem dL_law__1634 : decode cL_law_ 1634 = .ok (.ireturn, 1) := by decide +kernel
theorem dL_law__1635 : decode cL_law_ 1635 = .ok (.iload 5, 2) := by decide +kernel
theorem dL_law__1637 : decode cL_law_ 1637 = .ok (.ifCond .ne 15, 3) := by decide +kernel
theorem dL_law__1640 : decode cL_law_ 1640 = .ok (.aload_n 3, 1) := by decide +kernel
theorem dL_law__1641 : decode cL_law_ 1641 = .ok (.iconst 0, 1) := by decide +kernel
theorem dL_law__1642 : decode cL_law_ 1642 = .ok (.laload, 1) := by decide +kernel
theorem dL_law__1643 : decode cL_law_ 1643 = .ok (.iload 6, 2) := by decide +kernel
theorem dL_law__1645 : decode cL_law_ 1645 = .ok (.i2l, 1) := by decide +kernel
theorem dL_law__1646 : decode cL_law_ 1646 = .ok (.lcmp, 1) := by decide +kernel
theorem dL_law__1647 : decode cL_law_ 1647 = .ok (.ifCond .eq 5, 3) := by decide +kernel
theorem dL_law__1650 : decode cL_law_ 1650 = .ok (.iconst 0, 1) := by decide +kernel
theorem dL_law__1651 : decode cL_law_ 1651 = .ok (.ireturn, 1) := by decide +kernel
theorem dL_law__1652 : decode cL_law_ 1652 = .ok (.goto 641, 3) := by decide +kernel
theorem dL_law__1655 : decode cL_law_ 1655 = .ok (.aload_n 1, 1) := by decide +kernel
theorem dL_law__1656 : decode cL_law_ 1656 = .ok (.aload_n 0, 1) := by decide +kernel
theorem dL_law__1657 : decode cL_law_ 1657 = .ok (.iload 4, 2) := by decide +kernel
theorem dL_law__1659 : decode cL_law_ 1659 = .ok (.iconst 1, 1) := by decide +kernel
theorem dL_law__1660 : decode cL_law_ 1660 = .ok (.iadd, 1) := by decide +kernel
theorem dL_law__1661 : decode cL_law_ 1661 = .ok (.iaload, 1) := by decide +kernel
theorem dL_law__1662 : decode cL_law_ 1662 = .ok (.invokestatic 201, 3) := by decide +kernel
theorem dL_law__1665 : decode cL_law_ 1665 = .ok (.istore 5, 2) := by decide +kernel
theorem dL_law__1667 : decode cL_law_ 1667 = .ok (.aload_n 2, 1) := by decide +kernel
theorem dL_law__1668 : decode cL_law_ 1668 = .ok (.aload_n 0, 1) := by decide +kernel
theorem dL_law__1669 : decode cL_law_ 1669 = .ok (.iload 4, 2) := by decide +kernel
theorem dL_law__1671 : decode cL_law_ 1671 = .ok (.iconst 1, 1) := by decide +kernel
theorem dL_law__1672 : decode cL_law_ 1672 = .ok (.iadd, 1) := by decide +kernel
theorem dL_law__1673 : decode cL_law_ 1673 = .ok (.iaload, 1) := by decide +kernel
theorem dL_law__1674 : decode cL_law_ 1674 = .ok (.invokevirtual 203, 3) := by decide +kernel
theorem dL_law__1677 : decode cL_law_ 1677 = .ok (.aload_n 2, 1) := by decide +kernel
theorem dL_law__1678 : decode cL_law_ 1678 = .ok (.invokevirtual 133, 3) := by decide +kernel
theorem dL_law__1681 : decode cL_law_ 1681 = .ok (.iload 5, 2) := by decide +kernel
theorem dL_law__1683 : decode cL_law_ 1683 = .ok (.if_icmp .eq 5, 3) := by decide +kernel
theorem dL_law__1686 : decode cL_law_ 1686 = .ok (.iconst 0, 1) := by decide +kernel
theorem dL_law__1687 : decode cL_law_ 1687 = .ok (.ireturn, 1) := by decide +kernel
theorem dL_law__1688 : decode cL_law_ 1688 = .ok (.goto 605, 3) := by decide +kernel
theorem dL_law__1691 : decode cL_law_ 1691 = .ok (.aload_n 1, 1) := by decide +kernel
theorem dL_law__1692 : decode cL_law_ 1692 = .ok (.aload_n 0, 1) := by decide +kernel
theorem dL_law__1693 : decode cL_law_ 1693 = .ok (.iload 4, 2) := by decide +kernel
theorem dL_law__1695 : decode cL_law_ 1695 = .ok (.iconst 1, 1) := by decide +kernel
theorem dL_law__1696 : decode cL_law_ 1696 = .ok (.iadd, 1) := by decide +kernel
theorem dL_law__1697 : decode cL_law_ 1697 = .ok (.iaload, 1) := by decide +kernel
theorem dL_law__1698 : decode cL_law_ 1698 = .ok (.invokestatic 204, 3) := by decide +kernel
theorem dL_law__1701 : decode cL_law_ 1701 = .ok (.istore 5, 2) := by decide +kernel
theorem dL_law__1703 : decode cL_law_ 1703 = .ok (.aload_n 2, 1) := by decide +kernel
theorem dL_law__1704 : decode cL_law_ 1704 = .ok (.aload_n 0, 1) := by decide +kernel
theorem dL_law__1705 : decode cL_law_ 1705 = .ok (.iload 4, 2) := by decide +kernel
theorem dL_law__1707 : decode cL_law_ 1707 = .ok (.iconst 1, 1) := by decide +kernel
theorem dL_law__1708 : decode cL_law_ 1708 = .ok (.iadd, 1) := by decide +kernel
theorem dL_law__1709 : decode cL_law_ 1709 = .ok (.iaload, 1) := by decide +kernel
theorem dL_law__1710 : decode cL_law_ 1710 = .ok (.invokevirtual 206, 3) := by decide +kernel
theorem dL_law__1713 : decode cL_law_ 1713 = .ok (.aload_n 2, 1) := by decide +kernel
theorem dL_law__1714 : decode cL_law_ 1714 = .ok (.invokevirtual 133, 3) := by decide +kernel
theorem dL_law__1717 : decode cL_law_ 1717 = .ok (.iload 5, 2) := by decide +kernel
theorem dL_law__1719 : decode cL_law_ 1719 = .ok (.if_icmp .eq 5, 3) := by decide +kernel
theorem dL_law__1722 : decode cL_law_ 1722 = .ok (.iconst 0, 1) := by decide +kernel
theorem dL_law__1723 : decode cL_law_ 1723 = .ok (.ireturn, 1) := by decide +kernel
theorem dL_law__1724 : decode cL_law_ 1724 = .ok (.goto 569, 3) := by decide +kernel
theorem dL_law__1727 : decode cL_law_ 1727 = .ok (.aload_n 1, 1) := by decide +kernel
theorem dL_law__1728 : decode cL_law_ 1728 = .ok (.aload_n 0, 1) := by decide +kernel
theorem dL_law__1729 : decode cL_law_ 1729 = .ok (.iload 4, 2) := by decide +kernel
theorem dL_law__1731 : decode cL_law_ 1731 = .ok (.iconst 1, 1) := by decide +kernel
theorem dL_law__1732 : decode cL_law_ 1732 = .ok (.iadd, 1) := by decide +kernel
theorem dL_law__1733 : decode cL_law_ 1733 = .ok (.iaload, 1) := by decide +kernel
theorem dL_law__1734 : decode cL_law_ 1734 = .ok (.invokestatic 207, 3) := by decide +kernel
theorem dL_law__1737 : decode cL_law_ 1737 = .ok (.istore 5, 2) := by decide +kernel
theorem dL_law__1739 : decode cL_law_ 1739 = .ok (.aload_n 2, 1) := by decide +kernel
theorem dL_law__1740 : decode cL_law_ 1740 = .ok (.aload_n 0, 1) := by decide +kernel
theorem dL_law__1741 : decode cL_law_ 1741 = .ok (.iload 4, 2) := by decide +kernel
theorem dL_law__1743 : decode cL_law_ 1743 = .ok (.iconst 1, 1) := by decide +kernel
theorem dL_law__1744 : decode cL_law_ 1744 = .ok (.iadd, 1) := by decide +kernel
theorem dL_law__1745 : decode cL_law_ 1745 = .ok (.iaload, 1) := by decide +kernel
theorem dL_law__1746 : decode cL_law_ 1746 = .ok (.invokevirtual 209, 3) := by decide +kernel
theorem dL_law__1749 : decode cL_law_ 1749 = .ok (.aload_n 2, 1) := by decide +kernel
theorem dL_law__1750 : decode cL_law_ 1750 = .ok (.invokevirtual 133, 3) := by decide +kernel
theorem dL_law__1753 : decode cL_law_ 1753 = .ok (.iload 5, 2) := by decide +kernel
theorem dL_law__1755 : decode cL_law_ 1755 = .ok (.if_icmp .eq 5, 3) := by decide +kernel
theorem dL_law__1758 : decode cL_law_ 1758 = .ok (.iconst 0, 1) := by decide +kernel
theorem dL_law__1759 : decode cL_law_ 1759 = .ok (.ireturn, 1) := by decide +kernel
theorem dL_law__1760 : decode cL_law_ 1760 = .ok (.goto 533, 3) := by decide +kernel
theorem dL_law__1763 : decode cL_law_ 1763 = .ok (.aload_n 1, 1) := by decide +kernel
theorem dL_law__1764 : decode cL_law_ 1764 = .ok (.aload_n 0, 1) := by decide +kernel
theorem dL_law__1765 : decode cL_law_ 1765 = .ok (.iload 4, 2) := by decide +kernel
theorem dL_law__1767 : decode cL_law_ 1767 = .ok (.iconst 1, 1) := by decide +kernel
theorem dL_law__1768 : decode cL_law_ 1768 = .ok (.iadd, 1) := by decide +kernel
theorem dL_law__1769 : decode cL_law_ 1769 = .ok (.iaload, 1) := by decide +kernel
theorem dL_law__1770 : decode cL_law_ 1770 = .ok (.aload_n 0, 1) := by decide +kernel
theorem dL_law__1771 : decode cL_law_ 1771 = .ok (.iload 4, 2) := by decide +kernel
theorem dL_law__1773 : decode cL_law_ 1773 = .ok (.iconst 2, 1) := by decide +kernel
theorem dL_law__1774 : decode cL_law_ 1774 = .ok (.iadd, 1) := by decide +kernel
theorem dL_law__1775 : decode cL_law_ 1775 = .ok (.iaload, 1) := by decide +kernel
theorem dL_law__1776 : decode cL_law_ 1776 = .ok (.aload_n 3, 1) := by decide +kernel
theorem dL_law__1777 : decode cL_law_ 1777 = .ok (.invokestatic 210, 3) := by decide +kernel
theorem dL_law__1780 : decode cL_law_ 1780 = .ok (.istore 5, 2) := by decide +kernel
theorem dL_law__1782 : decode cL_law_ 1782 = .ok (.aload_n 2, 1) := by decide +kernel
theorem dL_law__1783 : decode cL_law_ 1783 = .ok (.aload_n 0, 1) := by decide +kernel
theorem dL_law__1784 : decode cL_law_ 1784 = .ok (.iload 4, 2) := by decide +kernel
theorem dL_law__1786 : decode cL_law_ 1786 = .ok (.iconst 1, 1) := by decide +kernel
theorem dL_law__1787 : decode cL_law_ 1787 = .ok (.iadd, 1) := by decide +kernel
theorem dL_law__1788 : decode cL_law_ 1788 = .ok (.iaload, 1) := by decide +kernel
theorem dL_law__1789 : decode cL_law_ 1789 = .ok (.aload_n 0, 1) := by decide +kernel
theorem dL_law__1790 : decode cL_law_ 1790 = .ok (.iload 4, 2) := by decide +kernel
theorem dL_law__1792 : decode cL_law_ 1792 = .ok (.iconst 2, 1) := by decide +kernel
theorem dL_law__1793 : decode cL_law_ 1793 = .ok (.iadd, 1) := by decide +kernel
theorem dL_law__1794 : decode cL_law_ 1794 = .ok (.iaload, 1) := by decide +kernel
theorem dL_law__1795 : decode cL_law_ 1795 = .ok (.invokevirtual 212, 3) := by decide +kernel
theorem dL_law__1798 : decode cL_law_ 1798 = .ok (.istore 6, 2) := by decide +kernel
theorem dL_law__1800 : decode cL_law_ 1800 = .ok (.aload_n 2, 1) := by decide +kernel
theorem dL_law__1801 : decode cL_law_ 1801 = .ok (.invokevirtual 133, 3) := by decide +kernel
theorem dL_law__1804 : decode cL_law_ 1804 = .ok (.iload 5, 2) := by decide +kernel
theorem dL_law__1806 : decode cL_law_ 1806 = .ok (.if_icmp .eq 5, 3) := by decide +kernel
theorem dL_law__1809 : decode cL_law_ 1809 = .ok (.iconst 0, 1) := by decide +kernel
theorem dL_law__1810 : decode cL_law_ 1810 = .ok (.ireturn, 1) := by decide +kernel
theorem dL_law__1811 : decode cL_law_ 1811 = .ok (.iload 5, 2) := by decide +kernel
theorem dL_law__1813 : decode cL_law_ 1813 = .ok (.ifCond .ne 15, 3) := by decide +kernel
theorem dL_law__1816 : decode cL_law_ 1816 = .ok (.aload_n 3, 1) := by decide +kernel
theorem dL_law__1817 : decode cL_law_ 1817 = .ok (.iconst 0, 1) := by decide +kernel
theorem dL_law__1818 : decode cL_law_ 1818 = .ok (.laload, 1) := by decide +kernel
theorem dL_law__1819 : decode cL_law_ 1819 = .ok (.iload 6, 2) := by decide +kernel
theorem dL_law__1821 : decode cL_law_ 1821 = .ok (.i2l, 1) := by decide +kernel
theorem dL_law__1822 : decode cL_law_ 1822 = .ok (.lcmp, 1) := by decide +kernel
theorem dL_law__1823 : decode cL_law_ 1823 = .ok (.ifCond .eq 5, 3) := by decide +kernel
theorem dL_law__1826 : decode cL_law_ 1826 = .ok (.iconst 0, 1) := by decide +kernel
theorem dL_law__1827 : decode cL_law_ 1827 = .ok (.ireturn, 1) := by decide +kernel
theorem dL_law__1828 : decode cL_law_ 1828 = .ok (.goto 465, 3) := by decide +kernel
theorem dL_law__1831 : decode cL_law_ 1831 = .ok (.aload_n 1, 1) := by decide +kernel
theorem dL_law__1832 : decode cL_law_ 1832 = .ok (.aload_n 0, 1) := by decide +kernel
theorem dL_law__1833 : decode cL_law_ 1833 = .ok (.iload 4, 2) := by decide +kernel
theorem dL_law__1835 : decode cL_law_ 1835 = .ok (.iconst 1, 1) := by decide +kernel
theorem dL_law__1836 : decode cL_law_ 1836 = .ok (.iadd, 1) := by decide +kernel
theorem dL_law__1837 : decode cL_law_ 1837 = .ok (.iaload, 1) := by decide +kernel
theorem dL_law__1838 : decode cL_law_ 1838 = .ok (.aload_n 3, 1) := by decide +kernel
theorem dL_law__1839 : decode cL_law_ 1839 = .ok (.invokestatic 213, 3) := by decide +kernel
theorem dL_law__1842 : decode cL_law_ 1842 = .ok (.istore 5, 2) := by decide +kernel
theorem dL_law__1844 : decode cL_law_ 1844 = .ok (.aload_n 2, 1) := by decide +kernel
theorem dL_law__1845 : decode cL_law_ 1845 = .ok (.aload_n 0, 1) := by decide +kernel
theorem dL_law__1846 : decode cL_law_ 1846 = .ok (.iload 4, 2) := by decide +kernel
theorem dL_law__1848 : decode cL_law_ 1848 = .ok (.iconst 1, 1) := by decide +kernel
theorem dL_law__1849 : decode cL_law_ 1849 = .ok (.iadd, 1) := by decide +kernel
theorem dL_law__1850 : decode cL_law_ 1850 = .ok (.iaload, 1) := by decide +kernel
theorem dL_law__1851 : decode cL_law_ 1851 = .ok (.invokevirtual 215, 3) := by decide +kernel
theorem dL_law__1854 : decode cL_law_ 1854 = .ok (.istore 6, 2) := by decide +kernel
theorem dL_law__1856 : decode cL_law_ 1856 = .ok (.aload_n 2, 1) := by decide +kernel
theorem dL_law__1857 : decode cL_law_ 1857 = .ok (.invokevirtual 133, 3) := by decide +kernel
theorem dL_law__1860 : decode cL_law_ 1860 = .ok (.iload 5, 2) := by decide +kernel
theorem dL_law__1862 : decode cL_law_ 1862 = .ok (.if_icmp .eq 5, 3) := by decide +kernel
theorem dL_law__1865 : decode cL_law_ 1865 = .ok (.iconst 0, 1) := by decide +kernel
theorem dL_law__1866 : decode cL_law_ 1866 = .ok (.ireturn, 1) := by decide +kernel
theorem dL_law__1867 : decode cL_law_ 1867 = .ok (.iload 5, 2) := by decide +kernel
theorem dL_law__1869 : decode cL_law_ 1869 = .ok (.ifCond .ne 15, 3) := by decide +kernel
theorem dL_law__1872 : decode cL_law_ 1872 = .ok (.aload_n 3, 1) := by decide +kernel
theorem dL_law__1873 : decode cL_law_ 1873 = .ok (.iconst 0, 1) := by decide +kernel
theorem dL_law__1874 : decode cL_law_ 1874 = .ok (.laload, 1) := by decide +kernel
theorem dL_law__1875 : decode cL_law_ 1875 = .ok (.iload 6, 2) := by decide +kernel
theorem dL_law__1877 : decode cL_law_ 1877 = .ok (.i2l, 1) := by decide +kernel
theorem dL_law__1878 : decode cL_law_ 1878 = .ok (.lcmp, 1) := by decide +kernel
theorem dL_law__1879 : decode cL_law_ 1879 = .ok (.ifCond .eq 5, 3) := by decide +kernel
theorem dL_law__1882 : decode cL_law_ 1882 = .ok (.iconst 0, 1) := by decide +kernel
theorem dL_law__1883 : decode cL_law_ 1883 = .ok (.ireturn, 1) := by decide +kernel
theorem dL_law__1884 : decode cL_law_ 1884 = .ok (.goto 409, 3) := by decide +kernel
theorem dL_law__1887 : decode cL_law_ 1887 = .ok (.aload_n 1, 1) := by decide +kernel
theorem dL_law__1888 : decode cL_law_ 1888 = .ok (.aload_n 0, 1) := by decide +kernel
theorem dL_law__1889 : decode cL_law_ 1889 = .ok (.iload 4, 2) := by decide +kernel
theorem dL_law__1891 : decode cL_law_ 1891 = .ok (.iconst 1, 1) := by decide +kernel
theorem dL_law__1892 : decode cL_law_ 1892 = .ok (.iadd, 1) := by decide +kernel
theorem dL_law__1893 : decode cL_law_ 1893 = .ok (.iaload, 1) := by decide +kernel
theorem dL_law__1894 : decode cL_law_ 1894 = .ok (.aload_n 3, 1) := by decide +kernel
theorem dL_law__1895 : decode cL_law_ 1895 = .ok (.invokestatic 216, 3) := by decide +kernel
theorem dL_law__1898 : decode cL_law_ 1898 = .ok (.istore 5, 2) := by decide +kernel
theorem dL_law__1900 : decode cL_law_ 1900 = .ok (.aload_n 2, 1) := by decide +kernel
theorem dL_law__1901 : decode cL_law_ 1901 = .ok (.aload_n 0, 1) := by decide +kernel
theorem dL_law__1902 : decode cL_law_ 1902 = .ok (.iload 4, 2) := by decide +kernel
theorem dL_law__1904 : decode cL_law_ 1904 = .ok (.iconst 1, 1) := by decide +kernel
theorem dL_law__1905 : decode cL_law_ 1905 = .ok (.iadd, 1) := by decide +kernel
theorem dL_law__1906 : decode cL_law_ 1906 = .ok (.iaload, 1) := by decide +kernel
theorem dL_law__1907 : decode cL_law_ 1907 = .ok (.invokevirtual 218, 3) := by decide +kernel
theorem dL_law__1910 : decode cL_law_ 1910 = .ok (.istore 6, 2) := by decide +kernel
theorem dL_law__1912 : decode cL_law_ 1912 = .ok (.aload_n 2, 1) := by decide +kernel
theorem dL_law__1913 : decode cL_law_ 1913 = .ok (.invokevirtual 133, 3) := by decide +kernel
theorem dL_law__1916 : decode cL_law_ 1916 = .ok (.iload 5, 2) := by decide +kernel
theorem dL_law__1918 : decode cL_law_ 1918 = .ok (.if_icmp .eq 5, 3) := by decide +kernel
theorem dL_law__1921 : decode cL_law_ 1921 = .ok (.iconst 0, 1) := by decide +kernel
theorem dL_law__1922 : decode cL_law_ 1922 = .ok (.ireturn, 1) := by decide +kernel
theorem dL_law__1923 : decode cL_law_ 1923 = .ok (.iload 5, 2) := by decide +kernel
theorem dL_law__1925 : decode cL_law_ 1925 = .ok (.ifCond .ne 15, 3) := by decide +kernel
theorem dL_law__1928 : decode cL_law_ 1928 = .ok (.aload_n 3, 1) := by decide +kernel
theorem dL_law__1929 : decode cL_law_ 1929 = .ok (.iconst 0, 1) := by decide +kernel
theorem dL_law__1930 : decode cL_law_ 1930 = .ok (.laload, 1) := by decide +kernel
theorem dL_law__1931 : decode cL_law_ 1931 = .ok (.iload 6, 2) := by decide +kernel
theorem dL_law__1933 : decode cL_law_ 1933 = .ok (.i2l, 1) := by decide +kernel
theorem dL_law__1934 : decode cL_law_ 1934 = .ok (.lcmp, 1) := by decide +kernel
theorem dL_law__1935 : decode cL_law_ 1935 = .ok (.ifCond .eq 5, 3) := by decide +kernel
theorem dL_law__1938 : decode cL_law_ 1938 = .ok (.iconst 0, 1) := by decide +kernel
theorem dL_law__1939 : decode cL_law_ 1939 = .ok (.ireturn, 1) := by decide +kernel
theorem dL_law__1940 : decode cL_law_ 1940 = .ok (.goto 353, 3) := by decide +kernel
theorem dL_law__1943 : decode cL_law_ 1943 = .ok (.aload_n 1, 1) := by decide +kernel
theorem dL_law__1944 : decode cL_law_ 1944 = .ok (.aload_n 0, 1) := by decide +kernel
theorem dL_law__1945 : decode cL_law_ 1945 = .ok (.iload 4, 2) := by decide +kernel
theorem dL_law__1947 : decode cL_law_ 1947 = .ok (.iconst 1, 1) := by decide +kernel
theorem dL_law__1948 : decode cL_law_ 1948 = .ok (.iadd, 1) := by decide +kernel
theorem dL_law__1949 : decode cL_law_ 1949 = .ok (.iaload, 1) := by decide +kernel
theorem dL_law__1950 : decode cL_law_ 1950 = .ok (.aload_n 0, 1) := by decide +kernel
theorem dL_law__1951 : decode cL_law_ 1951 = .ok (.iload 4, 2) := by decide +kernel
theorem dL_law__1953 : decode cL_law_ 1953 = .ok (.iconst 2, 1) := by decide +kernel
theorem dL_law__1954 : decode cL_law_ 1954 = .ok (.iadd, 1) := by decide +kernel
theorem dL_law__1955 : decode cL_law_ 1955 = .ok (.iaload, 1) := by decide +kernel
theorem dL_law__1956 : decode cL_law_ 1956 = .ok (.aload_n 3, 1) := by decide +kernel
theorem dL_law__1957 : decode cL_law_ 1957 = .ok (.invokestatic 219, 3) := by decide +kernel
theorem dL_law__1960 : decode cL_law_ 1960 = .ok (.istore 5, 2) := by decide +kernel
theorem dL_law__1962 : decode cL_law_ 1962 = .ok (.aload_n 2, 1) := by decide +kernel
theorem dL_law__1963 : decode cL_law_ 1963 = .ok (.aload_n 0, 1) := by decide +kernel
theorem dL_law__1964 : decode cL_law_ 1964 = .ok (.iload 4, 2) := by decide +kernel
theorem dL_law__1966 : decode cL_law_ 1966 = .ok (.iconst 1, 1) := by decide +kernel
theorem dL_law__1967 : decode cL_law_ 1967 = .ok (.iadd, 1) := by decide +kernel
theorem dL_law__1968 : decode cL_law_ 1968 = .ok (.iaload, 1) := by decide +kernel
theorem dL_law__1969 : decode cL_law_ 1969 = .ok (.aload_n 0, 1) := by decide +kernel
theorem dL_law__1970 : decode cL_law_ 1970 = .ok (.iload 4, 2) := by decide +kernel
theorem dL_law__1972 : decode cL_law_ 1972 = .ok (.iconst 2, 1) := by decide +kernel
theorem dL_law__1973 : decode cL_law_ 1973 = .ok (.iadd, 1) := by decide +kernel
theorem dL_law__1974 : decode cL_law_ 1974 = .ok (.iaload, 1) := by decide +kernel
theorem dL_law__1975 : decode cL_law_ 1975 = .ok (.invokevirtual 221, 3) := by decide +kernel
theorem dL_law__1978 : decode cL_law_ 1978 = .ok (.istore 6, 2) := by decide +kernel
theorem dL_law__1980 : decode cL_law_ 1980 = .ok (.aload_n 2, 1) := by decide +kernel
theorem dL_law__1981 : decode cL_law_ 1981 = .ok (.invokevirtual 133, 3) := by decide +kernel
theorem dL_law__1984 : decode cL_law_ 1984 = .ok (.iload 5, 2) := by decide +kernel
theorem dL_law__1986 : decode cL_law_ 1986 = .ok (.if_icmp .eq 5, 3) := by decide +kernel
theorem dL_law__1989 : decode cL_law_ 1989 = .ok (.iconst 0, 1) := by decide +kernel
theorem dL_law__1990 : decode cL_law_ 1990 = .ok (.ireturn, 1) := by decide +kernel
theorem dL_law__1991 : decode cL_law_ 1991 = .ok (.iload 5, 2) := by decide +kernel
theorem dL_law__1993 : decode cL_law_ 1993 = .ok (.ifCond .ne 15, 3) := by decide +kernel
theorem dL_law__1996 : decode cL_law_ 1996 = .ok (.aload_n 3, 1) := by decide +kernel
theorem dL_law__1997 : decode cL_law_ 1997 = .ok (.iconst 0, 1) := by decide +kernel
theorem dL_law__1998 : decode cL_law_ 1998 = .ok (.laload, 1) := by decide +kernel
theorem dL_law__1999 : decode cL_law_ 1999 = .ok (.iload 6, 2) := by decide +kernel
theorem dL_law__2001 : decode cL_law_ 2001 = .ok (.i2l, 1) := by decide +kernel
theorem dL_law__2002 : decode cL_law_ 2002 = .ok (.lcmp, 1) := by decide +kernel
theorem dL_law__2003 : decode cL_law_ 2003 = .ok (.ifCond .eq 5, 3) := by decide +kernel
theorem dL_law__2006 : decode cL_law_ 2006 = .ok (.iconst 0, 1) := by decide +kernel
theorem dL_law__2007 : decode cL_law_ 2007 = .ok (.ireturn, 1) := by decide +kernel
theorem dL_law__2008 : decode cL_law_ 2008 = .ok (.goto 285, 3) := by decide +kernel
theorem dL_law__2011 : decode cL_law_ 2011 = .ok (.aload_n 1, 1) := by decide +kernel
theorem dL_law__2012 : decode cL_law_ 2012 = .ok (.aload_n 0, 1) := by decide +kernel
theorem dL_law__2013 : decode cL_law_ 2013 = .ok (.iload 4, 2) := by decide +kernel
theorem dL_law__2015 : decode cL_law_ 2015 = .ok (.iconst 1, 1) := by decide +kernel
theorem dL_law__2016 : decode cL_law_ 2016 = .ok (.iadd, 1) := by decide +kernel
theorem dL_law__2017 : decode cL_law_ 2017 = .ok (.iaload, 1) := by decide +kernel
theorem dL_law__2018 : decode cL_law_ 2018 = .ok (.aload_n 0, 1) := by decide +kernel
theorem dL_law__2019 : decode cL_law_ 2019 = .ok (.iload 4, 2) := by decide +kernel
theorem dL_law__2021 : decode cL_law_ 2021 = .ok (.iconst 2, 1) := by decide +kernel
theorem dL_law__2022 : decode cL_law_ 2022 = .ok (.iadd, 1) := by decide +kernel
theorem dL_law__2023 : decode cL_law_ 2023 = .ok (.iaload, 1) := by decide +kernel
theorem dL_law__2024 : decode cL_law_ 2024 = .ok (.aload_n 3, 1) := by decide +kernel
theorem dL_law__2025 : decode cL_law_ 2025 = .ok (.invokestatic 222, 3) := by decide +kernel
theorem dL_law__2028 : decode cL_law_ 2028 = .ok (.istore 5, 2) := by decide +kernel
theorem dL_law__2030 : decode cL_law_ 2030 = .ok (.aload_n 2, 1) := by decide +kernel
theorem dL_law__2031 : decode cL_law_ 2031 = .ok (.aload_n 0, 1) := by decide +kernel
theorem dL_law__2032 : decode cL_law_ 2032 = .ok (.iload 4, 2) := by decide +kernel
theorem dL_law__2034 : decode cL_law_ 2034 = .ok (.iconst 1, 1) := by decide +kernel
theorem dL_law__2035 : decode cL_law_ 2035 = .ok (.iadd, 1) := by decide +kernel
theorem dL_law__2036 : decode cL_law_ 2036 = .ok (.iaload, 1) := by decide +kernel
theorem dL_law__2037 : decode cL_law_ 2037 = .ok (.aload_n 0, 1) := by decide +kernel
theorem dL_law__2038 : decode cL_law_ 2038 = .ok (.iload 4, 2) := by decide +kernel
theorem dL_law__2040 : decode cL_law_ 2040 = .ok (.iconst 2, 1) := by decide +kernel
theorem dL_law__2041 : decode cL_law_ 2041 = .ok (.iadd, 1) := by decide +kernel
theorem dL_law__2042 : decode cL_law_ 2042 = .ok (.iaload, 1) := by decide +kernel
theorem dL_law__2043 : decode cL_law_ 2043 = .ok (.invokevirtual 224, 3) := by decide +kernel
theorem dL_law__2046 : decode cL_law_ 2046 = .ok (.istore 6, 2) := by decide +kernel
theorem dL_law__2048 : decode cL_law_ 2048 = .ok (.aload_n 2, 1) := by decide +kernel
theorem dL_law__2049 : decode cL_law_ 2049 = .ok (.invokevirtual 133, 3) := by decide +kernel
theorem dL_law__2052 : decode cL_law_ 2052 = .ok (.iload 5, 2) := by decide +kernel
theorem dL_law__2054 : decode cL_law_ 2054 = .ok (.if_icmp .eq 5, 3) := by decide +kernel
theorem dL_law__2057 : decode cL_law_ 2057 = .ok (.iconst 0, 1) := by decide +kernel
theorem dL_law__2058 : decode cL_law_ 2058 = .ok (.ireturn, 1) := by decide +kernel
theorem dL_law__2059 : decode cL_law_ 2059 = .ok (.iload 5, 2) := by decide +kernel
theorem dL_law__2061 : decode cL_law_ 2061 = .ok (.ifCond .ne 15, 3) := by decide +kernel
theorem dL_law__2064 : decode cL_law_ 2064 = .ok (.aload_n 3, 1) := by decide +kernel
theorem dL_law__2065 : decode cL_law_ 2065 = .ok (.iconst 0, 1) := by decide +kernel
theorem dL_law__2066 : decode cL_law_ 2066 = .ok (.laload, 1) := by decide +kernel
theorem dL_law__2067 : decode cL_law_ 2067 = .ok (.iload 6, 2) := by decide +kernel
theorem dL_law__2069 : decode cL_law_ 2069 = .ok (.i2l, 1) := by decide +kernel
theorem dL_law__2070 : decode cL_law_ 2070 = .ok (.lcmp, 1) := by decide +kernel
theorem dL_law__2071 : decode cL_law_ 2071 = .ok (.ifCond .eq 5, 3) := by decide +kernel
theorem dL_law__2074 : decode cL_law_ 2074 = .ok (.iconst 0, 1) := by decide +kernel
theorem dL_law__2075 : decode cL_law_ 2075 = .ok (.ireturn, 1) := by decide +kernel
theorem dL_law__2076 : decode cL_law_ 2076 = .ok (.goto 217, 3) := by decide +kernel
theorem dL_law__2079 : decode cL_law_ 2079 = .ok (.aload_n 1, 1) := by decide +kernel
theorem dL_law__2080 : decode cL_law_ 2080 = .ok (.aload_n 0, 1) := by decide +kernel
theorem dL_law__2081 : decode cL_law_ 2081 = .ok (.iload 4, 2) := by decide +kernel
theorem dL_law__2083 : decode cL_law_ 2083 = .ok (.iconst 1, 1) := by decide +kernel
theorem dL_law__2084 : decode cL_law_ 2084 = .ok (.iadd, 1) := by decide +kernel
theorem dL_law__2085 : decode cL_law_ 2085 = .ok (.iaload, 1) := by decide +kernel
theorem dL_law__2086 : decode cL_law_ 2086 = .ok (.aload_n 0, 1) := by decide +kernel
theorem dL_law__2087 : decode cL_law_ 2087 = .ok (.iload 4, 2) := by decide +kernel
theorem dL_law__2089 : decode cL_law_ 2089 = .ok (.iconst 2, 1) := by decide +kernel
theorem dL_law__2090 : decode cL_law_ 2090 = .ok (.iadd, 1) := by decide +kernel
theorem dL_law__2091 : decode cL_law_ 2091 = .ok (.iaload, 1) := by decide +kernel
theorem dL_law__2092 : decode cL_law_ 2092 = .ok (.aload_n 3, 1) := by decide +kernel
theorem dL_law__2093 : decode cL_law_ 2093 = .ok (.invokestatic 225, 3) := by decide +kernel
theorem dL_law__2096 : decode cL_law_ 2096 = .ok (.istore 5, 2) := by decide +kernel
theorem dL_law__2098 : decode cL_law_ 2098 = .ok (.aload_n 2, 1) := by decide +kernel
theorem dL_law__2099 : decode cL_law_ 2099 = .ok (.aload_n 0, 1) := by decide +kernel
theorem dL_law__2100 : decode cL_law_ 2100 = .ok (.iload 4, 2) := by decide +kernel
theorem dL_law__2102 : decode cL_law_ 2102 = .ok (.iconst 1, 1) := by decide +kernel
theorem dL_law__2103 : decode cL_law_ 2103 = .ok (.iadd, 1) := by decide +kernel
theorem dL_law__2104 : decode cL_law_ 2104 = .ok (.iaload, 1) := by decide +kernel
theorem dL_law__2105 : decode cL_law_ 2105 = .ok (.aload_n 0, 1) := by decide +kernel
theorem dL_law__2106 : decode cL_law_ 2106 = .ok (.iload 4, 2) := by decide +kernel
theorem dL_law__2108 : decode cL_law_ 2108 = .ok (.iconst 2, 1) := by decide +kernel
theorem dL_law__2109 : decode cL_law_ 2109 = .ok (.iadd, 1) := by decide +kernel
theorem dL_law__2110 : decode cL_law_ 2110 = .ok (.iaload, 1) := by decide +kernel
theorem dL_law__2111 : decode cL_law_ 2111 = .ok (.invokevirtual 227, 3) := by decide +kernel
theorem dL_law__2114 : decode cL_law_ 2114 = .ok (.istore 6, 2) := by decide +kernel
theorem dL_law__2116 : decode cL_law_ 2116 = .ok (.aload_n 2, 1) := by decide +kernel
theorem dL_law__2117 : decode cL_law_ 2117 = .ok (.invokevirtual 133, 3) := by decide +kernel
theorem dL_law__2120 : decode cL_law_ 2120 = .ok (.iload 5, 2) := by decide +kernel
theorem dL_law__2122 : decode cL_law_ 2122 = .ok (.if_icmp .eq 5, 3) := by decide +kernel
theorem dL_law__2125 : decode cL_law_ 2125 = .ok (.iconst 0, 1) := by decide +kernel
theorem dL_law__2126 : decode cL_law_ 2126 = .ok (.ireturn, 1) := by decide +kernel
theorem dL_law__2127 : decode cL_law_ 2127 = .ok (.iload 5, 2) := by decide +kernel
theorem dL_law__2129 : decode cL_law_ 2129 = .ok (.ifCond .ne 15, 3) := by decide +kernel
theorem dL_law__2132 : decode cL_law_ 2132 = .ok (.aload_n 3, 1) := by decide +kernel
theorem dL_law__2133 : decode cL_law_ 2133 = .ok (.iconst 0, 1) := by decide +kernel
theorem dL_law__2134 : decode cL_law_ 2134 = .ok (.laload, 1) := by decide +kernel
theorem dL_law__2135 : decode cL_law_ 2135 = .ok (.iload 6, 2) := by decide +kernel
theorem dL_law__2137 : decode cL_law_ 2137 = .ok (.i2l, 1) := by decide +kernel
theorem dL_law__2138 : decode cL_law_ 2138 = .ok (.lcmp, 1) := by decide +kernel
theorem dL_law__2139 : decode cL_law_ 2139 = .ok (.ifCond .eq 5, 3) := by decide +kernel
theorem dL_law__2142 : decode cL_law_ 2142 = .ok (.iconst 0, 1) := by decide +kernel
theorem dL_law__2143 : decode cL_law_ 2143 = .ok (.ireturn, 1) := by decide +kernel
theorem dL_law__2144 : decode cL_law_ 2144 = .ok (.goto 149, 3) := by decide +kernel
theorem dL_law__2147 : decode cL_law_ 2147 = .ok (.aload_n 1, 1) := by decide +kernel
theorem dL_law__2148 : decode cL_law_ 2148 = .ok (.aload_n 0, 1) := by decide +kernel
theorem dL_law__2149 : decode cL_law_ 2149 = .ok (.iload 4, 2) := by decide +kernel
theorem dL_law__2151 : decode cL_law_ 2151 = .ok (.iconst 1, 1) := by decide +kernel
theorem dL_law__2152 : decode cL_law_ 2152 = .ok (.iadd, 1) := by decide +kernel
theorem dL_law__2153 : decode cL_law_ 2153 = .ok (.iaload, 1) := by decide +kernel
theorem dL_law__2154 : decode cL_law_ 2154 = .ok (.aload_n 0, 1) := by decide +kernel
theorem dL_law__2155 : decode cL_law_ 2155 = .ok (.iload 4, 2) := by decide +kernel
theorem dL_law__2157 : decode cL_law_ 2157 = .ok (.iconst 2, 1) := by decide +kernel
theorem dL_law__2158 : decode cL_law_ 2158 = .ok (.iadd, 1) := by decide +kernel
theorem dL_law__2159 : decode cL_law_ 2159 = .ok (.iaload, 1) := by decide +kernel
theorem dL_law__2160 : decode cL_law_ 2160 = .ok (.ifCond .eq 7, 3) := by decide +kernel
theorem dL_law__2163 : decode cL_law_ 2163 = .ok (.iconst 1, 1) := by decide +kernel
theorem dL_law__2164 : decode cL_law_ 2164 = .ok (.goto 4, 3) := by decide +kernel
theorem dL_law__2167 : decode cL_law_ 2167 = .ok (.iconst 0, 1) := by decide +kernel
theorem dL_law__2168 : decode cL_law_ 2168 = .ok (.aload_n 3, 1) := by decide +kernel
theorem dL_law__2169 : decode cL_law_ 2169 = .ok (.invokestatic 228, 3) := by decide +kernel
theorem dL_law__2172 : decode cL_law_ 2172 = .ok (.istore 5, 2) := by decide +kernel
theorem dL_law__2174 : decode cL_law_ 2174 = .ok (.aload_n 2, 1) := by decide +kernel
theorem dL_law__2175 : decode cL_law_ 2175 = .ok (.aload_n 0, 1) := by decide +kernel
theorem dL_law__2176 : decode cL_law_ 2176 = .ok (.iload 4, 2) := by decide +kernel
theorem dL_law__2178 : decode cL_law_ 2178 = .ok (.iconst 1, 1) := by decide +kernel
theorem dL_law__2179 : decode cL_law_ 2179 = .ok (.iadd, 1) := by decide +kernel
theorem dL_law__2180 : decode cL_law_ 2180 = .ok (.iaload, 1) := by decide +kernel
theorem dL_law__2181 : decode cL_law_ 2181 = .ok (.aload_n 0, 1) := by decide +kernel
theorem dL_law__2182 : decode cL_law_ 2182 = .ok (.iload 4, 2) := by decide +kernel
theorem dL_law__2184 : decode cL_law_ 2184 = .ok (.iconst 2, 1) := by decide +kernel
theorem dL_law__2185 : decode cL_law_ 2185 = .ok (.iadd, 1) := by decide +kernel
theorem dL_law__2186 : decode cL_law_ 2186 = .ok (.iaload, 1) := by decide +kernel
theorem dL_law__2187 : decode cL_law_ 2187 = .ok (.ifCond .eq 7, 3) := by decide +kernel
theorem dL_law__2190 : decode cL_law_ 2190 = .ok (.iconst 1, 1) := by decide +kernel
theorem dL_law__2191 : decode cL_law_ 2191 = .ok (.goto 4, 3) := by decide +kernel
theorem dL_law__2194 : decode cL_law_ 2194 = .ok (.iconst 0, 1) := by decide +kernel
theorem dL_law__2195 : decode cL_law_ 2195 = .ok (.invokevirtual 231, 3) := by decide +kernel
theorem dL_law__2198 : decode cL_law_ 2198 = .ok (.istore 6, 2) := by decide +kernel
theorem dL_law__2200 : decode cL_law_ 2200 = .ok (.aload_n 2, 1) := by decide +kernel
theorem dL_law__2201 : decode cL_law_ 2201 = .ok (.invokevirtual 133, 3) := by decide +kernel
theorem dL_law__2204 : decode cL_law_ 2204 = .ok (.iload 5, 2) := by decide +kernel
theorem dL_law__2206 : decode cL_law_ 2206 = .ok (.if_icmp .eq 5, 3) := by decide +kernel
theorem dL_law__2209 : decode cL_law_ 2209 = .ok (.iconst 0, 1) := by decide +kernel
theorem dL_law__2210 : decode cL_law_ 2210 = .ok (.ireturn, 1) := by decide +kernel
theorem dL_law__2211 : decode cL_law_ 2211 = .ok (.iload 5, 2) := by decide +kernel
theorem dL_law__2213 : decode cL_law_ 2213 = .ok (.ifCond .ne 15, 3) := by decide +kernel
theorem dL_law__2216 : decode cL_law_ 2216 = .ok (.aload_n 3, 1) := by decide +kernel
theorem dL_law__2217 : decode cL_law_ 2217 = .ok (.iconst 0, 1) := by decide +kernel
theorem dL_law__2218 : decode cL_law_ 2218 = .ok (.laload, 1) := by decide +kernel
theorem dL_law__2219 : decode cL_law_ 2219 = .ok (.iload 6, 2) := by decide +kernel
theorem dL_law__2221 : decode cL_law_ 2221 = .ok (.i2l, 1) := by decide +kernel
theorem dL_law__2222 : decode cL_law_ 2222 = .ok (.lcmp, 1) := by decide +kernel
theorem dL_law__2223 : decode cL_law_ 2223 = .ok (.ifCond .eq 5, 3) := by decide +kernel
theorem dL_law__2226 : decode cL_law_ 2226 = .ok (.iconst 0, 1) := by decide +kernel
theorem dL_law__2227 : decode cL_law_ 2227 = .ok (.ireturn, 1) := by decide +kernel
theorem dL_law__2228 : decode cL_law_ 2228 = .ok (.goto 65, 3) := by decide +kernel
theorem dL_law__2231 : decode cL_law_ 2231 = .ok (.aload_n 1, 1) := by decide +kernel
theorem dL_law__2232 : decode cL_law_ 2232 = .ok (.aload_n 0, 1) := by decide +kernel
theorem dL_law__2233 : decode cL_law_ 2233 = .ok (.iload 4, 2) := by decide +kernel
theorem dL_law__2235 : decode cL_law_ 2235 = .ok (.iconst 1, 1) := by decide +kernel
theorem dL_law__2236 : decode cL_law_ 2236 = .ok (.iadd, 1) := by decide +kernel
theorem dL_law__2237 : decode cL_law_ 2237 = .ok (.iaload, 1) := by decide +kernel
theorem dL_law__2238 : decode cL_law_ 2238 = .ok (.aload_n 0, 1) := by decide +kernel
theorem dL_law__2239 : decode cL_law_ 2239 = .ok (.iload 4, 2) := by decide +kernel
theorem dL_law__2241 : decode cL_law_ 2241 = .ok (.iconst 2, 1) := by decide +kernel
theorem dL_law__2242 : decode cL_law_ 2242 = .ok (.iadd, 1) := by decide +kernel
theorem dL_law__2243 : decode cL_law_ 2243 = .ok (.iaload, 1) := by decide +kernel
theorem dL_law__2244 : decode cL_law_ 2244 = .ok (.invokevirtual 232, 3) := by decide +kernel
theorem dL_law__2247 : decode cL_law_ 2247 = .ok (.aload_n 2, 1) := by decide +kernel
theorem dL_law__2248 : decode cL_law_ 2248 = .ok (.aload_n 0, 1) := by decide +kernel
theorem dL_law__2249 : decode cL_law_ 2249 = .ok (.iload 4, 2) := by decide +kernel
theorem dL_law__2251 : decode cL_law_ 2251 = .ok (.iconst 1, 1) := by decide +kernel
theorem dL_law__2252 : decode cL_law_ 2252 = .ok (.iadd, 1) := by decide +kernel
theorem dL_law__2253 : decode cL_law_ 2253 = .ok (.iaload, 1) := by decide +kernel
theorem dL_law__2254 : decode cL_law_ 2254 = .ok (.aload_n 0, 1) := by decide +kernel
theorem dL_law__2255 : decode cL_law_ 2255 = .ok (.iload 4, 2) := by decide +kernel
theorem dL_law__2257 : decode cL_law_ 2257 = .ok (.iconst 2, 1) := by decide +kernel
theorem dL_law__2258 : decode cL_law_ 2258 = .ok (.iadd, 1) := by decide +kernel
theorem dL_law__2259 : decode cL_law_ 2259 = .ok (.iaload, 1) := by decide +kernel
theorem dL_law__2260 : decode cL_law_ 2260 = .ok (.invokevirtual 235, 3) := by decide +kernel
theorem dL_law__2263 : decode cL_law_ 2263 = .ok (.if_icmp .eq 30, 3) := by decide +kernel
theorem dL_law__2266 : decode cL_law_ 2266 = .ok (.iconst 0, 1) := by decide +kernel
theorem dL_law__2267 : decode cL_law_ 2267 = .ok (.ireturn, 1) := by decide +kernel
theorem dL_law__2268 : decode cL_law_ 2268 = .ok (.aload_n 1, 1) := by decide +kernel
theorem dL_law__2269 : decode cL_law_ 2269 = .ok (.aload_n 0, 1) := by decide +kernel
theorem dL_law__2270 : decode cL_law_ 2270 = .ok (.iload 4, 2) := by decide +kernel
theorem dL_law__2272 : decode cL_law_ 2272 = .ok (.iconst 1, 1) := by decide +kernel
theorem dL_law__2273 : decode cL_law_ 2273 = .ok (.iadd, 1) := by decide +kernel
theorem dL_law__2274 : decode cL_law_ 2274 = .ok (.iaload, 1) := by decide +kernel
theorem dL_law__2275 : decode cL_law_ 2275 = .ok (.invokevirtual 236, 3) := by decide +kernel
theorem dL_law__2278 : decode cL_law_ 2278 = .ok (.aload_n 2, 1) := by decide +kernel
theorem dL_law__2279 : decode cL_law_ 2279 = .ok (.aload_n 0, 1) := by decide +kernel
theorem dL_law__2280 : decode cL_law_ 2280 = .ok (.iload 4, 2) := by decide +kernel
theorem dL_law__2282 : decode cL_law_ 2282 = .ok (.iconst 1, 1) := by decide +kernel
theorem dL_law__2283 : decode cL_law_ 2283 = .ok (.iadd, 1) := by decide +kernel
theorem dL_law__2284 : decode cL_law_ 2284 = .ok (.iaload, 1) := by decide +kernel
theorem dL_law__2285 : decode cL_law_ 2285 = .ok (.invokevirtual 239, 3) := by decide +kernel
theorem dL_law__2288 : decode cL_law_ 2288 = .ok (.if_icmp .eq 5, 3) := by decide +kernel
theorem dL_law__2291 : decode cL_law_ 2291 = .ok (.iconst 0, 1) := by decide +kernel
theorem dL_law__2292 : decode cL_law_ 2292 = .ok (.ireturn, 1) := by decide +kernel
theorem dL_law__2293 : decode cL_law_ 2293 = .ok (.iinc 4 8, 3) := by decide +kernel
theorem dL_law__2296 : decode cL_law_ 2296 = .ok (.goto (-2273), 3) := by decide +kernel
theorem dL_law__2299 : decode cL_law_ 2299 = .ok (.iconst 1, 1) := by decide +kernel
theorem dL_law__2300 : decode cL_law_ 2300 = .ok (.ireturn, 1) := by decide +kernel
