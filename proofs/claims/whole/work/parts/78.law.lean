/-! THE LAW: one item (printed by wip/whole/gen_law.py) -/
theorem g18 : decode code 18 = .ok (.iload_n 3, 1) := by decide +kernel
theorem g19 : decode code 19 = .ok (.aload_n 0, 1) := by decide +kernel
theorem g20 : decode code 20 = .ok (.arraylength, 1) := by decide +kernel
theorem g21 : decode code 21 = .ok (.bipush 6, 2) := by decide +kernel
theorem g23 : decode code 23 = .ok (.isub, 1) := by decide +kernel
theorem g24 : decode code 24 = .ok (.if_icmp .gt 1170, 3) := by decide +kernel
theorem g27 : decode code 27 = .ok (.aload_n 0, 1) := by decide +kernel
theorem g28 : decode code 28 = .ok (.iload_n 3, 1) := by decide +kernel
theorem g29 : decode code 29 = .ok (.iaload, 1) := by decide +kernel
theorem g30 : decode code 30 = .ok (.bipush 31, 2) := by decide +kernel
theorem g32 : decode code 32 = .ok (.iand, 1) := by decide +kernel
theorem g33 : decode code 33 = .ok (.tableswitch 1155 0 30 #[139, 172, 205, 248, 271, 314, 337, 350, 373, 396, 439, 472, 505, 558, 591, 625, 659, 692, 715, 748, 761, 794, 807, 820, 863, 886, 919, 942, 985, 1058, 1092], 139) := by decide +kernel
theorem g172 : decode code 172 = .ok (.aload_n 1, 1) := by decide +kernel
theorem g173 : decode code 173 = .ok (.aload_n 0, 1) := by decide +kernel
theorem g174 : decode code 174 = .ok (.iload_n 3, 1) := by decide +kernel
theorem g175 : decode code 175 = .ok (.iconst 1, 1) := by decide +kernel
theorem g176 : decode code 176 = .ok (.iadd, 1) := by decide +kernel
theorem g177 : decode code 177 = .ok (.iaload, 1) := by decide +kernel
theorem g178 : decode code 178 = .ok (.aload_n 0, 1) := by decide +kernel
theorem g179 : decode code 179 = .ok (.iload_n 3, 1) := by decide +kernel
theorem g180 : decode code 180 = .ok (.iconst 2, 1) := by decide +kernel
theorem g181 : decode code 181 = .ok (.iadd, 1) := by decide +kernel
theorem g182 : decode code 182 = .ok (.iaload, 1) := by decide +kernel
theorem g183 : decode code 183 = .ok (.invokevirtual 13, 3) := by decide +kernel
theorem g186 : decode code 186 = .ok (.aload_n 2, 1) := by decide +kernel
theorem g187 : decode code 187 = .ok (.aload_n 0, 1) := by decide +kernel
theorem g188 : decode code 188 = .ok (.iload_n 3, 1) := by decide +kernel
theorem g189 : decode code 189 = .ok (.iconst 1, 1) := by decide +kernel
theorem g190 : decode code 190 = .ok (.iadd, 1) := by decide +kernel
theorem g191 : decode code 191 = .ok (.iaload, 1) := by decide +kernel
theorem g192 : decode code 192 = .ok (.aload_n 0, 1) := by decide +kernel
theorem g193 : decode code 193 = .ok (.iload_n 3, 1) := by decide +kernel
theorem g194 : decode code 194 = .ok (.iconst 2, 1) := by decide +kernel
theorem g195 : decode code 195 = .ok (.iadd, 1) := by decide +kernel
theorem g196 : decode code 196 = .ok (.iaload, 1) := by decide +kernel
theorem g197 : decode code 197 = .ok (.invokevirtual 17, 3) := by decide +kernel
theorem g200 : decode code 200 = .ok (.if_icmp .eq 988, 3) := by decide +kernel
theorem g203 : decode code 203 = .ok (.iconst 0, 1) := by decide +kernel
theorem g205 : decode code 205 = .ok (.aload_n 1, 1) := by decide +kernel
theorem g206 : decode code 206 = .ok (.aload_n 0, 1) := by decide +kernel
theorem g207 : decode code 207 = .ok (.iload_n 3, 1) := by decide +kernel
theorem g208 : decode code 208 = .ok (.iconst 1, 1) := by decide +kernel
theorem g209 : decode code 209 = .ok (.iadd, 1) := by decide +kernel
theorem g210 : decode code 210 = .ok (.iaload, 1) := by decide +kernel
theorem g211 : decode code 211 = .ok (.aload_n 0, 1) := by decide +kernel
theorem g212 : decode code 212 = .ok (.iload_n 3, 1) := by decide +kernel
theorem g213 : decode code 213 = .ok (.iconst 2, 1) := by decide +kernel
theorem g214 : decode code 214 = .ok (.iadd, 1) := by decide +kernel
theorem g215 : decode code 215 = .ok (.iaload, 1) := by decide +kernel
theorem g216 : decode code 216 = .ok (.invokevirtual 18, 3) := by decide +kernel
theorem g219 : decode code 219 = .ok (.aload_n 2, 1) := by decide +kernel
theorem g220 : decode code 220 = .ok (.aload_n 0, 1) := by decide +kernel
theorem g221 : decode code 221 = .ok (.iload_n 3, 1) := by decide +kernel
theorem g222 : decode code 222 = .ok (.iconst 1, 1) := by decide +kernel
theorem g223 : decode code 223 = .ok (.iadd, 1) := by decide +kernel
theorem g224 : decode code 224 = .ok (.iaload, 1) := by decide +kernel
theorem g225 : decode code 225 = .ok (.aload_n 0, 1) := by decide +kernel
theorem g226 : decode code 226 = .ok (.iload_n 3, 1) := by decide +kernel
theorem g227 : decode code 227 = .ok (.iconst 2, 1) := by decide +kernel
theorem g228 : decode code 228 = .ok (.iadd, 1) := by decide +kernel
theorem g229 : decode code 229 = .ok (.iaload, 1) := by decide +kernel
theorem g230 : decode code 230 = .ok (.invokevirtual 21, 3) := by decide +kernel
theorem g233 : decode code 233 = .ok (.if_icmp .eq 955, 3) := by decide +kernel
theorem g236 : decode code 236 = .ok (.iconst 0, 1) := by decide +kernel
theorem g238 : decode code 238 = .ok (.aload_n 1, 1) := by decide +kernel
theorem g239 : decode code 239 = .ok (.aload_n 0, 1) := by decide +kernel
theorem g240 : decode code 240 = .ok (.iload_n 3, 1) := by decide +kernel
theorem g241 : decode code 241 = .ok (.iconst 1, 1) := by decide +kernel
theorem g242 : decode code 242 = .ok (.iadd, 1) := by decide +kernel
theorem g243 : decode code 243 = .ok (.iaload, 1) := by decide +kernel
theorem g244 : decode code 244 = .ok (.aload_n 0, 1) := by decide +kernel
theorem g245 : decode code 245 = .ok (.iload_n 3, 1) := by decide +kernel
theorem g246 : decode code 246 = .ok (.iconst 2, 1) := by decide +kernel
theorem g247 : decode code 247 = .ok (.iadd, 1) := by decide +kernel
theorem g248 : decode code 248 = .ok (.iaload, 1) := by decide +kernel
theorem g249 : decode code 249 = .ok (.aload_n 0, 1) := by decide +kernel
theorem g250 : decode code 250 = .ok (.iload_n 3, 1) := by decide +kernel
theorem g251 : decode code 251 = .ok (.iconst 3, 1) := by decide +kernel
theorem g252 : decode code 252 = .ok (.iadd, 1) := by decide +kernel
theorem g253 : decode code 253 = .ok (.iaload, 1) := by decide +kernel
theorem g254 : decode code 254 = .ok (.invokevirtual 22, 3) := by decide +kernel
theorem g257 : decode code 257 = .ok (.aload_n 2, 1) := by decide +kernel
theorem g258 : decode code 258 = .ok (.aload_n 0, 1) := by decide +kernel
theorem g259 : decode code 259 = .ok (.iload_n 3, 1) := by decide +kernel
theorem g260 : decode code 260 = .ok (.iconst 1, 1) := by decide +kernel
theorem g261 : decode code 261 = .ok (.iadd, 1) := by decide +kernel
theorem g262 : decode code 262 = .ok (.iaload, 1) := by decide +kernel
theorem g263 : decode code 263 = .ok (.aload_n 0, 1) := by decide +kernel
theorem g264 : decode code 264 = .ok (.iload_n 3, 1) := by decide +kernel
theorem g265 : decode code 265 = .ok (.iconst 2, 1) := by decide +kernel
theorem g266 : decode code 266 = .ok (.iadd, 1) := by decide +kernel
theorem g267 : decode code 267 = .ok (.iaload, 1) := by decide +kernel
theorem g268 : decode code 268 = .ok (.aload_n 0, 1) := by decide +kernel
theorem g269 : decode code 269 = .ok (.iload_n 3, 1) := by decide +kernel
theorem g270 : decode code 270 = .ok (.iconst 3, 1) := by decide +kernel
theorem g271 : decode code 271 = .ok (.iadd, 1) := by decide +kernel
theorem g272 : decode code 272 = .ok (.iaload, 1) := by decide +kernel
theorem g273 : decode code 273 = .ok (.invokevirtual 26, 3) := by decide +kernel
theorem g276 : decode code 276 = .ok (.if_icmp .eq 912, 3) := by decide +kernel
theorem g279 : decode code 279 = .ok (.iconst 0, 1) := by decide +kernel
theorem g281 : decode code 281 = .ok (.aload_n 1, 1) := by decide +kernel
theorem g282 : decode code 282 = .ok (.aload_n 0, 1) := by decide +kernel
theorem g283 : decode code 283 = .ok (.iload_n 3, 1) := by decide +kernel
theorem g284 : decode code 284 = .ok (.iconst 1, 1) := by decide +kernel
theorem g285 : decode code 285 = .ok (.iadd, 1) := by decide +kernel
theorem g286 : decode code 286 = .ok (.iaload, 1) := by decide +kernel
theorem g287 : decode code 287 = .ok (.invokevirtual 27, 3) := by decide +kernel
theorem g290 : decode code 290 = .ok (.aload_n 2, 1) := by decide +kernel
theorem g291 : decode code 291 = .ok (.aload_n 0, 1) := by decide +kernel
theorem g292 : decode code 292 = .ok (.iload_n 3, 1) := by decide +kernel
theorem g293 : decode code 293 = .ok (.iconst 1, 1) := by decide +kernel
theorem g294 : decode code 294 = .ok (.iadd, 1) := by decide +kernel
theorem g295 : decode code 295 = .ok (.iaload, 1) := by decide +kernel
theorem g296 : decode code 296 = .ok (.invokevirtual 31, 3) := by decide +kernel
theorem g299 : decode code 299 = .ok (.if_icmp .eq 889, 3) := by decide +kernel
theorem g302 : decode code 302 = .ok (.iconst 0, 1) := by decide +kernel
theorem g304 : decode code 304 = .ok (.aload_n 1, 1) := by decide +kernel
theorem g305 : decode code 305 = .ok (.aload_n 0, 1) := by decide +kernel
theorem g306 : decode code 306 = .ok (.iload_n 3, 1) := by decide +kernel
theorem g307 : decode code 307 = .ok (.iconst 1, 1) := by decide +kernel
theorem g308 : decode code 308 = .ok (.iadd, 1) := by decide +kernel
theorem g309 : decode code 309 = .ok (.iaload, 1) := by decide +kernel
theorem g310 : decode code 310 = .ok (.aload_n 0, 1) := by decide +kernel
theorem g311 : decode code 311 = .ok (.iload_n 3, 1) := by decide +kernel
theorem g312 : decode code 312 = .ok (.iconst 2, 1) := by decide +kernel
theorem g313 : decode code 313 = .ok (.iadd, 1) := by decide +kernel
theorem g314 : decode code 314 = .ok (.iaload, 1) := by decide +kernel
theorem g315 : decode code 315 = .ok (.aload_n 0, 1) := by decide +kernel
theorem g316 : decode code 316 = .ok (.iload_n 3, 1) := by decide +kernel
theorem g317 : decode code 317 = .ok (.iconst 3, 1) := by decide +kernel
theorem g318 : decode code 318 = .ok (.iadd, 1) := by decide +kernel
theorem g319 : decode code 319 = .ok (.iaload, 1) := by decide +kernel
theorem g320 : decode code 320 = .ok (.invokevirtual 32, 3) := by decide +kernel
theorem g323 : decode code 323 = .ok (.aload_n 2, 1) := by decide +kernel
theorem g324 : decode code 324 = .ok (.aload_n 0, 1) := by decide +kernel
theorem g325 : decode code 325 = .ok (.iload_n 3, 1) := by decide +kernel
theorem g326 : decode code 326 = .ok (.iconst 1, 1) := by decide +kernel
theorem g327 : decode code 327 = .ok (.iadd, 1) := by decide +kernel
theorem g328 : decode code 328 = .ok (.iaload, 1) := by decide +kernel
theorem g329 : decode code 329 = .ok (.aload_n 0, 1) := by decide +kernel
theorem g330 : decode code 330 = .ok (.iload_n 3, 1) := by decide +kernel
theorem g331 : decode code 331 = .ok (.iconst 2, 1) := by decide +kernel
theorem g332 : decode code 332 = .ok (.iadd, 1) := by decide +kernel
theorem g333 : decode code 333 = .ok (.iaload, 1) := by decide +kernel
theorem g334 : decode code 334 = .ok (.aload_n 0, 1) := by decide +kernel
theorem g335 : decode code 335 = .ok (.iload_n 3, 1) := by decide +kernel
theorem g336 : decode code 336 = .ok (.iconst 3, 1) := by decide +kernel
theorem g337 : decode code 337 = .ok (.iadd, 1) := by decide +kernel
theorem g338 : decode code 338 = .ok (.iaload, 1) := by decide +kernel
theorem g339 : decode code 339 = .ok (.invokevirtual 35, 3) := by decide +kernel
theorem g342 : decode code 342 = .ok (.if_icmp .eq 846, 3) := by decide +kernel
theorem g345 : decode code 345 = .ok (.iconst 0, 1) := by decide +kernel
theorem g347 : decode code 347 = .ok (.aload_n 1, 1) := by decide +kernel
theorem g348 : decode code 348 = .ok (.aload_n 0, 1) := by decide +kernel
theorem g349 : decode code 349 = .ok (.iload_n 3, 1) := by decide +kernel
theorem g350 : decode code 350 = .ok (.iconst 1, 1) := by decide +kernel
theorem g351 : decode code 351 = .ok (.iadd, 1) := by decide +kernel
theorem g352 : decode code 352 = .ok (.iaload, 1) := by decide +kernel
theorem g353 : decode code 353 = .ok (.invokevirtual 36, 3) := by decide +kernel
theorem g356 : decode code 356 = .ok (.aload_n 2, 1) := by decide +kernel
theorem g357 : decode code 357 = .ok (.aload_n 0, 1) := by decide +kernel
theorem g358 : decode code 358 = .ok (.iload_n 3, 1) := by decide +kernel
theorem g359 : decode code 359 = .ok (.iconst 1, 1) := by decide +kernel
theorem g360 : decode code 360 = .ok (.iadd, 1) := by decide +kernel
theorem g361 : decode code 361 = .ok (.iaload, 1) := by decide +kernel
theorem g362 : decode code 362 = .ok (.invokevirtual 39, 3) := by decide +kernel
theorem g365 : decode code 365 = .ok (.if_icmp .eq 823, 3) := by decide +kernel
theorem g368 : decode code 368 = .ok (.iconst 0, 1) := by decide +kernel
theorem g370 : decode code 370 = .ok (.aload_n 1, 1) := by decide +kernel
theorem g371 : decode code 371 = .ok (.invokevirtual 40, 3) := by decide +kernel
theorem g374 : decode code 374 = .ok (.aload_n 2, 1) := by decide +kernel
theorem g375 : decode code 375 = .ok (.invokevirtual 44, 3) := by decide +kernel
theorem g378 : decode code 378 = .ok (.if_icmp .eq 810, 3) := by decide +kernel
theorem g381 : decode code 381 = .ok (.iconst 0, 1) := by decide +kernel
theorem g383 : decode code 383 = .ok (.aload_n 1, 1) := by decide +kernel
theorem g384 : decode code 384 = .ok (.aload_n 0, 1) := by decide +kernel
theorem g385 : decode code 385 = .ok (.iload_n 3, 1) := by decide +kernel
theorem g386 : decode code 386 = .ok (.iconst 1, 1) := by decide +kernel
theorem g387 : decode code 387 = .ok (.iadd, 1) := by decide +kernel
theorem g388 : decode code 388 = .ok (.iaload, 1) := by decide +kernel
theorem g389 : decode code 389 = .ok (.invokevirtual 45, 3) := by decide +kernel
theorem g392 : decode code 392 = .ok (.aload_n 2, 1) := by decide +kernel
theorem g393 : decode code 393 = .ok (.aload_n 0, 1) := by decide +kernel
theorem g394 : decode code 394 = .ok (.iload_n 3, 1) := by decide +kernel
theorem g395 : decode code 395 = .ok (.iconst 1, 1) := by decide +kernel
theorem g396 : decode code 396 = .ok (.iadd, 1) := by decide +kernel
theorem g397 : decode code 397 = .ok (.iaload, 1) := by decide +kernel
theorem g398 : decode code 398 = .ok (.invokevirtual 48, 3) := by decide +kernel
theorem g401 : decode code 401 = .ok (.if_icmp .eq 787, 3) := by decide +kernel
theorem g404 : decode code 404 = .ok (.iconst 0, 1) := by decide +kernel
theorem g406 : decode code 406 = .ok (.aload_n 1, 1) := by decide +kernel
theorem g407 : decode code 407 = .ok (.aload_n 0, 1) := by decide +kernel
theorem g408 : decode code 408 = .ok (.iload_n 3, 1) := by decide +kernel
theorem g409 : decode code 409 = .ok (.iconst 1, 1) := by decide +kernel
theorem g410 : decode code 410 = .ok (.iadd, 1) := by decide +kernel
theorem g411 : decode code 411 = .ok (.iaload, 1) := by decide +kernel
theorem g412 : decode code 412 = .ok (.invokevirtual 49, 3) := by decide +kernel
theorem g415 : decode code 415 = .ok (.aload_n 2, 1) := by decide +kernel
theorem g416 : decode code 416 = .ok (.aload_n 0, 1) := by decide +kernel
theorem g417 : decode code 417 = .ok (.iload_n 3, 1) := by decide +kernel
theorem g418 : decode code 418 = .ok (.iconst 1, 1) := by decide +kernel
theorem g419 : decode code 419 = .ok (.iadd, 1) := by decide +kernel
theorem g420 : decode code 420 = .ok (.iaload, 1) := by decide +kernel
theorem g421 : decode code 421 = .ok (.invokevirtual 52, 3) := by decide +kernel
theorem g424 : decode code 424 = .ok (.if_icmp .eq 764, 3) := by decide +kernel
theorem g427 : decode code 427 = .ok (.iconst 0, 1) := by decide +kernel
theorem g429 : decode code 429 = .ok (.aload_n 1, 1) := by decide +kernel
theorem g430 : decode code 430 = .ok (.aload_n 0, 1) := by decide +kernel
theorem g431 : decode code 431 = .ok (.iload_n 3, 1) := by decide +kernel
theorem g432 : decode code 432 = .ok (.iconst 1, 1) := by decide +kernel
theorem g433 : decode code 433 = .ok (.iadd, 1) := by decide +kernel
theorem g434 : decode code 434 = .ok (.iaload, 1) := by decide +kernel
theorem g435 : decode code 435 = .ok (.aload_n 0, 1) := by decide +kernel
theorem g436 : decode code 436 = .ok (.iload_n 3, 1) := by decide +kernel
theorem g437 : decode code 437 = .ok (.iconst 2, 1) := by decide +kernel
theorem g438 : decode code 438 = .ok (.iadd, 1) := by decide +kernel
theorem g439 : decode code 439 = .ok (.iaload, 1) := by decide +kernel
theorem g440 : decode code 440 = .ok (.aload_n 0, 1) := by decide +kernel
theorem g441 : decode code 441 = .ok (.iload_n 3, 1) := by decide +kernel
theorem g442 : decode code 442 = .ok (.iconst 3, 1) := by decide +kernel
theorem g443 : decode code 443 = .ok (.iadd, 1) := by decide +kernel
theorem g444 : decode code 444 = .ok (.iaload, 1) := by decide +kernel
theorem g445 : decode code 445 = .ok (.invokevirtual 53, 3) := by decide +kernel
theorem g448 : decode code 448 = .ok (.aload_n 2, 1) := by decide +kernel
theorem g449 : decode code 449 = .ok (.aload_n 0, 1) := by decide +kernel
theorem g450 : decode code 450 = .ok (.iload_n 3, 1) := by decide +kernel
theorem g451 : decode code 451 = .ok (.iconst 1, 1) := by decide +kernel
theorem g452 : decode code 452 = .ok (.iadd, 1) := by decide +kernel
theorem g453 : decode code 453 = .ok (.iaload, 1) := by decide +kernel
theorem g454 : decode code 454 = .ok (.aload_n 0, 1) := by decide +kernel
theorem g455 : decode code 455 = .ok (.iload_n 3, 1) := by decide +kernel
theorem g456 : decode code 456 = .ok (.iconst 2, 1) := by decide +kernel
theorem g457 : decode code 457 = .ok (.iadd, 1) := by decide +kernel
theorem g458 : decode code 458 = .ok (.iaload, 1) := by decide +kernel
theorem g459 : decode code 459 = .ok (.aload_n 0, 1) := by decide +kernel
theorem g460 : decode code 460 = .ok (.iload_n 3, 1) := by decide +kernel
theorem g461 : decode code 461 = .ok (.iconst 3, 1) := by decide +kernel
theorem g462 : decode code 462 = .ok (.iadd, 1) := by decide +kernel
theorem g463 : decode code 463 = .ok (.iaload, 1) := by decide +kernel
theorem g464 : decode code 464 = .ok (.invokevirtual 56, 3) := by decide +kernel
theorem g467 : decode code 467 = .ok (.if_icmp .eq 721, 3) := by decide +kernel
theorem g470 : decode code 470 = .ok (.iconst 0, 1) := by decide +kernel
theorem g472 : decode code 472 = .ok (.aload_n 1, 1) := by decide +kernel
theorem g473 : decode code 473 = .ok (.aload_n 0, 1) := by decide +kernel
theorem g474 : decode code 474 = .ok (.iload_n 3, 1) := by decide +kernel
theorem g475 : decode code 475 = .ok (.iconst 1, 1) := by decide +kernel
theorem g476 : decode code 476 = .ok (.iadd, 1) := by decide +kernel
theorem g477 : decode code 477 = .ok (.iaload, 1) := by decide +kernel
theorem g478 : decode code 478 = .ok (.aload_n 0, 1) := by decide +kernel
theorem g479 : decode code 479 = .ok (.iload_n 3, 1) := by decide +kernel
theorem g480 : decode code 480 = .ok (.iconst 2, 1) := by decide +kernel
theorem g481 : decode code 481 = .ok (.iadd, 1) := by decide +kernel
theorem g482 : decode code 482 = .ok (.iaload, 1) := by decide +kernel
theorem g483 : decode code 483 = .ok (.invokevirtual 57, 3) := by decide +kernel
theorem g486 : decode code 486 = .ok (.aload_n 2, 1) := by decide +kernel
theorem g487 : decode code 487 = .ok (.aload_n 0, 1) := by decide +kernel
theorem g488 : decode code 488 = .ok (.iload_n 3, 1) := by decide +kernel
theorem g489 : decode code 489 = .ok (.iconst 1, 1) := by decide +kernel
theorem g490 : decode code 490 = .ok (.iadd, 1) := by decide +kernel
theorem g491 : decode code 491 = .ok (.iaload, 1) := by decide +kernel
theorem g492 : decode code 492 = .ok (.aload_n 0, 1) := by decide +kernel
theorem g493 : decode code 493 = .ok (.iload_n 3, 1) := by decide +kernel
theorem g494 : decode code 494 = .ok (.iconst 2, 1) := by decide +kernel
theorem g495 : decode code 495 = .ok (.iadd, 1) := by decide +kernel
theorem g496 : decode code 496 = .ok (.iaload, 1) := by decide +kernel
theorem g497 : decode code 497 = .ok (.invokevirtual 60, 3) := by decide +kernel
theorem g500 : decode code 500 = .ok (.if_icmp .eq 688, 3) := by decide +kernel
theorem g503 : decode code 503 = .ok (.iconst 0, 1) := by decide +kernel
theorem g505 : decode code 505 = .ok (.aload_n 1, 1) := by decide +kernel
theorem g506 : decode code 506 = .ok (.aload_n 0, 1) := by decide +kernel
theorem g507 : decode code 507 = .ok (.iload_n 3, 1) := by decide +kernel
theorem g508 : decode code 508 = .ok (.iconst 1, 1) := by decide +kernel
theorem g509 : decode code 509 = .ok (.iadd, 1) := by decide +kernel
theorem g510 : decode code 510 = .ok (.iaload, 1) := by decide +kernel
theorem g511 : decode code 511 = .ok (.aload_n 0, 1) := by decide +kernel
theorem g512 : decode code 512 = .ok (.iload_n 3, 1) := by decide +kernel
theorem g513 : decode code 513 = .ok (.iconst 2, 1) := by decide +kernel
theorem g514 : decode code 514 = .ok (.iadd, 1) := by decide +kernel
theorem g515 : decode code 515 = .ok (.iaload, 1) := by decide +kernel
theorem g516 : decode code 516 = .ok (.invokevirtual 61, 3) := by decide +kernel
theorem g519 : decode code 519 = .ok (.aload_n 2, 1) := by decide +kernel
theorem g520 : decode code 520 = .ok (.aload_n 0, 1) := by decide +kernel
theorem g521 : decode code 521 = .ok (.iload_n 3, 1) := by decide +kernel
theorem g522 : decode code 522 = .ok (.iconst 1, 1) := by decide +kernel
theorem g523 : decode code 523 = .ok (.iadd, 1) := by decide +kernel
theorem g524 : decode code 524 = .ok (.iaload, 1) := by decide +kernel
theorem g525 : decode code 525 = .ok (.aload_n 0, 1) := by decide +kernel
theorem g526 : decode code 526 = .ok (.iload_n 3, 1) := by decide +kernel
theorem g527 : decode code 527 = .ok (.iconst 2, 1) := by decide +kernel
theorem g528 : decode code 528 = .ok (.iadd, 1) := by decide +kernel
theorem g529 : decode code 529 = .ok (.iaload, 1) := by decide +kernel
theorem g530 : decode code 530 = .ok (.invokevirtual 64, 3) := by decide +kernel
theorem g533 : decode code 533 = .ok (.if_icmp .eq 655, 3) := by decide +kernel
theorem g536 : decode code 536 = .ok (.iconst 0, 1) := by decide +kernel
theorem g538 : decode code 538 = .ok (.aload_n 1, 1) := by decide +kernel
theorem g539 : decode code 539 = .ok (.aload_n 0, 1) := by decide +kernel
theorem g540 : decode code 540 = .ok (.iload_n 3, 1) := by decide +kernel
theorem g541 : decode code 541 = .ok (.iconst 1, 1) := by decide +kernel
theorem g542 : decode code 542 = .ok (.iadd, 1) := by decide +kernel
theorem g543 : decode code 543 = .ok (.iaload, 1) := by decide +kernel
theorem g544 : decode code 544 = .ok (.aload_n 0, 1) := by decide +kernel
theorem g545 : decode code 545 = .ok (.iload_n 3, 1) := by decide +kernel
theorem g546 : decode code 546 = .ok (.iconst 2, 1) := by decide +kernel
theorem g547 : decode code 547 = .ok (.iadd, 1) := by decide +kernel
theorem g548 : decode code 548 = .ok (.iaload, 1) := by decide +kernel
theorem g549 : decode code 549 = .ok (.aload_n 0, 1) := by decide +kernel
theorem g550 : decode code 550 = .ok (.iload_n 3, 1) := by decide +kernel
theorem g551 : decode code 551 = .ok (.iconst 3, 1) := by decide +kernel
theorem g552 : decode code 552 = .ok (.iadd, 1) := by decide +kernel
theorem g553 : decode code 553 = .ok (.iaload, 1) := by decide +kernel
theorem g554 : decode code 554 = .ok (.aload_n 0, 1) := by decide +kernel
theorem g555 : decode code 555 = .ok (.iload_n 3, 1) := by decide +kernel
theorem g556 : decode code 556 = .ok (.iconst 4, 1) := by decide +kernel
theorem g557 : decode code 557 = .ok (.iadd, 1) := by decide +kernel
theorem g558 : decode code 558 = .ok (.iaload, 1) := by decide +kernel
theorem g559 : decode code 559 = .ok (.invokevirtual 65, 3) := by decide +kernel
theorem g562 : decode code 562 = .ok (.aload_n 2, 1) := by decide +kernel
theorem g563 : decode code 563 = .ok (.aload_n 0, 1) := by decide +kernel
theorem g564 : decode code 564 = .ok (.iload_n 3, 1) := by decide +kernel
theorem g565 : decode code 565 = .ok (.iconst 1, 1) := by decide +kernel
theorem g566 : decode code 566 = .ok (.iadd, 1) := by decide +kernel
theorem g567 : decode code 567 = .ok (.iaload, 1) := by decide +kernel
theorem g568 : decode code 568 = .ok (.aload_n 0, 1) := by decide +kernel
theorem g569 : decode code 569 = .ok (.iload_n 3, 1) := by decide +kernel
theorem g570 : decode code 570 = .ok (.iconst 2, 1) := by decide +kernel
theorem g571 : decode code 571 = .ok (.iadd, 1) := by decide +kernel
theorem g572 : decode code 572 = .ok (.iaload, 1) := by decide +kernel
theorem g573 : decode code 573 = .ok (.aload_n 0, 1) := by decide +kernel
theorem g574 : decode code 574 = .ok (.iload_n 3, 1) := by decide +kernel
theorem g575 : decode code 575 = .ok (.iconst 3, 1) := by decide +kernel
theorem g576 : decode code 576 = .ok (.iadd, 1) := by decide +kernel
theorem g577 : decode code 577 = .ok (.iaload, 1) := by decide +kernel
theorem g578 : decode code 578 = .ok (.aload_n 0, 1) := by decide +kernel
theorem g579 : decode code 579 = .ok (.iload_n 3, 1) := by decide +kernel
theorem g580 : decode code 580 = .ok (.iconst 4, 1) := by decide +kernel
theorem g581 : decode code 581 = .ok (.iadd, 1) := by decide +kernel
theorem g582 : decode code 582 = .ok (.iaload, 1) := by decide +kernel
theorem g583 : decode code 583 = .ok (.invokevirtual 69, 3) := by decide +kernel
theorem g586 : decode code 586 = .ok (.if_icmp .eq 602, 3) := by decide +kernel
theorem g589 : decode code 589 = .ok (.iconst 0, 1) := by decide +kernel
theorem g591 : decode code 591 = .ok (.aload_n 1, 1) := by decide +kernel
theorem g592 : decode code 592 = .ok (.aload_n 0, 1) := by decide +kernel
theorem g593 : decode code 593 = .ok (.iload_n 3, 1) := by decide +kernel
theorem g594 : decode code 594 = .ok (.iconst 1, 1) := by decide +kernel
theorem g595 : decode code 595 = .ok (.iadd, 1) := by decide +kernel
theorem g596 : decode code 596 = .ok (.iaload, 1) := by decide +kernel
theorem g597 : decode code 597 = .ok (.aload_n 0, 1) := by decide +kernel
theorem g598 : decode code 598 = .ok (.iload_n 3, 1) := by decide +kernel
theorem g599 : decode code 599 = .ok (.iconst 2, 1) := by decide +kernel
theorem g600 : decode code 600 = .ok (.iadd, 1) := by decide +kernel
theorem g601 : decode code 601 = .ok (.iaload, 1) := by decide +kernel
theorem g602 : decode code 602 = .ok (.invokevirtual 70, 3) := by decide +kernel
theorem g605 : decode code 605 = .ok (.aload_n 2, 1) := by decide +kernel
theorem g606 : decode code 606 = .ok (.aload_n 0, 1) := by decide +kernel
theorem g607 : decode code 607 = .ok (.iload_n 3, 1) := by decide +kernel
theorem g608 : decode code 608 = .ok (.iconst 1, 1) := by decide +kernel
theorem g609 : decode code 609 = .ok (.iadd, 1) := by decide +kernel
theorem g610 : decode code 610 = .ok (.iaload, 1) := by decide +kernel
theorem g611 : decode code 611 = .ok (.aload_n 0, 1) := by decide +kernel
theorem g612 : decode code 612 = .ok (.iload_n 3, 1) := by decide +kernel
theorem g613 : decode code 613 = .ok (.iconst 2, 1) := by decide +kernel
theorem g614 : decode code 614 = .ok (.iadd, 1) := by decide +kernel
theorem g615 : decode code 615 = .ok (.iaload, 1) := by decide +kernel
theorem g616 : decode code 616 = .ok (.invokevirtual 73, 3) := by decide +kernel
theorem g619 : decode code 619 = .ok (.if_icmp .eq 569, 3) := by decide +kernel
theorem g622 : decode code 622 = .ok (.iconst 0, 1) := by decide +kernel
theorem g624 : decode code 624 = .ok (.aload_n 1, 1) := by decide +kernel
theorem g625 : decode code 625 = .ok (.aload_n 0, 1) := by decide +kernel
theorem g626 : decode code 626 = .ok (.iload_n 3, 1) := by decide +kernel
theorem g627 : decode code 627 = .ok (.iconst 1, 1) := by decide +kernel
theorem g628 : decode code 628 = .ok (.iadd, 1) := by decide +kernel
theorem g629 : decode code 629 = .ok (.iaload, 1) := by decide +kernel
theorem g630 : decode code 630 = .ok (.aload_n 0, 1) := by decide +kernel
theorem g631 : decode code 631 = .ok (.iload_n 3, 1) := by decide +kernel
theorem g632 : decode code 632 = .ok (.iconst 2, 1) := by decide +kernel
theorem g633 : decode code 633 = .ok (.iadd, 1) := by decide +kernel
theorem g634 : decode code 634 = .ok (.iaload, 1) := by decide +kernel
theorem g635 : decode code 635 = .ok (.invokevirtual 74, 3) := by decide +kernel
theorem g638 : decode code 638 = .ok (.aload_n 2, 1) := by decide +kernel
theorem g639 : decode code 639 = .ok (.aload_n 0, 1) := by decide +kernel
theorem g640 : decode code 640 = .ok (.iload_n 3, 1) := by decide +kernel
theorem g641 : decode code 641 = .ok (.iconst 1, 1) := by decide +kernel
theorem g642 : decode code 642 = .ok (.iadd, 1) := by decide +kernel
theorem g643 : decode code 643 = .ok (.iaload, 1) := by decide +kernel
theorem g644 : decode code 644 = .ok (.aload_n 0, 1) := by decide +kernel
theorem g645 : decode code 645 = .ok (.iload_n 3, 1) := by decide +kernel
theorem g646 : decode code 646 = .ok (.iconst 2, 1) := by decide +kernel
theorem g647 : decode code 647 = .ok (.iadd, 1) := by decide +kernel
theorem g648 : decode code 648 = .ok (.iaload, 1) := by decide +kernel
theorem g649 : decode code 649 = .ok (.invokevirtual 78, 3) := by decide +kernel
theorem g652 : decode code 652 = .ok (.lcmp, 1) := by decide +kernel
theorem g653 : decode code 653 = .ok (.ifCond .eq 535, 3) := by decide +kernel
theorem g656 : decode code 656 = .ok (.iconst 0, 1) := by decide +kernel
theorem g658 : decode code 658 = .ok (.aload_n 1, 1) := by decide +kernel
theorem g659 : decode code 659 = .ok (.aload_n 0, 1) := by decide +kernel
theorem g660 : decode code 660 = .ok (.iload_n 3, 1) := by decide +kernel
theorem g661 : decode code 661 = .ok (.iconst 1, 1) := by decide +kernel
theorem g662 : decode code 662 = .ok (.iadd, 1) := by decide +kernel
theorem g663 : decode code 663 = .ok (.iaload, 1) := by decide +kernel
theorem g664 : decode code 664 = .ok (.aload_n 0, 1) := by decide +kernel
theorem g665 : decode code 665 = .ok (.iload_n 3, 1) := by decide +kernel
theorem g666 : decode code 666 = .ok (.iconst 2, 1) := by decide +kernel
theorem g667 : decode code 667 = .ok (.iadd, 1) := by decide +kernel
theorem g668 : decode code 668 = .ok (.iaload, 1) := by decide +kernel
theorem g669 : decode code 669 = .ok (.invokevirtual 79, 3) := by decide +kernel
theorem g672 : decode code 672 = .ok (.aload_n 2, 1) := by decide +kernel
theorem g673 : decode code 673 = .ok (.aload_n 0, 1) := by decide +kernel
theorem g674 : decode code 674 = .ok (.iload_n 3, 1) := by decide +kernel
theorem g675 : decode code 675 = .ok (.iconst 1, 1) := by decide +kernel
theorem g676 : decode code 676 = .ok (.iadd, 1) := by decide +kernel
theorem g677 : decode code 677 = .ok (.iaload, 1) := by decide +kernel
theorem g678 : decode code 678 = .ok (.aload_n 0, 1) := by decide +kernel
theorem g679 : decode code 679 = .ok (.iload_n 3, 1) := by decide +kernel
theorem g680 : decode code 680 = .ok (.iconst 2, 1) := by decide +kernel
theorem g681 : decode code 681 = .ok (.iadd, 1) := by decide +kernel
theorem g682 : decode code 682 = .ok (.iaload, 1) := by decide +kernel
theorem g683 : decode code 683 = .ok (.invokevirtual 82, 3) := by decide +kernel
theorem g686 : decode code 686 = .ok (.lcmp, 1) := by decide +kernel
theorem g687 : decode code 687 = .ok (.ifCond .eq 501, 3) := by decide +kernel
theorem g690 : decode code 690 = .ok (.iconst 0, 1) := by decide +kernel
theorem g692 : decode code 692 = .ok (.aload_n 1, 1) := by decide +kernel
theorem g693 : decode code 693 = .ok (.aload_n 0, 1) := by decide +kernel
theorem g694 : decode code 694 = .ok (.iload_n 3, 1) := by decide +kernel
theorem g695 : decode code 695 = .ok (.iconst 1, 1) := by decide +kernel
theorem g696 : decode code 696 = .ok (.iadd, 1) := by decide +kernel
theorem g697 : decode code 697 = .ok (.iaload, 1) := by decide +kernel
theorem g698 : decode code 698 = .ok (.aload_n 0, 1) := by decide +kernel
theorem g699 : decode code 699 = .ok (.iload_n 3, 1) := by decide +kernel
theorem g700 : decode code 700 = .ok (.iconst 2, 1) := by decide +kernel
theorem g701 : decode code 701 = .ok (.iadd, 1) := by decide +kernel
theorem g702 : decode code 702 = .ok (.iaload, 1) := by decide +kernel
theorem g703 : decode code 703 = .ok (.invokevirtual 83, 3) := by decide +kernel
theorem g706 : decode code 706 = .ok (.aload_n 2, 1) := by decide +kernel
theorem g707 : decode code 707 = .ok (.aload_n 0, 1) := by decide +kernel
theorem g708 : decode code 708 = .ok (.iload_n 3, 1) := by decide +kernel
theorem g709 : decode code 709 = .ok (.iconst 1, 1) := by decide +kernel
theorem g710 : decode code 710 = .ok (.iadd, 1) := by decide +kernel
theorem g711 : decode code 711 = .ok (.iaload, 1) := by decide +kernel
theorem g712 : decode code 712 = .ok (.aload_n 0, 1) := by decide +kernel
theorem g713 : decode code 713 = .ok (.iload_n 3, 1) := by decide +kernel
theorem g714 : decode code 714 = .ok (.iconst 2, 1) := by decide +kernel
theorem g715 : decode code 715 = .ok (.iadd, 1) := by decide +kernel
theorem g716 : decode code 716 = .ok (.iaload, 1) := by decide +kernel
theorem g717 : decode code 717 = .ok (.invokevirtual 86, 3) := by decide +kernel
theorem g720 : decode code 720 = .ok (.if_icmp .eq 468, 3) := by decide +kernel
theorem g723 : decode code 723 = .ok (.iconst 0, 1) := by decide +kernel
theorem g725 : decode code 725 = .ok (.aload_n 1, 1) := by decide +kernel
theorem g726 : decode code 726 = .ok (.aload_n 0, 1) := by decide +kernel
theorem g727 : decode code 727 = .ok (.iload_n 3, 1) := by decide +kernel
theorem g728 : decode code 728 = .ok (.iconst 1, 1) := by decide +kernel
theorem g729 : decode code 729 = .ok (.iadd, 1) := by decide +kernel
theorem g730 : decode code 730 = .ok (.iaload, 1) := by decide +kernel
theorem g731 : decode code 731 = .ok (.invokevirtual 87, 3) := by decide +kernel
theorem g734 : decode code 734 = .ok (.aload_n 2, 1) := by decide +kernel
theorem g735 : decode code 735 = .ok (.aload_n 0, 1) := by decide +kernel
theorem g736 : decode code 736 = .ok (.iload_n 3, 1) := by decide +kernel
theorem g737 : decode code 737 = .ok (.iconst 1, 1) := by decide +kernel
theorem g738 : decode code 738 = .ok (.iadd, 1) := by decide +kernel
theorem g739 : decode code 739 = .ok (.iaload, 1) := by decide +kernel
theorem g740 : decode code 740 = .ok (.invokevirtual 90, 3) := by decide +kernel
theorem g743 : decode code 743 = .ok (.if_icmp .eq 445, 3) := by decide +kernel
theorem g746 : decode code 746 = .ok (.iconst 0, 1) := by decide +kernel
theorem g748 : decode code 748 = .ok (.aload_n 1, 1) := by decide +kernel
theorem g749 : decode code 749 = .ok (.aload_n 0, 1) := by decide +kernel
theorem g750 : decode code 750 = .ok (.iload_n 3, 1) := by decide +kernel
theorem g751 : decode code 751 = .ok (.iconst 1, 1) := by decide +kernel
theorem g752 : decode code 752 = .ok (.iadd, 1) := by decide +kernel
theorem g753 : decode code 753 = .ok (.iaload, 1) := by decide +kernel
theorem g754 : decode code 754 = .ok (.aload_n 0, 1) := by decide +kernel
theorem g755 : decode code 755 = .ok (.iload_n 3, 1) := by decide +kernel
theorem g756 : decode code 756 = .ok (.iconst 2, 1) := by decide +kernel
theorem g757 : decode code 757 = .ok (.iadd, 1) := by decide +kernel
theorem g758 : decode code 758 = .ok (.iaload, 1) := by decide +kernel
theorem g759 : decode code 759 = .ok (.invokevirtual 91, 3) := by decide +kernel
theorem g762 : decode code 762 = .ok (.aload_n 2, 1) := by decide +kernel
theorem g763 : decode code 763 = .ok (.aload_n 0, 1) := by decide +kernel
theorem g764 : decode code 764 = .ok (.iload_n 3, 1) := by decide +kernel
theorem g765 : decode code 765 = .ok (.iconst 1, 1) := by decide +kernel
theorem g766 : decode code 766 = .ok (.iadd, 1) := by decide +kernel
theorem g767 : decode code 767 = .ok (.iaload, 1) := by decide +kernel
theorem g768 : decode code 768 = .ok (.aload_n 0, 1) := by decide +kernel
theorem g769 : decode code 769 = .ok (.iload_n 3, 1) := by decide +kernel
theorem g770 : decode code 770 = .ok (.iconst 2, 1) := by decide +kernel
theorem g771 : decode code 771 = .ok (.iadd, 1) := by decide +kernel
theorem g772 : decode code 772 = .ok (.iaload, 1) := by decide +kernel
theorem g773 : decode code 773 = .ok (.invokevirtual 94, 3) := by decide +kernel
theorem g776 : decode code 776 = .ok (.if_icmp .eq 412, 3) := by decide +kernel
theorem g779 : decode code 779 = .ok (.iconst 0, 1) := by decide +kernel
theorem g781 : decode code 781 = .ok (.aload_n 1, 1) := by decide +kernel
theorem g782 : decode code 782 = .ok (.invokevirtual 95, 3) := by decide +kernel
theorem g785 : decode code 785 = .ok (.aload_n 2, 1) := by decide +kernel
theorem g786 : decode code 786 = .ok (.invokevirtual 98, 3) := by decide +kernel
theorem g789 : decode code 789 = .ok (.if_icmp .eq 399, 3) := by decide +kernel
theorem g792 : decode code 792 = .ok (.iconst 0, 1) := by decide +kernel
theorem g794 : decode code 794 = .ok (.aload_n 1, 1) := by decide +kernel
theorem g795 : decode code 795 = .ok (.aload_n 0, 1) := by decide +kernel
theorem g796 : decode code 796 = .ok (.iload_n 3, 1) := by decide +kernel
theorem g797 : decode code 797 = .ok (.iconst 1, 1) := by decide +kernel
theorem g798 : decode code 798 = .ok (.iadd, 1) := by decide +kernel
theorem g799 : decode code 799 = .ok (.iaload, 1) := by decide +kernel
theorem g800 : decode code 800 = .ok (.aload_n 0, 1) := by decide +kernel
theorem g801 : decode code 801 = .ok (.iload_n 3, 1) := by decide +kernel
theorem g802 : decode code 802 = .ok (.iconst 2, 1) := by decide +kernel
theorem g803 : decode code 803 = .ok (.iadd, 1) := by decide +kernel
theorem g804 : decode code 804 = .ok (.iaload, 1) := by decide +kernel
theorem g805 : decode code 805 = .ok (.invokevirtual 99, 3) := by decide +kernel
theorem g808 : decode code 808 = .ok (.aload_n 2, 1) := by decide +kernel
theorem g809 : decode code 809 = .ok (.aload_n 0, 1) := by decide +kernel
theorem g810 : decode code 810 = .ok (.iload_n 3, 1) := by decide +kernel
theorem g811 : decode code 811 = .ok (.iconst 1, 1) := by decide +kernel
theorem g812 : decode code 812 = .ok (.iadd, 1) := by decide +kernel
theorem g813 : decode code 813 = .ok (.iaload, 1) := by decide +kernel
theorem g814 : decode code 814 = .ok (.aload_n 0, 1) := by decide +kernel
theorem g815 : decode code 815 = .ok (.iload_n 3, 1) := by decide +kernel
theorem g816 : decode code 816 = .ok (.iconst 2, 1) := by decide +kernel
theorem g817 : decode code 817 = .ok (.iadd, 1) := by decide +kernel
theorem g818 : decode code 818 = .ok (.iaload, 1) := by decide +kernel
theorem g819 : decode code 819 = .ok (.invokevirtual 102, 3) := by decide +kernel
theorem g822 : decode code 822 = .ok (.if_icmp .eq 366, 3) := by decide +kernel
theorem g825 : decode code 825 = .ok (.iconst 0, 1) := by decide +kernel
theorem g827 : decode code 827 = .ok (.aload_n 1, 1) := by decide +kernel
theorem g828 : decode code 828 = .ok (.invokevirtual 103, 3) := by decide +kernel
theorem g831 : decode code 831 = .ok (.aload_n 2, 1) := by decide +kernel
theorem g832 : decode code 832 = .ok (.invokevirtual 106, 3) := by decide +kernel
theorem g835 : decode code 835 = .ok (.if_icmp .eq 353, 3) := by decide +kernel
theorem g838 : decode code 838 = .ok (.iconst 0, 1) := by decide +kernel
theorem g840 : decode code 840 = .ok (.aload_n 1, 1) := by decide +kernel
theorem g841 : decode code 841 = .ok (.invokevirtual 107, 3) := by decide +kernel
theorem g844 : decode code 844 = .ok (.aload_n 2, 1) := by decide +kernel
theorem g845 : decode code 845 = .ok (.invokevirtual 110, 3) := by decide +kernel
theorem g848 : decode code 848 = .ok (.if_icmp .eq 340, 3) := by decide +kernel
theorem g851 : decode code 851 = .ok (.iconst 0, 1) := by decide +kernel
theorem g853 : decode code 853 = .ok (.aload_n 1, 1) := by decide +kernel
theorem g854 : decode code 854 = .ok (.aload_n 0, 1) := by decide +kernel
theorem g855 : decode code 855 = .ok (.iload_n 3, 1) := by decide +kernel
theorem g856 : decode code 856 = .ok (.iconst 1, 1) := by decide +kernel
theorem g857 : decode code 857 = .ok (.iadd, 1) := by decide +kernel
theorem g858 : decode code 858 = .ok (.iaload, 1) := by decide +kernel
theorem g859 : decode code 859 = .ok (.aload_n 0, 1) := by decide +kernel
theorem g860 : decode code 860 = .ok (.iload_n 3, 1) := by decide +kernel
theorem g861 : decode code 861 = .ok (.iconst 2, 1) := by decide +kernel
theorem g862 : decode code 862 = .ok (.iadd, 1) := by decide +kernel
theorem g863 : decode code 863 = .ok (.iaload, 1) := by decide +kernel
theorem g864 : decode code 864 = .ok (.aload_n 0, 1) := by decide +kernel
theorem g865 : decode code 865 = .ok (.iload_n 3, 1) := by decide +kernel
theorem g866 : decode code 866 = .ok (.iconst 3, 1) := by decide +kernel
theorem g867 : decode code 867 = .ok (.iadd, 1) := by decide +kernel
theorem g868 : decode code 868 = .ok (.iaload, 1) := by decide +kernel
theorem g869 : decode code 869 = .ok (.invokevirtual 111, 3) := by decide +kernel
theorem g872 : decode code 872 = .ok (.aload_n 2, 1) := by decide +kernel
theorem g873 : decode code 873 = .ok (.aload_n 0, 1) := by decide +kernel
theorem g874 : decode code 874 = .ok (.iload_n 3, 1) := by decide +kernel
theorem g875 : decode code 875 = .ok (.iconst 1, 1) := by decide +kernel
theorem g876 : decode code 876 = .ok (.iadd, 1) := by decide +kernel
theorem g877 : decode code 877 = .ok (.iaload, 1) := by decide +kernel
theorem g878 : decode code 878 = .ok (.aload_n 0, 1) := by decide +kernel
theorem g879 : decode code 879 = .ok (.iload_n 3, 1) := by decide +kernel
theorem g880 : decode code 880 = .ok (.iconst 2, 1) := by decide +kernel
theorem g881 : decode code 881 = .ok (.iadd, 1) := by decide +kernel
theorem g882 : decode code 882 = .ok (.iaload, 1) := by decide +kernel
theorem g883 : decode code 883 = .ok (.aload_n 0, 1) := by decide +kernel
theorem g884 : decode code 884 = .ok (.iload_n 3, 1) := by decide +kernel
theorem g885 : decode code 885 = .ok (.iconst 3, 1) := by decide +kernel
theorem g886 : decode code 886 = .ok (.iadd, 1) := by decide +kernel
theorem g887 : decode code 887 = .ok (.iaload, 1) := by decide +kernel
theorem g888 : decode code 888 = .ok (.invokevirtual 114, 3) := by decide +kernel
theorem g891 : decode code 891 = .ok (.if_icmp .eq 297, 3) := by decide +kernel
theorem g894 : decode code 894 = .ok (.iconst 0, 1) := by decide +kernel
theorem g896 : decode code 896 = .ok (.aload_n 1, 1) := by decide +kernel
theorem g897 : decode code 897 = .ok (.aload_n 0, 1) := by decide +kernel
theorem g898 : decode code 898 = .ok (.iload_n 3, 1) := by decide +kernel
theorem g899 : decode code 899 = .ok (.iconst 1, 1) := by decide +kernel
theorem g900 : decode code 900 = .ok (.iadd, 1) := by decide +kernel
theorem g901 : decode code 901 = .ok (.iaload, 1) := by decide +kernel
theorem g902 : decode code 902 = .ok (.invokevirtual 115, 3) := by decide +kernel
theorem g905 : decode code 905 = .ok (.aload_n 2, 1) := by decide +kernel
theorem g906 : decode code 906 = .ok (.aload_n 0, 1) := by decide +kernel
theorem g907 : decode code 907 = .ok (.iload_n 3, 1) := by decide +kernel
theorem g908 : decode code 908 = .ok (.iconst 1, 1) := by decide +kernel
theorem g909 : decode code 909 = .ok (.iadd, 1) := by decide +kernel
theorem g910 : decode code 910 = .ok (.iaload, 1) := by decide +kernel
theorem g911 : decode code 911 = .ok (.invokevirtual 118, 3) := by decide +kernel
theorem g914 : decode code 914 = .ok (.if_icmp .eq 274, 3) := by decide +kernel
theorem g917 : decode code 917 = .ok (.iconst 0, 1) := by decide +kernel
theorem g919 : decode code 919 = .ok (.aload_n 1, 1) := by decide +kernel
theorem g920 : decode code 920 = .ok (.aload_n 0, 1) := by decide +kernel
theorem g921 : decode code 921 = .ok (.iload_n 3, 1) := by decide +kernel
theorem g922 : decode code 922 = .ok (.iconst 1, 1) := by decide +kernel
theorem g923 : decode code 923 = .ok (.iadd, 1) := by decide +kernel
theorem g924 : decode code 924 = .ok (.iaload, 1) := by decide +kernel
theorem g925 : decode code 925 = .ok (.aload_n 0, 1) := by decide +kernel
theorem g926 : decode code 926 = .ok (.iload_n 3, 1) := by decide +kernel
theorem g927 : decode code 927 = .ok (.iconst 2, 1) := by decide +kernel
theorem g928 : decode code 928 = .ok (.iadd, 1) := by decide +kernel
theorem g929 : decode code 929 = .ok (.iaload, 1) := by decide +kernel
theorem g930 : decode code 930 = .ok (.invokevirtual 119, 3) := by decide +kernel
theorem g933 : decode code 933 = .ok (.aload_n 2, 1) := by decide +kernel
theorem g934 : decode code 934 = .ok (.aload_n 0, 1) := by decide +kernel
theorem g935 : decode code 935 = .ok (.iload_n 3, 1) := by decide +kernel
theorem g936 : decode code 936 = .ok (.iconst 1, 1) := by decide +kernel
theorem g937 : decode code 937 = .ok (.iadd, 1) := by decide +kernel
theorem g938 : decode code 938 = .ok (.iaload, 1) := by decide +kernel
theorem g939 : decode code 939 = .ok (.aload_n 0, 1) := by decide +kernel
theorem g940 : decode code 940 = .ok (.iload_n 3, 1) := by decide +kernel
theorem g941 : decode code 941 = .ok (.iconst 2, 1) := by decide +kernel
theorem g942 : decode code 942 = .ok (.iadd, 1) := by decide +kernel
theorem g943 : decode code 943 = .ok (.iaload, 1) := by decide +kernel
theorem g944 : decode code 944 = .ok (.invokevirtual 122, 3) := by decide +kernel
theorem g947 : decode code 947 = .ok (.if_icmp .eq 241, 3) := by decide +kernel
theorem g950 : decode code 950 = .ok (.iconst 0, 1) := by decide +kernel
theorem g952 : decode code 952 = .ok (.aload_n 1, 1) := by decide +kernel
theorem g953 : decode code 953 = .ok (.aload_n 0, 1) := by decide +kernel
theorem g954 : decode code 954 = .ok (.iload_n 3, 1) := by decide +kernel
theorem g955 : decode code 955 = .ok (.iconst 1, 1) := by decide +kernel
theorem g956 : decode code 956 = .ok (.iadd, 1) := by decide +kernel
theorem g957 : decode code 957 = .ok (.iaload, 1) := by decide +kernel
theorem g958 : decode code 958 = .ok (.invokevirtual 123, 3) := by decide +kernel
theorem g961 : decode code 961 = .ok (.aload_n 2, 1) := by decide +kernel
theorem g962 : decode code 962 = .ok (.aload_n 0, 1) := by decide +kernel
theorem g963 : decode code 963 = .ok (.iload_n 3, 1) := by decide +kernel
theorem g964 : decode code 964 = .ok (.iconst 1, 1) := by decide +kernel
theorem g965 : decode code 965 = .ok (.iadd, 1) := by decide +kernel
theorem g966 : decode code 966 = .ok (.iaload, 1) := by decide +kernel
theorem g967 : decode code 967 = .ok (.invokevirtual 126, 3) := by decide +kernel
theorem g970 : decode code 970 = .ok (.if_icmp .eq 218, 3) := by decide +kernel
theorem g973 : decode code 973 = .ok (.iconst 0, 1) := by decide +kernel
theorem g975 : decode code 975 = .ok (.aload_n 1, 1) := by decide +kernel
theorem g976 : decode code 976 = .ok (.aload_n 0, 1) := by decide +kernel
theorem g977 : decode code 977 = .ok (.iload_n 3, 1) := by decide +kernel
theorem g978 : decode code 978 = .ok (.iconst 1, 1) := by decide +kernel
theorem g979 : decode code 979 = .ok (.iadd, 1) := by decide +kernel
theorem g980 : decode code 980 = .ok (.iaload, 1) := by decide +kernel
theorem g981 : decode code 981 = .ok (.aload_n 0, 1) := by decide +kernel
theorem g982 : decode code 982 = .ok (.iload_n 3, 1) := by decide +kernel
theorem g983 : decode code 983 = .ok (.iconst 2, 1) := by decide +kernel
theorem g984 : decode code 984 = .ok (.iadd, 1) := by decide +kernel
theorem g985 : decode code 985 = .ok (.iaload, 1) := by decide +kernel
theorem g986 : decode code 986 = .ok (.aload_n 0, 1) := by decide +kernel
theorem g987 : decode code 987 = .ok (.iload_n 3, 1) := by decide +kernel
theorem g988 : decode code 988 = .ok (.iconst 3, 1) := by decide +kernel
theorem g989 : decode code 989 = .ok (.iadd, 1) := by decide +kernel
theorem g990 : decode code 990 = .ok (.iaload, 1) := by decide +kernel
theorem g991 : decode code 991 = .ok (.invokevirtual 127, 3) := by decide +kernel
theorem g994 : decode code 994 = .ok (.aload_n 2, 1) := by decide +kernel
theorem g995 : decode code 995 = .ok (.aload_n 0, 1) := by decide +kernel
theorem g996 : decode code 996 = .ok (.iload_n 3, 1) := by decide +kernel
theorem g997 : decode code 997 = .ok (.iconst 1, 1) := by decide +kernel
theorem g998 : decode code 998 = .ok (.iadd, 1) := by decide +kernel
theorem g999 : decode code 999 = .ok (.iaload, 1) := by decide +kernel
theorem g1000 : decode code 1000 = .ok (.aload_n 0, 1) := by decide +kernel
theorem g1001 : decode code 1001 = .ok (.iload_n 3, 1) := by decide +kernel
theorem g1002 : decode code 1002 = .ok (.iconst 2, 1) := by decide +kernel
theorem g1003 : decode code 1003 = .ok (.iadd, 1) := by decide +kernel
theorem g1004 : decode code 1004 = .ok (.iaload, 1) := by decide +kernel
theorem g1005 : decode code 1005 = .ok (.aload_n 0, 1) := by decide +kernel
theorem g1006 : decode code 1006 = .ok (.iload_n 3, 1) := by decide +kernel
theorem g1007 : decode code 1007 = .ok (.iconst 3, 1) := by decide +kernel
theorem g1008 : decode code 1008 = .ok (.iadd, 1) := by decide +kernel
theorem g1009 : decode code 1009 = .ok (.iaload, 1) := by decide +kernel
theorem g1010 : decode code 1010 = .ok (.invokevirtual 130, 3) := by decide +kernel
theorem g1013 : decode code 1013 = .ok (.if_icmp .eq 175, 3) := by decide +kernel
theorem g1016 : decode code 1016 = .ok (.iconst 0, 1) := by decide +kernel
theorem g1018 : decode code 1018 = .ok (.aload_n 1, 1) := by decide +kernel
theorem g1019 : decode code 1019 = .ok (.aload_n 0, 1) := by decide +kernel
theorem g1020 : decode code 1020 = .ok (.iload_n 3, 1) := by decide +kernel
theorem g1021 : decode code 1021 = .ok (.iconst 1, 1) := by decide +kernel
theorem g1022 : decode code 1022 = .ok (.iadd, 1) := by decide +kernel
theorem g1023 : decode code 1023 = .ok (.iaload, 1) := by decide +kernel
theorem g1024 : decode code 1024 = .ok (.aload_n 0, 1) := by decide +kernel
theorem g1025 : decode code 1025 = .ok (.iload_n 3, 1) := by decide +kernel
theorem g1026 : decode code 1026 = .ok (.iconst 2, 1) := by decide +kernel
theorem g1027 : decode code 1027 = .ok (.iadd, 1) := by decide +kernel
theorem g1028 : decode code 1028 = .ok (.iaload, 1) := by decide +kernel
theorem g1029 : decode code 1029 = .ok (.aload_n 0, 1) := by decide +kernel
theorem g1030 : decode code 1030 = .ok (.iload_n 3, 1) := by decide +kernel
theorem g1031 : decode code 1031 = .ok (.iconst 3, 1) := by decide +kernel
theorem g1032 : decode code 1032 = .ok (.iadd, 1) := by decide +kernel
theorem g1033 : decode code 1033 = .ok (.iaload, 1) := by decide +kernel
theorem g1034 : decode code 1034 = .ok (.i2l, 1) := by decide +kernel
theorem g1035 : decode code 1035 = .ok (.bipush 32, 2) := by decide +kernel
theorem g1037 : decode code 1037 = .ok (.lshl, 1) := by decide +kernel
theorem g1038 : decode code 1038 = .ok (.aload_n 0, 1) := by decide +kernel
theorem g1039 : decode code 1039 = .ok (.iload_n 3, 1) := by decide +kernel
theorem g1040 : decode code 1040 = .ok (.iconst 4, 1) := by decide +kernel
theorem g1041 : decode code 1041 = .ok (.iadd, 1) := by decide +kernel
theorem g1042 : decode code 1042 = .ok (.iaload, 1) := by decide +kernel
theorem g1043 : decode code 1043 = .ok (.i2l, 1) := by decide +kernel
theorem g1044 : decode code 1044 = .ok (.ldc2_w 131, 3) := by decide +kernel
theorem g1047 : decode code 1047 = .ok (.land, 1) := by decide +kernel
theorem g1048 : decode code 1048 = .ok (.lor, 1) := by decide +kernel
theorem g1049 : decode code 1049 = .ok (.invokevirtual 133, 3) := by decide +kernel
theorem g1052 : decode code 1052 = .ok (.aload_n 2, 1) := by decide +kernel
theorem g1053 : decode code 1053 = .ok (.aload_n 0, 1) := by decide +kernel
theorem g1054 : decode code 1054 = .ok (.iload_n 3, 1) := by decide +kernel
theorem g1055 : decode code 1055 = .ok (.iconst 1, 1) := by decide +kernel
theorem g1056 : decode code 1056 = .ok (.iadd, 1) := by decide +kernel
theorem g1057 : decode code 1057 = .ok (.iaload, 1) := by decide +kernel
theorem g1058 : decode code 1058 = .ok (.aload_n 0, 1) := by decide +kernel
theorem g1059 : decode code 1059 = .ok (.iload_n 3, 1) := by decide +kernel
theorem g1060 : decode code 1060 = .ok (.iconst 2, 1) := by decide +kernel
theorem g1061 : decode code 1061 = .ok (.iadd, 1) := by decide +kernel
theorem g1062 : decode code 1062 = .ok (.iaload, 1) := by decide +kernel
theorem g1063 : decode code 1063 = .ok (.aload_n 0, 1) := by decide +kernel
theorem g1064 : decode code 1064 = .ok (.iload_n 3, 1) := by decide +kernel
theorem g1065 : decode code 1065 = .ok (.iconst 3, 1) := by decide +kernel
theorem g1066 : decode code 1066 = .ok (.iadd, 1) := by decide +kernel
theorem g1067 : decode code 1067 = .ok (.iaload, 1) := by decide +kernel
theorem g1068 : decode code 1068 = .ok (.i2l, 1) := by decide +kernel
theorem g1069 : decode code 1069 = .ok (.bipush 32, 2) := by decide +kernel
theorem g1071 : decode code 1071 = .ok (.lshl, 1) := by decide +kernel
theorem g1072 : decode code 1072 = .ok (.aload_n 0, 1) := by decide +kernel
theorem g1073 : decode code 1073 = .ok (.iload_n 3, 1) := by decide +kernel
theorem g1074 : decode code 1074 = .ok (.iconst 4, 1) := by decide +kernel
theorem g1075 : decode code 1075 = .ok (.iadd, 1) := by decide +kernel
theorem g1076 : decode code 1076 = .ok (.iaload, 1) := by decide +kernel
theorem g1077 : decode code 1077 = .ok (.i2l, 1) := by decide +kernel
theorem g1078 : decode code 1078 = .ok (.ldc2_w 131, 3) := by decide +kernel
theorem g1081 : decode code 1081 = .ok (.land, 1) := by decide +kernel
theorem g1082 : decode code 1082 = .ok (.lor, 1) := by decide +kernel
theorem g1083 : decode code 1083 = .ok (.invokevirtual 137, 3) := by decide +kernel
theorem g1086 : decode code 1086 = .ok (.if_icmp .eq 102, 3) := by decide +kernel
theorem g1089 : decode code 1089 = .ok (.iconst 0, 1) := by decide +kernel
theorem g1091 : decode code 1091 = .ok (.aload_n 1, 1) := by decide +kernel
theorem g1092 : decode code 1092 = .ok (.aload_n 0, 1) := by decide +kernel
theorem g1093 : decode code 1093 = .ok (.iload_n 3, 1) := by decide +kernel
theorem g1094 : decode code 1094 = .ok (.iconst 1, 1) := by decide +kernel
theorem g1095 : decode code 1095 = .ok (.iadd, 1) := by decide +kernel
theorem g1096 : decode code 1096 = .ok (.iaload, 1) := by decide +kernel
theorem g1097 : decode code 1097 = .ok (.aload_n 0, 1) := by decide +kernel
theorem g1098 : decode code 1098 = .ok (.iload_n 3, 1) := by decide +kernel
theorem g1099 : decode code 1099 = .ok (.iconst 2, 1) := by decide +kernel
theorem g1100 : decode code 1100 = .ok (.iadd, 1) := by decide +kernel
theorem g1101 : decode code 1101 = .ok (.iaload, 1) := by decide +kernel
theorem g1102 : decode code 1102 = .ok (.invokevirtual 138, 3) := by decide +kernel
theorem g1105 : decode code 1105 = .ok (.aload_n 2, 1) := by decide +kernel
theorem g1106 : decode code 1106 = .ok (.aload_n 0, 1) := by decide +kernel
theorem g1107 : decode code 1107 = .ok (.iload_n 3, 1) := by decide +kernel
theorem g1108 : decode code 1108 = .ok (.iconst 1, 1) := by decide +kernel
theorem g1109 : decode code 1109 = .ok (.iadd, 1) := by decide +kernel
theorem g1110 : decode code 1110 = .ok (.iaload, 1) := by decide +kernel
theorem g1111 : decode code 1111 = .ok (.aload_n 0, 1) := by decide +kernel
theorem g1112 : decode code 1112 = .ok (.iload_n 3, 1) := by decide +kernel
theorem g1113 : decode code 1113 = .ok (.iconst 2, 1) := by decide +kernel
theorem g1114 : decode code 1114 = .ok (.iadd, 1) := by decide +kernel
theorem g1115 : decode code 1115 = .ok (.iaload, 1) := by decide +kernel
theorem g1116 : decode code 1116 = .ok (.invokevirtual 141, 3) := by decide +kernel
theorem g1119 : decode code 1119 = .ok (.lcmp, 1) := by decide +kernel
theorem g1120 : decode code 1120 = .ok (.ifCond .eq 68, 3) := by decide +kernel
theorem g1123 : decode code 1123 = .ok (.iconst 0, 1) := by decide +kernel
theorem g1125 : decode code 1125 = .ok (.aload_n 1, 1) := by decide +kernel
theorem g1126 : decode code 1126 = .ok (.aload_n 0, 1) := by decide +kernel
theorem g1127 : decode code 1127 = .ok (.iload_n 3, 1) := by decide +kernel
theorem g1128 : decode code 1128 = .ok (.iconst 1, 1) := by decide +kernel
theorem g1129 : decode code 1129 = .ok (.iadd, 1) := by decide +kernel
theorem g1130 : decode code 1130 = .ok (.iaload, 1) := by decide +kernel
theorem g1131 : decode code 1131 = .ok (.aload_n 0, 1) := by decide +kernel
theorem g1132 : decode code 1132 = .ok (.iload_n 3, 1) := by decide +kernel
theorem g1133 : decode code 1133 = .ok (.iconst 2, 1) := by decide +kernel
theorem g1134 : decode code 1134 = .ok (.iadd, 1) := by decide +kernel
theorem g1135 : decode code 1135 = .ok (.iaload, 1) := by decide +kernel
theorem g1136 : decode code 1136 = .ok (.aload_n 0, 1) := by decide +kernel
theorem g1137 : decode code 1137 = .ok (.iload_n 3, 1) := by decide +kernel
theorem g1138 : decode code 1138 = .ok (.iconst 3, 1) := by decide +kernel
theorem g1139 : decode code 1139 = .ok (.iadd, 1) := by decide +kernel
theorem g1140 : decode code 1140 = .ok (.iaload, 1) := by decide +kernel
theorem g1141 : decode code 1141 = .ok (.aload_n 0, 1) := by decide +kernel
theorem g1142 : decode code 1142 = .ok (.iload_n 3, 1) := by decide +kernel
theorem g1143 : decode code 1143 = .ok (.iconst 4, 1) := by decide +kernel
theorem g1144 : decode code 1144 = .ok (.iadd, 1) := by decide +kernel
theorem g1145 : decode code 1145 = .ok (.iaload, 1) := by decide +kernel
theorem g1146 : decode code 1146 = .ok (.aload_n 0, 1) := by decide +kernel
theorem g1147 : decode code 1147 = .ok (.iload_n 3, 1) := by decide +kernel
theorem g1148 : decode code 1148 = .ok (.iconst 5, 1) := by decide +kernel
theorem g1149 : decode code 1149 = .ok (.iadd, 1) := by decide +kernel
theorem g1150 : decode code 1150 = .ok (.iaload, 1) := by decide +kernel
theorem g1151 : decode code 1151 = .ok (.invokevirtual 142, 3) := by decide +kernel
theorem g1154 : decode code 1154 = .ok (.aload_n 2, 1) := by decide +kernel
theorem g1155 : decode code 1155 = .ok (.aload_n 0, 1) := by decide +kernel
theorem g1156 : decode code 1156 = .ok (.iload_n 3, 1) := by decide +kernel
theorem g1157 : decode code 1157 = .ok (.iconst 1, 1) := by decide +kernel
theorem g1158 : decode code 1158 = .ok (.iadd, 1) := by decide +kernel
theorem g1159 : decode code 1159 = .ok (.iaload, 1) := by decide +kernel
theorem g1160 : decode code 1160 = .ok (.aload_n 0, 1) := by decide +kernel
theorem g1161 : decode code 1161 = .ok (.iload_n 3, 1) := by decide +kernel
theorem g1162 : decode code 1162 = .ok (.iconst 2, 1) := by decide +kernel
theorem g1163 : decode code 1163 = .ok (.iadd, 1) := by decide +kernel
theorem g1164 : decode code 1164 = .ok (.iaload, 1) := by decide +kernel
theorem g1165 : decode code 1165 = .ok (.aload_n 0, 1) := by decide +kernel
theorem g1166 : decode code 1166 = .ok (.iload_n 3, 1) := by decide +kernel
theorem g1167 : decode code 1167 = .ok (.iconst 3, 1) := by decide +kernel
theorem g1168 : decode code 1168 = .ok (.iadd, 1) := by decide +kernel
theorem g1169 : decode code 1169 = .ok (.iaload, 1) := by decide +kernel
theorem g1170 : decode code 1170 = .ok (.aload_n 0, 1) := by decide +kernel
theorem g1171 : decode code 1171 = .ok (.iload_n 3, 1) := by decide +kernel
theorem g1172 : decode code 1172 = .ok (.iconst 4, 1) := by decide +kernel
theorem g1173 : decode code 1173 = .ok (.iadd, 1) := by decide +kernel
theorem g1174 : decode code 1174 = .ok (.iaload, 1) := by decide +kernel
theorem g1175 : decode code 1175 = .ok (.aload_n 0, 1) := by decide +kernel
theorem g1176 : decode code 1176 = .ok (.iload_n 3, 1) := by decide +kernel
theorem g1177 : decode code 1177 = .ok (.iconst 5, 1) := by decide +kernel
theorem g1178 : decode code 1178 = .ok (.iadd, 1) := by decide +kernel
theorem g1179 : decode code 1179 = .ok (.iaload, 1) := by decide +kernel
theorem g1180 : decode code 1180 = .ok (.invokevirtual 146, 3) := by decide +kernel
theorem g1183 : decode code 1183 = .ok (.if_icmp .eq 5, 3) := by decide +kernel
theorem g1186 : decode code 1186 = .ok (.iconst 0, 1) := by decide +kernel
theorem g1188 : decode code 1188 = .ok (.iinc 3 6, 3) := by decide +kernel
theorem g1191 : decode code 1191 = .ok (.goto (-1173), 3) := by decide +kernel
theorem g1194 : decode code 1194 = .ok (.iconst 1, 1) := by decide +kernel
theorem g1195 : decode code 1195 = .ok (.ireturn, 1) := by decide +kernel
section LWL
variable {zl : Nat} {nl : Option Nat} {xs : Nat → Int} {h h1 : Hp} {i : Nat} {Q : Option AV → Hp → Prop}
theorem ysS (w : yWF zl nl h) : zS h 0 = (1, zl) := congrFun w.1 0
theorem lo_S (f : Lo h h1) (w : yWF zl nl h) : zS h1 0 = (1, zl) := (f.2.1 0 (by omega)).trans (ysS w)
theorem lo_V (f : Lo h h1) (e : ∀ k, zV h 0 k = xs k) : ∀ k, zV h1 0 k = xs k := fun k => (f.2.2 0 k (by decide)).trans (e k)
theorem lo_M (f : Lo h h1) (w : yWF zl nl h) : zS h1 137 = (18, 49) := (f.2.1 137 (by have := w.2.2.2.1; omega)).trans (ys137 w)
theorem lg_cc (t : Int64) : zcond .eq (lg_cmp t t).toInt 0 = true := by
  unfold lg_cmp zcond
  simp
theorem lw_ld {d pc p5 k : Nat} {st : List AV} (hS : zS h 0 = (1, zl)) (hV : ∀ k, zV h 0 k = xs k) (hi : i + 6 ≤ zl) (hzl : zl ≤ 3072) (hk : k < 6) (e0 : decode code pc = .ok (.aload_n 0, 1)) (e1 : decode code (pc + 1) = .ok (.iload_n 3, 1)) (e2 : decode code (pc + 2) = .ok (.iconst (k : Int), 1)) (e3 : decode code (pc + 3) = .ok (.iadd, 1)) (e4 : decode code (pc + 4) = .ok (.iaload, 1)) (hp : pc + 4 + 1 = p5) (w : ZW d code 9 p5 [some (vR (some 0)), some (vR (some 32)), some (vR (some 137)), some (vI (i : Int))] (vI (xs (i + k)) :: st) h Q) : ZW d code 9 pc [some (vR (some 0)), some (vR (some 32)), some (vR (some 137)), some (vI (i : Int))] st h Q := by
  refine y_s (pc' := pc + 1) (L' := [some (vR (some 0)), some (vR (some 32)), some (vR (some 137)), some (vI (i : Int))]) (st' := vR (some 0) :: st) (h' := h) e0 rfl ?_
  refine y_s (pc' := pc + 2) (L' := [some (vR (some 0)), some (vR (some 32)), some (vR (some 137)), some (vI (i : Int))]) (st' := vI (i : Int) :: vR (some 0) :: st) (h' := h) e1 rfl ?_
  refine y_s (pc' := pc + 3) (L' := [some (vR (some 0)), some (vR (some 32)), some (vR (some 137)), some (vI (i : Int))]) (st' := vI (zw (k : Int)) :: vI (i : Int) :: vR (some 0) :: st) (h' := h) e2 rfl ?_
  refine y_s (pc' := pc + 4) (L' := [some (vR (some 0)), some (vR (some 32)), some (vR (some 137)), some (vI (i : Int))]) (st' := vI (zw ((i : Int) + zw (k : Int))) :: vR (some 0) :: st) (h' := h) e3 rfl ?_
  have e : zw ((i : Int) + zw (k : Int)) = ((i + k : Nat) : Int) := by rw [zwi (x := (k : Int)) (by omega), zwi (by omega)]; omega
  rw [e]
  exact y_ia (pc' := p5) (x := xs (i + k)) e4 hS (by omega) (by rw [show (((i + k : Nat) : Int)).toNat = i + k by omega]; exact hV _) hp w
theorem lw_c0 (I : Inv zl nl xs h) (hz : ∀ j, zr (xs j)) (hi : i + 6 ≤ zl) (hzl : zl ≤ 3072) (k : ∀ h2, Inv zl nl xs h2 → ZW 40 code 9 1188 [some (vR (some 0)), some (vR (some 32)), some (vR (some 137)), some (vI (i : Int))] [] h2 Q) : ZW 40 code 9 172 [some (vR (some 0)), some (vR (some 32)), some (vR (some 137)), some (vI (i : Int))] [] h Q := by
  refine y_s (pc' := 173) (L' := [some (vR (some 0)), some (vR (some 32)), some (vR (some 137)), some (vI (i : Int))]) (st' := [vR (some 32)]) (h' := h) g172 rfl ?_
  refine lw_ld (k := 1) (ysS I.w) I.xss hi hzl (by decide) g173 g174 g175 g176 g177 rfl ?_
  refine lw_ld (k := 2) (ysS I.w) I.xss hi hzl (by decide) g178 g179 g180 g181 g182 rfl ?_
  refine y_cI (pc' := 186) (as := [vR (some 32), vI (xs (i + 1)), vI (xs (i + 2))]) (r := []) g183 (yzv (rfl : zmth 9 13 = some (0, 9)) rfl (ys32 I.w) rfl rfl) (by decide) rfl ?_
  refine yI.mono (yI.lo (ap9 I (by decide))) fun t h1 k1 => ?_
  obtain ⟨k1, lo⟩ := k1
  refine y_s (pc' := 187) (L' := [some (vR (some 0)), some (vR (some 32)), some (vR (some 137)), some (vI (i : Int))]) (st' := [vR (some 137), vI t]) (h' := h1) g186 rfl ?_
  refine lw_ld (k := 1) (lo_S lo I.w) (lo_V lo I.xss) hi hzl (by decide) g187 g188 g189 g190 g191 rfl ?_
  refine lw_ld (k := 2) (lo_S lo I.w) (lo_V lo I.xss) hi hzl (by decide) g192 g193 g194 g195 g196 rfl ?_
  refine y_cI (pc' := 200) (as := [vR (some 137), vI (xs (i + 1)), vI (xs (i + 2))]) (r := [vI t]) g197 (yzv (rfl : zmth 9 17 = some (0, 128)) rfl (lo_M lo I.w) rfl rfl) (by decide) rfl ?_
  refine yI.mono k1 fun u h2 k2 => ?_
  obtain ⟨rfl, I2⟩ := k2
  refine y_ic (pcT := 1188) (pc' := 203) (P := t = t) g200 rfl rfl rfl (fun _ => k h2 I2) (fun c => absurd rfl c)
theorem lw_c1 (I : Inv zl nl xs h) (hz : ∀ j, zr (xs j)) (hi : i + 6 ≤ zl) (hzl : zl ≤ 3072) (k : ∀ h2, Inv zl nl xs h2 → ZW 40 code 9 1188 [some (vR (some 0)), some (vR (some 32)), some (vR (some 137)), some (vI (i : Int))] [] h2 Q) : ZW 40 code 9 205 [some (vR (some 0)), some (vR (some 32)), some (vR (some 137)), some (vI (i : Int))] [] h Q := by
  refine y_s (pc' := 206) (L' := [some (vR (some 0)), some (vR (some 32)), some (vR (some 137)), some (vI (i : Int))]) (st' := [vR (some 32)]) (h' := h) g205 rfl ?_
  refine lw_ld (k := 1) (ysS I.w) I.xss hi hzl (by decide) g206 g207 g208 g209 g210 rfl ?_
  refine lw_ld (k := 2) (ysS I.w) I.xss hi hzl (by decide) g211 g212 g213 g214 g215 rfl ?_
  refine y_cI (pc' := 219) (as := [vR (some 32), vI (xs (i + 1)), vI (xs (i + 2))]) (r := []) g216 (yzv (rfl : zmth 9 18 = some (0, 14)) rfl (ys32 I.w) rfl rfl) (by decide) rfl ?_
  refine yI.mono (yI.lo (ap14 I (by decide) (hz _))) fun t h1 k1 => ?_
  obtain ⟨k1, lo⟩ := k1
  refine y_s (pc' := 220) (L' := [some (vR (some 0)), some (vR (some 32)), some (vR (some 137)), some (vI (i : Int))]) (st' := [vR (some 137), vI t]) (h' := h1) g219 rfl ?_
  refine lw_ld (k := 1) (lo_S lo I.w) (lo_V lo I.xss) hi hzl (by decide) g220 g221 g222 g223 g224 rfl ?_
  refine lw_ld (k := 2) (lo_S lo I.w) (lo_V lo I.xss) hi hzl (by decide) g225 g226 g227 g228 g229 rfl ?_
  refine y_cI (pc' := 233) (as := [vR (some 137), vI (xs (i + 1)), vI (xs (i + 2))]) (r := [vI t]) g230 (yzv (rfl : zmth 9 21 = some (0, 130)) rfl (lo_M lo I.w) rfl rfl) (by decide) rfl ?_
  refine yI.mono k1 fun u h2 k2 => ?_
  obtain ⟨rfl, I2⟩ := k2
  refine y_ic (pcT := 1188) (pc' := 236) (P := t = t) g233 rfl rfl rfl (fun _ => k h2 I2) (fun c => absurd rfl c)
theorem lw_c2 (I : Inv zl nl xs h) (hz : ∀ j, zr (xs j)) (hi : i + 6 ≤ zl) (hzl : zl ≤ 3072) (k : ∀ h2, Inv zl nl xs h2 → ZW 40 code 9 1188 [some (vR (some 0)), some (vR (some 32)), some (vR (some 137)), some (vI (i : Int))] [] h2 Q) : ZW 40 code 9 238 [some (vR (some 0)), some (vR (some 32)), some (vR (some 137)), some (vI (i : Int))] [] h Q := by
  refine y_s (pc' := 239) (L' := [some (vR (some 0)), some (vR (some 32)), some (vR (some 137)), some (vI (i : Int))]) (st' := [vR (some 32)]) (h' := h) g238 rfl ?_
  refine lw_ld (k := 1) (ysS I.w) I.xss hi hzl (by decide) g239 g240 g241 g242 g243 rfl ?_
  refine lw_ld (k := 2) (ysS I.w) I.xss hi hzl (by decide) g244 g245 g246 g247 g248 rfl ?_
  refine lw_ld (k := 3) (ysS I.w) I.xss hi hzl (by decide) g249 g250 g251 g252 g253 rfl ?_
  refine y_cI (pc' := 257) (as := [vR (some 32), vI (xs (i + 1)), vI (xs (i + 2)), vI (xs (i + 3))]) (r := []) g254 (yzv (rfl : zmth 9 22 = some (0, 37)) rfl (ys32 I.w) rfl rfl) (by decide) rfl ?_
  refine yI.mono (yI.lo (ap37 I (by decide))) fun t h1 k1 => ?_
  obtain ⟨k1, lo⟩ := k1
  refine y_s (pc' := 258) (L' := [some (vR (some 0)), some (vR (some 32)), some (vR (some 137)), some (vI (i : Int))]) (st' := [vR (some 137), vI t]) (h' := h1) g257 rfl ?_
  refine lw_ld (k := 1) (lo_S lo I.w) (lo_V lo I.xss) hi hzl (by decide) g258 g259 g260 g261 g262 rfl ?_
  refine lw_ld (k := 2) (lo_S lo I.w) (lo_V lo I.xss) hi hzl (by decide) g263 g264 g265 g266 g267 rfl ?_
  refine lw_ld (k := 3) (lo_S lo I.w) (lo_V lo I.xss) hi hzl (by decide) g268 g269 g270 g271 g272 rfl ?_
  refine y_cI (pc' := 276) (as := [vR (some 137), vI (xs (i + 1)), vI (xs (i + 2)), vI (xs (i + 3))]) (r := [vI t]) g273 (yzv (rfl : zmth 9 26 = some (0, 150)) rfl (lo_M lo I.w) rfl rfl) (by decide) rfl ?_
  refine yI.mono k1 fun u h2 k2 => ?_
  obtain ⟨rfl, I2⟩ := k2
  refine y_ic (pcT := 1188) (pc' := 279) (P := t = t) g276 rfl rfl rfl (fun _ => k h2 I2) (fun c => absurd rfl c)
theorem lw_c3 (I : Inv zl nl xs h) (hz : ∀ j, zr (xs j)) (hi : i + 6 ≤ zl) (hzl : zl ≤ 3072) (k : ∀ h2, Inv zl nl xs h2 → ZW 40 code 9 1188 [some (vR (some 0)), some (vR (some 32)), some (vR (some 137)), some (vI (i : Int))] [] h2 Q) : ZW 40 code 9 281 [some (vR (some 0)), some (vR (some 32)), some (vR (some 137)), some (vI (i : Int))] [] h Q := by
  refine y_s (pc' := 282) (L' := [some (vR (some 0)), some (vR (some 32)), some (vR (some 137)), some (vI (i : Int))]) (st' := [vR (some 32)]) (h' := h) g281 rfl ?_
  refine lw_ld (k := 1) (ysS I.w) I.xss hi hzl (by decide) g282 g283 g284 g285 g286 rfl ?_
  refine y_cI (pc' := 290) (as := [vR (some 32), vI (xs (i + 1))]) (r := []) g287 (yzv (rfl : zmth 9 27 = some (0, 38)) rfl (ys32 I.w) rfl rfl) (by decide) rfl ?_
  refine yI.mono (yI.lo (ap38 I (by decide))) fun t h1 k1 => ?_
  obtain ⟨k1, lo⟩ := k1
  refine y_s (pc' := 291) (L' := [some (vR (some 0)), some (vR (some 32)), some (vR (some 137)), some (vI (i : Int))]) (st' := [vR (some 137), vI t]) (h' := h1) g290 rfl ?_
  refine lw_ld (k := 1) (lo_S lo I.w) (lo_V lo I.xss) hi hzl (by decide) g291 g292 g293 g294 g295 rfl ?_
  refine y_cI (pc' := 299) (as := [vR (some 137), vI (xs (i + 1))]) (r := [vI t]) g296 (yzv (rfl : zmth 9 31 = some (0, 152)) rfl (lo_M lo I.w) rfl rfl) (by decide) rfl ?_
  refine yI.mono k1 fun u h2 k2 => ?_
  obtain ⟨rfl, I2⟩ := k2
  refine y_ic (pcT := 1188) (pc' := 302) (P := t = t) g299 rfl rfl rfl (fun _ => k h2 I2) (fun c => absurd rfl c)
theorem lw_c4 (I : Inv zl nl xs h) (hz : ∀ j, zr (xs j)) (hi : i + 6 ≤ zl) (hzl : zl ≤ 3072) (k : ∀ h2, Inv zl nl xs h2 → ZW 40 code 9 1188 [some (vR (some 0)), some (vR (some 32)), some (vR (some 137)), some (vI (i : Int))] [] h2 Q) : ZW 40 code 9 304 [some (vR (some 0)), some (vR (some 32)), some (vR (some 137)), some (vI (i : Int))] [] h Q := by
  refine y_s (pc' := 305) (L' := [some (vR (some 0)), some (vR (some 32)), some (vR (some 137)), some (vI (i : Int))]) (st' := [vR (some 32)]) (h' := h) g304 rfl ?_
  refine lw_ld (k := 1) (ysS I.w) I.xss hi hzl (by decide) g305 g306 g307 g308 g309 rfl ?_
  refine lw_ld (k := 2) (ysS I.w) I.xss hi hzl (by decide) g310 g311 g312 g313 g314 rfl ?_
  refine lw_ld (k := 3) (ysS I.w) I.xss hi hzl (by decide) g315 g316 g317 g318 g319 rfl ?_
  refine y_cI (pc' := 323) (as := [vR (some 32), vI (xs (i + 1)), vI (xs (i + 2)), vI (xs (i + 3))]) (r := []) g320 (yzv (rfl : zmth 9 32 = some (0, 42)) rfl (ys32 I.w) rfl rfl) (by decide) rfl ?_
  refine yI.mono (yI.lo (ap42 I (by decide))) fun t h1 k1 => ?_
  obtain ⟨k1, lo⟩ := k1
  refine y_s (pc' := 324) (L' := [some (vR (some 0)), some (vR (some 32)), some (vR (some 137)), some (vI (i : Int))]) (st' := [vR (some 137), vI t]) (h' := h1) g323 rfl ?_
  refine lw_ld (k := 1) (lo_S lo I.w) (lo_V lo I.xss) hi hzl (by decide) g324 g325 g326 g327 g328 rfl ?_
  refine lw_ld (k := 2) (lo_S lo I.w) (lo_V lo I.xss) hi hzl (by decide) g329 g330 g331 g332 g333 rfl ?_
  refine lw_ld (k := 3) (lo_S lo I.w) (lo_V lo I.xss) hi hzl (by decide) g334 g335 g336 g337 g338 rfl ?_
  refine y_cI (pc' := 342) (as := [vR (some 137), vI (xs (i + 1)), vI (xs (i + 2)), vI (xs (i + 3))]) (r := [vI t]) g339 (yzv (rfl : zmth 9 35 = some (0, 153)) rfl (lo_M lo I.w) rfl rfl) (by decide) rfl ?_
  refine yI.mono k1 fun u h2 k2 => ?_
  obtain ⟨rfl, I2⟩ := k2
  refine y_ic (pcT := 1188) (pc' := 345) (P := t = t) g342 rfl rfl rfl (fun _ => k h2 I2) (fun c => absurd rfl c)
theorem lw_c5 (I : Inv zl nl xs h) (hz : ∀ j, zr (xs j)) (hi : i + 6 ≤ zl) (hzl : zl ≤ 3072) (k : ∀ h2, Inv zl nl xs h2 → ZW 40 code 9 1188 [some (vR (some 0)), some (vR (some 32)), some (vR (some 137)), some (vI (i : Int))] [] h2 Q) : ZW 40 code 9 347 [some (vR (some 0)), some (vR (some 32)), some (vR (some 137)), some (vI (i : Int))] [] h Q := by
  refine y_s (pc' := 348) (L' := [some (vR (some 0)), some (vR (some 32)), some (vR (some 137)), some (vI (i : Int))]) (st' := [vR (some 32)]) (h' := h) g347 rfl ?_
  refine lw_ld (k := 1) (ysS I.w) I.xss hi hzl (by decide) g348 g349 g350 g351 g352 rfl ?_
  refine y_cI (pc' := 356) (as := [vR (some 32), vI (xs (i + 1))]) (r := []) g353 (yzv (rfl : zmth 9 36 = some (0, 43)) rfl (ys32 I.w) rfl rfl) (by decide) rfl ?_
  refine yI.mono (yI.lo (ap43 I (by decide))) fun t h1 k1 => ?_
  obtain ⟨k1, lo⟩ := k1
  refine y_s (pc' := 357) (L' := [some (vR (some 0)), some (vR (some 32)), some (vR (some 137)), some (vI (i : Int))]) (st' := [vR (some 137), vI t]) (h' := h1) g356 rfl ?_
  refine lw_ld (k := 1) (lo_S lo I.w) (lo_V lo I.xss) hi hzl (by decide) g357 g358 g359 g360 g361 rfl ?_
  refine y_cI (pc' := 365) (as := [vR (some 137), vI (xs (i + 1))]) (r := [vI t]) g362 (yzv (rfl : zmth 9 39 = some (0, 154)) rfl (lo_M lo I.w) rfl rfl) (by decide) rfl ?_
  refine yI.mono k1 fun u h2 k2 => ?_
  obtain ⟨rfl, I2⟩ := k2
  refine y_ic (pcT := 1188) (pc' := 368) (P := t = t) g365 rfl rfl rfl (fun _ => k h2 I2) (fun c => absurd rfl c)
theorem lw_c6 (I : Inv zl nl xs h) (hz : ∀ j, zr (xs j)) (hi : i + 6 ≤ zl) (hzl : zl ≤ 3072) (k : ∀ h2, Inv zl nl xs h2 → ZW 40 code 9 1188 [some (vR (some 0)), some (vR (some 32)), some (vR (some 137)), some (vI (i : Int))] [] h2 Q) : ZW 40 code 9 370 [some (vR (some 0)), some (vR (some 32)), some (vR (some 137)), some (vI (i : Int))] [] h Q := by
  refine y_s (pc' := 371) (L' := [some (vR (some 0)), some (vR (some 32)), some (vR (some 137)), some (vI (i : Int))]) (st' := [vR (some 32)]) (h' := h) g370 rfl ?_
  refine y_cI (pc' := 374) (as := [vR (some 32)]) (r := []) g371 (yzv (rfl : zmth 9 40 = some (0, 46)) rfl (ys32 I.w) rfl rfl) (by decide) rfl ?_
  refine yI.mono (yI.lo (ap46 I (by decide))) fun t h1 k1 => ?_
  obtain ⟨k1, lo⟩ := k1
  refine y_s (pc' := 375) (L' := [some (vR (some 0)), some (vR (some 32)), some (vR (some 137)), some (vI (i : Int))]) (st' := [vR (some 137), vI t]) (h' := h1) g374 rfl ?_
  refine y_cI (pc' := 378) (as := [vR (some 137)]) (r := [vI t]) g375 (yzv (rfl : zmth 9 44 = some (0, 155)) rfl (lo_M lo I.w) rfl rfl) (by decide) rfl ?_
  refine yI.mono k1 fun u h2 k2 => ?_
  obtain ⟨rfl, I2⟩ := k2
  refine y_ic (pcT := 1188) (pc' := 381) (P := t = t) g378 rfl rfl rfl (fun _ => k h2 I2) (fun c => absurd rfl c)
theorem lw_c7 (I : Inv zl nl xs h) (hz : ∀ j, zr (xs j)) (hi : i + 6 ≤ zl) (hzl : zl ≤ 3072) (k : ∀ h2, Inv zl nl xs h2 → ZW 40 code 9 1188 [some (vR (some 0)), some (vR (some 32)), some (vR (some 137)), some (vI (i : Int))] [] h2 Q) : ZW 40 code 9 383 [some (vR (some 0)), some (vR (some 32)), some (vR (some 137)), some (vI (i : Int))] [] h Q := by
  refine y_s (pc' := 384) (L' := [some (vR (some 0)), some (vR (some 32)), some (vR (some 137)), some (vI (i : Int))]) (st' := [vR (some 32)]) (h' := h) g383 rfl ?_
  refine lw_ld (k := 1) (ysS I.w) I.xss hi hzl (by decide) g384 g385 g386 g387 g388 rfl ?_
  refine y_cI (pc' := 392) (as := [vR (some 32), vI (xs (i + 1))]) (r := []) g389 (yzv (rfl : zmth 9 45 = some (0, 75)) rfl (ys32 I.w) rfl rfl) (by decide) rfl ?_
  refine yI.mono (yI.lo (ap75 I (by decide) (hz _))) fun t h1 k1 => ?_
  obtain ⟨k1, lo⟩ := k1
  refine y_s (pc' := 393) (L' := [some (vR (some 0)), some (vR (some 32)), some (vR (some 137)), some (vI (i : Int))]) (st' := [vR (some 137), vI t]) (h' := h1) g392 rfl ?_
  refine lw_ld (k := 1) (lo_S lo I.w) (lo_V lo I.xss) hi hzl (by decide) g393 g394 g395 g396 g397 rfl ?_
  refine y_cI (pc' := 401) (as := [vR (some 137), vI (xs (i + 1))]) (r := [vI t]) g398 (yzv (rfl : zmth 9 48 = some (0, 183)) rfl (lo_M lo I.w) rfl rfl) (by decide) rfl ?_
  refine yI.mono k1 fun u h2 k2 => ?_
  obtain ⟨rfl, I2⟩ := k2
  refine y_ic (pcT := 1188) (pc' := 404) (P := t = t) g401 rfl rfl rfl (fun _ => k h2 I2) (fun c => absurd rfl c)
theorem lw_c8 (I : Inv zl nl xs h) (hz : ∀ j, zr (xs j)) (hi : i + 6 ≤ zl) (hzl : zl ≤ 3072) (k : ∀ h2, Inv zl nl xs h2 → ZW 40 code 9 1188 [some (vR (some 0)), some (vR (some 32)), some (vR (some 137)), some (vI (i : Int))] [] h2 Q) : ZW 40 code 9 406 [some (vR (some 0)), some (vR (some 32)), some (vR (some 137)), some (vI (i : Int))] [] h Q := by
  refine y_s (pc' := 407) (L' := [some (vR (some 0)), some (vR (some 32)), some (vR (some 137)), some (vI (i : Int))]) (st' := [vR (some 32)]) (h' := h) g406 rfl ?_
  refine lw_ld (k := 1) (ysS I.w) I.xss hi hzl (by decide) g407 g408 g409 g410 g411 rfl ?_
  refine y_cI (pc' := 415) (as := [vR (some 32), vI (xs (i + 1))]) (r := []) g412 (yzv (rfl : zmth 9 49 = some (0, 78)) rfl (ys32 I.w) rfl rfl) (by decide) rfl ?_
  refine yI.mono (yI.lo (ap78 I (by decide))) fun t h1 k1 => ?_
  obtain ⟨k1, lo⟩ := k1
  refine y_s (pc' := 416) (L' := [some (vR (some 0)), some (vR (some 32)), some (vR (some 137)), some (vI (i : Int))]) (st' := [vR (some 137), vI t]) (h' := h1) g415 rfl ?_
  refine lw_ld (k := 1) (lo_S lo I.w) (lo_V lo I.xss) hi hzl (by decide) g416 g417 g418 g419 g420 rfl ?_
  refine y_cI (pc' := 424) (as := [vR (some 137), vI (xs (i + 1))]) (r := [vI t]) g421 (yzv (rfl : zmth 9 52 = some (0, 186)) rfl (lo_M lo I.w) rfl rfl) (by decide) rfl ?_
  refine yI.mono k1 fun u h2 k2 => ?_
  obtain ⟨rfl, I2⟩ := k2
  refine y_ic (pcT := 1188) (pc' := 427) (P := t = t) g424 rfl rfl rfl (fun _ => k h2 I2) (fun c => absurd rfl c)
theorem lw_c9 (I : Inv zl nl xs h) (hz : ∀ j, zr (xs j)) (hi : i + 6 ≤ zl) (hzl : zl ≤ 3072) (k : ∀ h2, Inv zl nl xs h2 → ZW 40 code 9 1188 [some (vR (some 0)), some (vR (some 32)), some (vR (some 137)), some (vI (i : Int))] [] h2 Q) : ZW 40 code 9 429 [some (vR (some 0)), some (vR (some 32)), some (vR (some 137)), some (vI (i : Int))] [] h Q := by
  refine y_s (pc' := 430) (L' := [some (vR (some 0)), some (vR (some 32)), some (vR (some 137)), some (vI (i : Int))]) (st' := [vR (some 32)]) (h' := h) g429 rfl ?_
  refine lw_ld (k := 1) (ysS I.w) I.xss hi hzl (by decide) g430 g431 g432 g433 g434 rfl ?_
  refine lw_ld (k := 2) (ysS I.w) I.xss hi hzl (by decide) g435 g436 g437 g438 g439 rfl ?_
  refine lw_ld (k := 3) (ysS I.w) I.xss hi hzl (by decide) g440 g441 g442 g443 g444 rfl ?_
  refine y_cI (pc' := 448) (as := [vR (some 32), vI (xs (i + 1)), vI (xs (i + 2)), vI (xs (i + 3))]) (r := []) g445 (yzv (rfl : zmth 9 53 = some (0, 80)) rfl (ys32 I.w) rfl rfl) (by decide) rfl ?_
  refine yI.mono (yI.lo (ap80 I (by decide) (hz _))) fun t h1 k1 => ?_
  obtain ⟨k1, lo⟩ := k1
  refine y_s (pc' := 449) (L' := [some (vR (some 0)), some (vR (some 32)), some (vR (some 137)), some (vI (i : Int))]) (st' := [vR (some 137), vI t]) (h' := h1) g448 rfl ?_
  refine lw_ld (k := 1) (lo_S lo I.w) (lo_V lo I.xss) hi hzl (by decide) g449 g450 g451 g452 g453 rfl ?_
  refine lw_ld (k := 2) (lo_S lo I.w) (lo_V lo I.xss) hi hzl (by decide) g454 g455 g456 g457 g458 rfl ?_
  refine lw_ld (k := 3) (lo_S lo I.w) (lo_V lo I.xss) hi hzl (by decide) g459 g460 g461 g462 g463 rfl ?_
  refine y_cI (pc' := 467) (as := [vR (some 137), vI (xs (i + 1)), vI (xs (i + 2)), vI (xs (i + 3))]) (r := [vI t]) g464 (yzv (rfl : zmth 9 56 = some (0, 140)) rfl (lo_M lo I.w) rfl rfl) (by decide) rfl ?_
  refine yI.mono k1 fun u h2 k2 => ?_
  obtain ⟨rfl, I2⟩ := k2
  refine y_ic (pcT := 1188) (pc' := 470) (P := t = t) g467 rfl rfl rfl (fun _ => k h2 I2) (fun c => absurd rfl c)
theorem lw_c10 (I : Inv zl nl xs h) (hz : ∀ j, zr (xs j)) (hi : i + 6 ≤ zl) (hzl : zl ≤ 3072) (k : ∀ h2, Inv zl nl xs h2 → ZW 40 code 9 1188 [some (vR (some 0)), some (vR (some 32)), some (vR (some 137)), some (vI (i : Int))] [] h2 Q) : ZW 40 code 9 472 [some (vR (some 0)), some (vR (some 32)), some (vR (some 137)), some (vI (i : Int))] [] h Q := by
  refine y_s (pc' := 473) (L' := [some (vR (some 0)), some (vR (some 32)), some (vR (some 137)), some (vI (i : Int))]) (st' := [vR (some 32)]) (h' := h) g472 rfl ?_
  refine lw_ld (k := 1) (ysS I.w) I.xss hi hzl (by decide) g473 g474 g475 g476 g477 rfl ?_
  refine lw_ld (k := 2) (ysS I.w) I.xss hi hzl (by decide) g478 g479 g480 g481 g482 rfl ?_
  refine y_cI (pc' := 486) (as := [vR (some 32), vI (xs (i + 1)), vI (xs (i + 2))]) (r := []) g483 (yzv (rfl : zmth 9 57 = some (0, 81)) rfl (ys32 I.w) rfl rfl) (by decide) rfl ?_
  refine yI.mono (yI.lo (ap81 I (by decide))) fun t h1 k1 => ?_
  obtain ⟨k1, lo⟩ := k1
  refine y_s (pc' := 487) (L' := [some (vR (some 0)), some (vR (some 32)), some (vR (some 137)), some (vI (i : Int))]) (st' := [vR (some 137), vI t]) (h' := h1) g486 rfl ?_
  refine lw_ld (k := 1) (lo_S lo I.w) (lo_V lo I.xss) hi hzl (by decide) g487 g488 g489 g490 g491 rfl ?_
  refine lw_ld (k := 2) (lo_S lo I.w) (lo_V lo I.xss) hi hzl (by decide) g492 g493 g494 g495 g496 rfl ?_
  refine y_cI (pc' := 500) (as := [vR (some 137), vI (xs (i + 1)), vI (xs (i + 2))]) (r := [vI t]) g497 (yzv (rfl : zmth 9 60 = some (0, 187)) rfl (lo_M lo I.w) rfl rfl) (by decide) rfl ?_
  refine yI.mono k1 fun u h2 k2 => ?_
  obtain ⟨rfl, I2⟩ := k2
  refine y_ic (pcT := 1188) (pc' := 503) (P := t = t) g500 rfl rfl rfl (fun _ => k h2 I2) (fun c => absurd rfl c)
theorem lw_c11 (I : Inv zl nl xs h) (hz : ∀ j, zr (xs j)) (hi : i + 6 ≤ zl) (hzl : zl ≤ 3072) (k : ∀ h2, Inv zl nl xs h2 → ZW 40 code 9 1188 [some (vR (some 0)), some (vR (some 32)), some (vR (some 137)), some (vI (i : Int))] [] h2 Q) : ZW 40 code 9 505 [some (vR (some 0)), some (vR (some 32)), some (vR (some 137)), some (vI (i : Int))] [] h Q := by
  refine y_s (pc' := 506) (L' := [some (vR (some 0)), some (vR (some 32)), some (vR (some 137)), some (vI (i : Int))]) (st' := [vR (some 32)]) (h' := h) g505 rfl ?_
  refine lw_ld (k := 1) (ysS I.w) I.xss hi hzl (by decide) g506 g507 g508 g509 g510 rfl ?_
  refine lw_ld (k := 2) (ysS I.w) I.xss hi hzl (by decide) g511 g512 g513 g514 g515 rfl ?_
  refine y_cI (pc' := 519) (as := [vR (some 32), vI (xs (i + 1)), vI (xs (i + 2))]) (r := []) g516 (yzv (rfl : zmth 9 61 = some (0, 83)) rfl (ys32 I.w) rfl rfl) (by decide) rfl ?_
  refine yI.mono (yI.lo (ap83 I (by decide) (hz _))) fun t h1 k1 => ?_
  obtain ⟨k1, lo⟩ := k1
  refine y_s (pc' := 520) (L' := [some (vR (some 0)), some (vR (some 32)), some (vR (some 137)), some (vI (i : Int))]) (st' := [vR (some 137), vI t]) (h' := h1) g519 rfl ?_
  refine lw_ld (k := 1) (lo_S lo I.w) (lo_V lo I.xss) hi hzl (by decide) g520 g521 g522 g523 g524 rfl ?_
  refine lw_ld (k := 2) (lo_S lo I.w) (lo_V lo I.xss) hi hzl (by decide) g525 g526 g527 g528 g529 rfl ?_
  refine y_cI (pc' := 533) (as := [vR (some 137), vI (xs (i + 1)), vI (xs (i + 2))]) (r := [vI t]) g530 (yzv (rfl : zmth 9 64 = some (0, 189)) rfl (lo_M lo I.w) rfl rfl) (by decide) rfl ?_
  refine yI.mono k1 fun u h2 k2 => ?_
  obtain ⟨rfl, I2⟩ := k2
  refine y_ic (pcT := 1188) (pc' := 536) (P := t = t) g533 rfl rfl rfl (fun _ => k h2 I2) (fun c => absurd rfl c)
theorem lw_c12 (I : Inv zl nl xs h) (hz : ∀ j, zr (xs j)) (hi : i + 6 ≤ zl) (hzl : zl ≤ 3072) (k : ∀ h2, Inv zl nl xs h2 → ZW 40 code 9 1188 [some (vR (some 0)), some (vR (some 32)), some (vR (some 137)), some (vI (i : Int))] [] h2 Q) : ZW 40 code 9 538 [some (vR (some 0)), some (vR (some 32)), some (vR (some 137)), some (vI (i : Int))] [] h Q := by
  refine y_s (pc' := 539) (L' := [some (vR (some 0)), some (vR (some 32)), some (vR (some 137)), some (vI (i : Int))]) (st' := [vR (some 32)]) (h' := h) g538 rfl ?_
  refine lw_ld (k := 1) (ysS I.w) I.xss hi hzl (by decide) g539 g540 g541 g542 g543 rfl ?_
  refine lw_ld (k := 2) (ysS I.w) I.xss hi hzl (by decide) g544 g545 g546 g547 g548 rfl ?_
  refine lw_ld (k := 3) (ysS I.w) I.xss hi hzl (by decide) g549 g550 g551 g552 g553 rfl ?_
  refine lw_ld (k := 4) (ysS I.w) I.xss hi hzl (by decide) g554 g555 g556 g557 g558 rfl ?_
  refine y_cI (pc' := 562) (as := [vR (some 32), vI (xs (i + 1)), vI (xs (i + 2)), vI (xs (i + 3)), vI (xs (i + 4))]) (r := []) g559 (yzv (rfl : zmth 9 65 = some (0, 89)) rfl (ys32 I.w) rfl rfl) (by decide) rfl ?_
  refine yI.mono (yI.lo (ap89 I (by decide))) fun t h1 k1 => ?_
  obtain ⟨k1, lo⟩ := k1
  refine y_s (pc' := 563) (L' := [some (vR (some 0)), some (vR (some 32)), some (vR (some 137)), some (vI (i : Int))]) (st' := [vR (some 137), vI t]) (h' := h1) g562 rfl ?_
  refine lw_ld (k := 1) (lo_S lo I.w) (lo_V lo I.xss) hi hzl (by decide) g563 g564 g565 g566 g567 rfl ?_
  refine lw_ld (k := 2) (lo_S lo I.w) (lo_V lo I.xss) hi hzl (by decide) g568 g569 g570 g571 g572 rfl ?_
  refine lw_ld (k := 3) (lo_S lo I.w) (lo_V lo I.xss) hi hzl (by decide) g573 g574 g575 g576 g577 rfl ?_
  refine lw_ld (k := 4) (lo_S lo I.w) (lo_V lo I.xss) hi hzl (by decide) g578 g579 g580 g581 g582 rfl ?_
  refine y_cI (pc' := 586) (as := [vR (some 137), vI (xs (i + 1)), vI (xs (i + 2)), vI (xs (i + 3)), vI (xs (i + 4))]) (r := [vI t]) g583 (yzv (rfl : zmth 9 69 = some (0, 191)) rfl (lo_M lo I.w) rfl rfl) (by decide) rfl ?_
  refine yI.mono k1 fun u h2 k2 => ?_
  obtain ⟨rfl, I2⟩ := k2
  refine y_ic (pcT := 1188) (pc' := 589) (P := t = t) g586 rfl rfl rfl (fun _ => k h2 I2) (fun c => absurd rfl c)
theorem lw_c13 (I : Inv zl nl xs h) (hz : ∀ j, zr (xs j)) (hi : i + 6 ≤ zl) (hzl : zl ≤ 3072) (k : ∀ h2, Inv zl nl xs h2 → ZW 40 code 9 1188 [some (vR (some 0)), some (vR (some 32)), some (vR (some 137)), some (vI (i : Int))] [] h2 Q) : ZW 40 code 9 591 [some (vR (some 0)), some (vR (some 32)), some (vR (some 137)), some (vI (i : Int))] [] h Q := by
  refine y_s (pc' := 592) (L' := [some (vR (some 0)), some (vR (some 32)), some (vR (some 137)), some (vI (i : Int))]) (st' := [vR (some 32)]) (h' := h) g591 rfl ?_
  refine lw_ld (k := 1) (ysS I.w) I.xss hi hzl (by decide) g592 g593 g594 g595 g596 rfl ?_
  refine lw_ld (k := 2) (ysS I.w) I.xss hi hzl (by decide) g597 g598 g599 g600 g601 rfl ?_
  refine y_cI (pc' := 605) (as := [vR (some 32), vI (xs (i + 1)), vI (xs (i + 2))]) (r := []) g602 (yzv (rfl : zmth 9 70 = some (0, 90)) rfl (ys32 I.w) rfl rfl) (by decide) rfl ?_
  refine yI.mono (yI.lo (ap90 I (by decide))) fun t h1 k1 => ?_
  obtain ⟨k1, lo⟩ := k1
  refine y_s (pc' := 606) (L' := [some (vR (some 0)), some (vR (some 32)), some (vR (some 137)), some (vI (i : Int))]) (st' := [vR (some 137), vI t]) (h' := h1) g605 rfl ?_
  refine lw_ld (k := 1) (lo_S lo I.w) (lo_V lo I.xss) hi hzl (by decide) g606 g607 g608 g609 g610 rfl ?_
  refine lw_ld (k := 2) (lo_S lo I.w) (lo_V lo I.xss) hi hzl (by decide) g611 g612 g613 g614 g615 rfl ?_
  refine y_cI (pc' := 619) (as := [vR (some 137), vI (xs (i + 1)), vI (xs (i + 2))]) (r := [vI t]) g616 (yzv (rfl : zmth 9 73 = some (0, 192)) rfl (lo_M lo I.w) rfl rfl) (by decide) rfl ?_
  refine yI.mono k1 fun u h2 k2 => ?_
  obtain ⟨rfl, I2⟩ := k2
  refine y_ic (pcT := 1188) (pc' := 622) (P := t = t) g619 rfl rfl rfl (fun _ => k h2 I2) (fun c => absurd rfl c)
theorem lw_c14 (I : Inv zl nl xs h) (hz : ∀ j, zr (xs j)) (hi : i + 6 ≤ zl) (hzl : zl ≤ 3072) (k : ∀ h2, Inv zl nl xs h2 → ZW 40 code 9 1188 [some (vR (some 0)), some (vR (some 32)), some (vR (some 137)), some (vI (i : Int))] [] h2 Q) : ZW 40 code 9 624 [some (vR (some 0)), some (vR (some 32)), some (vR (some 137)), some (vI (i : Int))] [] h Q := by
  refine y_s (pc' := 625) (L' := [some (vR (some 0)), some (vR (some 32)), some (vR (some 137)), some (vI (i : Int))]) (st' := [vR (some 32)]) (h' := h) g624 rfl ?_
  refine lw_ld (k := 1) (ysS I.w) I.xss hi hzl (by decide) g625 g626 g627 g628 g629 rfl ?_
  refine lw_ld (k := 2) (ysS I.w) I.xss hi hzl (by decide) g630 g631 g632 g633 g634 rfl ?_
  refine y_cJ (pc' := 638) (as := [vR (some 32), vI (xs (i + 1)), vI (xs (i + 2))]) (r := []) g635 (yzv (rfl : zmth 9 74 = some (0, 91)) rfl (ys32 I.w) rfl rfl) (by decide) rfl ?_
  refine yJ.mono (yJ.lo (ap91 I (by decide))) fun t h1 k1 => ?_
  obtain ⟨k1, lo⟩ := k1
  refine y_s (pc' := 639) (L' := [some (vR (some 0)), some (vR (some 32)), some (vR (some 137)), some (vI (i : Int))]) (st' := [vR (some 137), vJ t]) (h' := h1) g638 rfl ?_
  refine lw_ld (k := 1) (lo_S lo I.w) (lo_V lo I.xss) hi hzl (by decide) g639 g640 g641 g642 g643 rfl ?_
  refine lw_ld (k := 2) (lo_S lo I.w) (lo_V lo I.xss) hi hzl (by decide) g644 g645 g646 g647 g648 rfl ?_
  refine y_cJ (pc' := 652) (as := [vR (some 137), vI (xs (i + 1)), vI (xs (i + 2))]) (r := [vJ t]) g649 (yzv (rfl : zmth 9 78 = some (0, 193)) rfl (lo_M lo I.w) rfl rfl) (by decide) rfl ?_
  refine yJ.mono k1 fun u h2 k2 => ?_
  obtain ⟨rfl, I2⟩ := k2
  refine y_s (pc' := 653) (L' := [some (vR (some 0)), some (vR (some 32)), some (vR (some 137)), some (vI (i : Int))]) (st' := [vI (lg_cmp t t).toInt]) (h' := h2) g652 rfl ?_
  refine y_ift (pcT := 1188) g653 rfl (lg_cc t) (k h2 I2)
theorem lw_c15 (I : Inv zl nl xs h) (hz : ∀ j, zr (xs j)) (hi : i + 6 ≤ zl) (hzl : zl ≤ 3072) (k : ∀ h2, Inv zl nl xs h2 → ZW 40 code 9 1188 [some (vR (some 0)), some (vR (some 32)), some (vR (some 137)), some (vI (i : Int))] [] h2 Q) : ZW 40 code 9 658 [some (vR (some 0)), some (vR (some 32)), some (vR (some 137)), some (vI (i : Int))] [] h Q := by
  refine y_s (pc' := 659) (L' := [some (vR (some 0)), some (vR (some 32)), some (vR (some 137)), some (vI (i : Int))]) (st' := [vR (some 32)]) (h' := h) g658 rfl ?_
  refine lw_ld (k := 1) (ysS I.w) I.xss hi hzl (by decide) g659 g660 g661 g662 g663 rfl ?_
  refine lw_ld (k := 2) (ysS I.w) I.xss hi hzl (by decide) g664 g665 g666 g667 g668 rfl ?_
  refine y_cJ (pc' := 672) (as := [vR (some 32), vI (xs (i + 1)), vI (xs (i + 2))]) (r := []) g669 (yzv (rfl : zmth 9 79 = some (0, 95)) rfl (ys32 I.w) rfl rfl) (by decide) rfl ?_
  refine yJ.mono (yJ.lo (ap95 I (by decide))) fun t h1 k1 => ?_
  obtain ⟨k1, lo⟩ := k1
  refine y_s (pc' := 673) (L' := [some (vR (some 0)), some (vR (some 32)), some (vR (some 137)), some (vI (i : Int))]) (st' := [vR (some 137), vJ t]) (h' := h1) g672 rfl ?_
  refine lw_ld (k := 1) (lo_S lo I.w) (lo_V lo I.xss) hi hzl (by decide) g673 g674 g675 g676 g677 rfl ?_
  refine lw_ld (k := 2) (lo_S lo I.w) (lo_V lo I.xss) hi hzl (by decide) g678 g679 g680 g681 g682 rfl ?_
  refine y_cJ (pc' := 686) (as := [vR (some 137), vI (xs (i + 1)), vI (xs (i + 2))]) (r := [vJ t]) g683 (yzv (rfl : zmth 9 82 = some (0, 196)) rfl (lo_M lo I.w) rfl rfl) (by decide) rfl ?_
  refine yJ.mono k1 fun u h2 k2 => ?_
  obtain ⟨rfl, I2⟩ := k2
  refine y_s (pc' := 687) (L' := [some (vR (some 0)), some (vR (some 32)), some (vR (some 137)), some (vI (i : Int))]) (st' := [vI (lg_cmp t t).toInt]) (h' := h2) g686 rfl ?_
  refine y_ift (pcT := 1188) g687 rfl (lg_cc t) (k h2 I2)
theorem lw_c16 (I : Inv zl nl xs h) (hz : ∀ j, zr (xs j)) (hi : i + 6 ≤ zl) (hzl : zl ≤ 3072) (k : ∀ h2, Inv zl nl xs h2 → ZW 40 code 9 1188 [some (vR (some 0)), some (vR (some 32)), some (vR (some 137)), some (vI (i : Int))] [] h2 Q) : ZW 40 code 9 692 [some (vR (some 0)), some (vR (some 32)), some (vR (some 137)), some (vI (i : Int))] [] h Q := by
  refine y_s (pc' := 693) (L' := [some (vR (some 0)), some (vR (some 32)), some (vR (some 137)), some (vI (i : Int))]) (st' := [vR (some 32)]) (h' := h) g692 rfl ?_
  refine lw_ld (k := 1) (ysS I.w) I.xss hi hzl (by decide) g693 g694 g695 g696 g697 rfl ?_
  refine lw_ld (k := 2) (ysS I.w) I.xss hi hzl (by decide) g698 g699 g700 g701 g702 rfl ?_
  refine y_cI (pc' := 706) (as := [vR (some 32), vI (xs (i + 1)), vI (xs (i + 2))]) (r := []) g703 (yzv (rfl : zmth 9 83 = some (0, 96)) rfl (ys32 I.w) rfl rfl) (by decide) rfl ?_
  refine yI.mono (yI.lo (ap96 I (by decide))) fun t h1 k1 => ?_
  obtain ⟨k1, lo⟩ := k1
  refine y_s (pc' := 707) (L' := [some (vR (some 0)), some (vR (some 32)), some (vR (some 137)), some (vI (i : Int))]) (st' := [vR (some 137), vI t]) (h' := h1) g706 rfl ?_
  refine lw_ld (k := 1) (lo_S lo I.w) (lo_V lo I.xss) hi hzl (by decide) g707 g708 g709 g710 g711 rfl ?_
  refine lw_ld (k := 2) (lo_S lo I.w) (lo_V lo I.xss) hi hzl (by decide) g712 g713 g714 g715 g716 rfl ?_
  refine y_cI (pc' := 720) (as := [vR (some 137), vI (xs (i + 1)), vI (xs (i + 2))]) (r := [vI t]) g717 (yzv (rfl : zmth 9 86 = some (0, 197)) rfl (lo_M lo I.w) rfl rfl) (by decide) rfl ?_
  refine yI.mono k1 fun u h2 k2 => ?_
  obtain ⟨rfl, I2⟩ := k2
  refine y_ic (pcT := 1188) (pc' := 723) (P := t = t) g720 rfl rfl rfl (fun _ => k h2 I2) (fun c => absurd rfl c)
theorem lw_c17 (I : Inv zl nl xs h) (hz : ∀ j, zr (xs j)) (hi : i + 6 ≤ zl) (hzl : zl ≤ 3072) (k : ∀ h2, Inv zl nl xs h2 → ZW 40 code 9 1188 [some (vR (some 0)), some (vR (some 32)), some (vR (some 137)), some (vI (i : Int))] [] h2 Q) : ZW 40 code 9 725 [some (vR (some 0)), some (vR (some 32)), some (vR (some 137)), some (vI (i : Int))] [] h Q := by
  refine y_s (pc' := 726) (L' := [some (vR (some 0)), some (vR (some 32)), some (vR (some 137)), some (vI (i : Int))]) (st' := [vR (some 32)]) (h' := h) g725 rfl ?_
  refine lw_ld (k := 1) (ysS I.w) I.xss hi hzl (by decide) g726 g727 g728 g729 g730 rfl ?_
  refine y_cI (pc' := 734) (as := [vR (some 32), vI (xs (i + 1))]) (r := []) g731 (yzv (rfl : zmth 9 87 = some (0, 97)) rfl (ys32 I.w) rfl rfl) (by decide) rfl ?_
  refine yI.mono (yI.lo (ap97 I (by decide))) fun t h1 k1 => ?_
  obtain ⟨k1, lo⟩ := k1
  refine y_s (pc' := 735) (L' := [some (vR (some 0)), some (vR (some 32)), some (vR (some 137)), some (vI (i : Int))]) (st' := [vR (some 137), vI t]) (h' := h1) g734 rfl ?_
  refine lw_ld (k := 1) (lo_S lo I.w) (lo_V lo I.xss) hi hzl (by decide) g735 g736 g737 g738 g739 rfl ?_
  refine y_cI (pc' := 743) (as := [vR (some 137), vI (xs (i + 1))]) (r := [vI t]) g740 (yzv (rfl : zmth 9 90 = some (0, 198)) rfl (lo_M lo I.w) rfl rfl) (by decide) rfl ?_
  refine yI.mono k1 fun u h2 k2 => ?_
  obtain ⟨rfl, I2⟩ := k2
  refine y_ic (pcT := 1188) (pc' := 746) (P := t = t) g743 rfl rfl rfl (fun _ => k h2 I2) (fun c => absurd rfl c)
theorem lw_c18 (I : Inv zl nl xs h) (hz : ∀ j, zr (xs j)) (hi : i + 6 ≤ zl) (hzl : zl ≤ 3072) (k : ∀ h2, Inv zl nl xs h2 → ZW 40 code 9 1188 [some (vR (some 0)), some (vR (some 32)), some (vR (some 137)), some (vI (i : Int))] [] h2 Q) : ZW 40 code 9 748 [some (vR (some 0)), some (vR (some 32)), some (vR (some 137)), some (vI (i : Int))] [] h Q := by
  refine y_s (pc' := 749) (L' := [some (vR (some 0)), some (vR (some 32)), some (vR (some 137)), some (vI (i : Int))]) (st' := [vR (some 32)]) (h' := h) g748 rfl ?_
  refine lw_ld (k := 1) (ysS I.w) I.xss hi hzl (by decide) g749 g750 g751 g752 g753 rfl ?_
  refine lw_ld (k := 2) (ysS I.w) I.xss hi hzl (by decide) g754 g755 g756 g757 g758 rfl ?_
  refine y_cI (pc' := 762) (as := [vR (some 32), vI (xs (i + 1)), vI (xs (i + 2))]) (r := []) g759 (yzv (rfl : zmth 9 91 = some (0, 100)) rfl (ys32 I.w) rfl rfl) (by decide) rfl ?_
  refine yI.mono (yI.lo (ap100 I (by decide))) fun t h1 k1 => ?_
  obtain ⟨k1, lo⟩ := k1
  refine y_s (pc' := 763) (L' := [some (vR (some 0)), some (vR (some 32)), some (vR (some 137)), some (vI (i : Int))]) (st' := [vR (some 137), vI t]) (h' := h1) g762 rfl ?_
  refine lw_ld (k := 1) (lo_S lo I.w) (lo_V lo I.xss) hi hzl (by decide) g763 g764 g765 g766 g767 rfl ?_
  refine lw_ld (k := 2) (lo_S lo I.w) (lo_V lo I.xss) hi hzl (by decide) g768 g769 g770 g771 g772 rfl ?_
  refine y_cI (pc' := 776) (as := [vR (some 137), vI (xs (i + 1)), vI (xs (i + 2))]) (r := [vI t]) g773 (yzv (rfl : zmth 9 94 = some (0, 199)) rfl (lo_M lo I.w) rfl rfl) (by decide) rfl ?_
  refine yI.mono k1 fun u h2 k2 => ?_
  obtain ⟨rfl, I2⟩ := k2
  refine y_ic (pcT := 1188) (pc' := 779) (P := t = t) g776 rfl rfl rfl (fun _ => k h2 I2) (fun c => absurd rfl c)
theorem lw_c19 (I : Inv zl nl xs h) (hz : ∀ j, zr (xs j)) (hi : i + 6 ≤ zl) (hzl : zl ≤ 3072) (k : ∀ h2, Inv zl nl xs h2 → ZW 40 code 9 1188 [some (vR (some 0)), some (vR (some 32)), some (vR (some 137)), some (vI (i : Int))] [] h2 Q) : ZW 40 code 9 781 [some (vR (some 0)), some (vR (some 32)), some (vR (some 137)), some (vI (i : Int))] [] h Q := by
  refine y_s (pc' := 782) (L' := [some (vR (some 0)), some (vR (some 32)), some (vR (some 137)), some (vI (i : Int))]) (st' := [vR (some 32)]) (h' := h) g781 rfl ?_
  refine y_cI (pc' := 785) (as := [vR (some 32)]) (r := []) g782 (yzv (rfl : zmth 9 95 = some (0, 101)) rfl (ys32 I.w) rfl rfl) (by decide) rfl ?_
  refine yI.mono (yI.lo (ap101 I (by decide))) fun t h1 k1 => ?_
  obtain ⟨k1, lo⟩ := k1
  refine y_s (pc' := 786) (L' := [some (vR (some 0)), some (vR (some 32)), some (vR (some 137)), some (vI (i : Int))]) (st' := [vR (some 137), vI t]) (h' := h1) g785 rfl ?_
  refine y_cI (pc' := 789) (as := [vR (some 137)]) (r := [vI t]) g786 (yzv (rfl : zmth 9 98 = some (0, 200)) rfl (lo_M lo I.w) rfl rfl) (by decide) rfl ?_
  refine yI.mono k1 fun u h2 k2 => ?_
  obtain ⟨rfl, I2⟩ := k2
  refine y_ic (pcT := 1188) (pc' := 792) (P := t = t) g789 rfl rfl rfl (fun _ => k h2 I2) (fun c => absurd rfl c)
theorem lw_c20 (I : Inv zl nl xs h) (hz : ∀ j, zr (xs j)) (hi : i + 6 ≤ zl) (hzl : zl ≤ 3072) (k : ∀ h2, Inv zl nl xs h2 → ZW 40 code 9 1188 [some (vR (some 0)), some (vR (some 32)), some (vR (some 137)), some (vI (i : Int))] [] h2 Q) : ZW 40 code 9 794 [some (vR (some 0)), some (vR (some 32)), some (vR (some 137)), some (vI (i : Int))] [] h Q := by
  refine y_s (pc' := 795) (L' := [some (vR (some 0)), some (vR (some 32)), some (vR (some 137)), some (vI (i : Int))]) (st' := [vR (some 32)]) (h' := h) g794 rfl ?_
  refine lw_ld (k := 1) (ysS I.w) I.xss hi hzl (by decide) g795 g796 g797 g798 g799 rfl ?_
  refine lw_ld (k := 2) (ysS I.w) I.xss hi hzl (by decide) g800 g801 g802 g803 g804 rfl ?_
  refine y_cI (pc' := 808) (as := [vR (some 32), vI (xs (i + 1)), vI (xs (i + 2))]) (r := []) g805 (yzv (rfl : zmth 9 99 = some (0, 102)) rfl (ys32 I.w) rfl rfl) (by decide) rfl ?_
  refine yI.mono (yI.lo (ap102 I (by decide) (hz _))) fun t h1 k1 => ?_
  obtain ⟨k1, lo⟩ := k1
  refine y_s (pc' := 809) (L' := [some (vR (some 0)), some (vR (some 32)), some (vR (some 137)), some (vI (i : Int))]) (st' := [vR (some 137), vI t]) (h' := h1) g808 rfl ?_
  refine lw_ld (k := 1) (lo_S lo I.w) (lo_V lo I.xss) hi hzl (by decide) g809 g810 g811 g812 g813 rfl ?_
  refine lw_ld (k := 2) (lo_S lo I.w) (lo_V lo I.xss) hi hzl (by decide) g814 g815 g816 g817 g818 rfl ?_
  refine y_cI (pc' := 822) (as := [vR (some 137), vI (xs (i + 1)), vI (xs (i + 2))]) (r := [vI t]) g819 (yzv (rfl : zmth 9 102 = some (0, 201)) rfl (lo_M lo I.w) rfl rfl) (by decide) rfl ?_
  refine yI.mono k1 fun u h2 k2 => ?_
  obtain ⟨rfl, I2⟩ := k2
  refine y_ic (pcT := 1188) (pc' := 825) (P := t = t) g822 rfl rfl rfl (fun _ => k h2 I2) (fun c => absurd rfl c)
theorem lw_c21 (I : Inv zl nl xs h) (hz : ∀ j, zr (xs j)) (hi : i + 6 ≤ zl) (hzl : zl ≤ 3072) (k : ∀ h2, Inv zl nl xs h2 → ZW 40 code 9 1188 [some (vR (some 0)), some (vR (some 32)), some (vR (some 137)), some (vI (i : Int))] [] h2 Q) : ZW 40 code 9 827 [some (vR (some 0)), some (vR (some 32)), some (vR (some 137)), some (vI (i : Int))] [] h Q := by
  refine y_s (pc' := 828) (L' := [some (vR (some 0)), some (vR (some 32)), some (vR (some 137)), some (vI (i : Int))]) (st' := [vR (some 32)]) (h' := h) g827 rfl ?_
  refine y_cI (pc' := 831) (as := [vR (some 32)]) (r := []) g828 (yzv (rfl : zmth 9 103 = some (0, 105)) rfl (ys32 I.w) rfl rfl) (by decide) rfl ?_
  refine yI.mono (yI.lo (ap105 I (by decide))) fun t h1 k1 => ?_
  obtain ⟨k1, lo⟩ := k1
  refine y_s (pc' := 832) (L' := [some (vR (some 0)), some (vR (some 32)), some (vR (some 137)), some (vI (i : Int))]) (st' := [vR (some 137), vI t]) (h' := h1) g831 rfl ?_
  refine y_cI (pc' := 835) (as := [vR (some 137)]) (r := [vI t]) g832 (yzv (rfl : zmth 9 106 = some (0, 202)) rfl (lo_M lo I.w) rfl rfl) (by decide) rfl ?_
  refine yI.mono k1 fun u h2 k2 => ?_
  obtain ⟨rfl, I2⟩ := k2
  refine y_ic (pcT := 1188) (pc' := 838) (P := t = t) g835 rfl rfl rfl (fun _ => k h2 I2) (fun c => absurd rfl c)
theorem lw_c22 (I : Inv zl nl xs h) (hz : ∀ j, zr (xs j)) (hi : i + 6 ≤ zl) (hzl : zl ≤ 3072) (k : ∀ h2, Inv zl nl xs h2 → ZW 40 code 9 1188 [some (vR (some 0)), some (vR (some 32)), some (vR (some 137)), some (vI (i : Int))] [] h2 Q) : ZW 40 code 9 840 [some (vR (some 0)), some (vR (some 32)), some (vR (some 137)), some (vI (i : Int))] [] h Q := by
  refine y_s (pc' := 841) (L' := [some (vR (some 0)), some (vR (some 32)), some (vR (some 137)), some (vI (i : Int))]) (st' := [vR (some 32)]) (h' := h) g840 rfl ?_
  refine y_cI (pc' := 844) (as := [vR (some 32)]) (r := []) g841 (yzv (rfl : zmth 9 107 = some (0, 106)) rfl (ys32 I.w) rfl rfl) (by decide) rfl ?_
  refine yI.mono (yI.lo (ap106 I (by decide))) fun t h1 k1 => ?_
  obtain ⟨k1, lo⟩ := k1
  refine y_s (pc' := 845) (L' := [some (vR (some 0)), some (vR (some 32)), some (vR (some 137)), some (vI (i : Int))]) (st' := [vR (some 137), vI t]) (h' := h1) g844 rfl ?_
  refine y_cI (pc' := 848) (as := [vR (some 137)]) (r := [vI t]) g845 (yzv (rfl : zmth 9 110 = some (0, 203)) rfl (lo_M lo I.w) rfl rfl) (by decide) rfl ?_
  refine yI.mono k1 fun u h2 k2 => ?_
  obtain ⟨rfl, I2⟩ := k2
  refine y_ic (pcT := 1188) (pc' := 851) (P := t = t) g848 rfl rfl rfl (fun _ => k h2 I2) (fun c => absurd rfl c)
theorem lw_c23 (I : Inv zl nl xs h) (hz : ∀ j, zr (xs j)) (hi : i + 6 ≤ zl) (hzl : zl ≤ 3072) (k : ∀ h2, Inv zl nl xs h2 → ZW 40 code 9 1188 [some (vR (some 0)), some (vR (some 32)), some (vR (some 137)), some (vI (i : Int))] [] h2 Q) : ZW 40 code 9 853 [some (vR (some 0)), some (vR (some 32)), some (vR (some 137)), some (vI (i : Int))] [] h Q := by
  refine y_s (pc' := 854) (L' := [some (vR (some 0)), some (vR (some 32)), some (vR (some 137)), some (vI (i : Int))]) (st' := [vR (some 32)]) (h' := h) g853 rfl ?_
  refine lw_ld (k := 1) (ysS I.w) I.xss hi hzl (by decide) g854 g855 g856 g857 g858 rfl ?_
  refine lw_ld (k := 2) (ysS I.w) I.xss hi hzl (by decide) g859 g860 g861 g862 g863 rfl ?_
  refine lw_ld (k := 3) (ysS I.w) I.xss hi hzl (by decide) g864 g865 g866 g867 g868 rfl ?_
  refine y_cI (pc' := 872) (as := [vR (some 32), vI (xs (i + 1)), vI (xs (i + 2)), vI (xs (i + 3))]) (r := []) g869 (yzv (rfl : zmth 9 111 = some (0, 107)) rfl (ys32 I.w) rfl rfl) (by decide) rfl ?_
  refine yI.mono (yI.lo (ap107 I (by decide))) fun t h1 k1 => ?_
  obtain ⟨k1, lo⟩ := k1
  refine y_s (pc' := 873) (L' := [some (vR (some 0)), some (vR (some 32)), some (vR (some 137)), some (vI (i : Int))]) (st' := [vR (some 137), vI t]) (h' := h1) g872 rfl ?_
  refine lw_ld (k := 1) (lo_S lo I.w) (lo_V lo I.xss) hi hzl (by decide) g873 g874 g875 g876 g877 rfl ?_
  refine lw_ld (k := 2) (lo_S lo I.w) (lo_V lo I.xss) hi hzl (by decide) g878 g879 g880 g881 g882 rfl ?_
  refine lw_ld (k := 3) (lo_S lo I.w) (lo_V lo I.xss) hi hzl (by decide) g883 g884 g885 g886 g887 rfl ?_
  refine y_cI (pc' := 891) (as := [vR (some 137), vI (xs (i + 1)), vI (xs (i + 2)), vI (xs (i + 3))]) (r := [vI t]) g888 (yzv (rfl : zmth 9 114 = some (0, 204)) rfl (lo_M lo I.w) rfl rfl) (by decide) rfl ?_
  refine yI.mono k1 fun u h2 k2 => ?_
  obtain ⟨rfl, I2⟩ := k2
  refine y_ic (pcT := 1188) (pc' := 894) (P := t = t) g891 rfl rfl rfl (fun _ => k h2 I2) (fun c => absurd rfl c)
theorem lw_c24 (I : Inv zl nl xs h) (hz : ∀ j, zr (xs j)) (hi : i + 6 ≤ zl) (hzl : zl ≤ 3072) (k : ∀ h2, Inv zl nl xs h2 → ZW 40 code 9 1188 [some (vR (some 0)), some (vR (some 32)), some (vR (some 137)), some (vI (i : Int))] [] h2 Q) : ZW 40 code 9 896 [some (vR (some 0)), some (vR (some 32)), some (vR (some 137)), some (vI (i : Int))] [] h Q := by
  refine y_s (pc' := 897) (L' := [some (vR (some 0)), some (vR (some 32)), some (vR (some 137)), some (vI (i : Int))]) (st' := [vR (some 32)]) (h' := h) g896 rfl ?_
  refine lw_ld (k := 1) (ysS I.w) I.xss hi hzl (by decide) g897 g898 g899 g900 g901 rfl ?_
  refine y_cI (pc' := 905) (as := [vR (some 32), vI (xs (i + 1))]) (r := []) g902 (yzv (rfl : zmth 9 115 = some (0, 113)) rfl (ys32 I.w) rfl rfl) (by decide) rfl ?_
  refine yI.mono (yI.lo (ap113 I (by decide))) fun t h1 k1 => ?_
  obtain ⟨k1, lo⟩ := k1
  refine y_s (pc' := 906) (L' := [some (vR (some 0)), some (vR (some 32)), some (vR (some 137)), some (vI (i : Int))]) (st' := [vR (some 137), vI t]) (h' := h1) g905 rfl ?_
  refine lw_ld (k := 1) (lo_S lo I.w) (lo_V lo I.xss) hi hzl (by decide) g906 g907 g908 g909 g910 rfl ?_
  refine y_cI (pc' := 914) (as := [vR (some 137), vI (xs (i + 1))]) (r := [vI t]) g911 (yzv (rfl : zmth 9 118 = some (0, 210)) rfl (lo_M lo I.w) rfl rfl) (by decide) rfl ?_
  refine yI.mono k1 fun u h2 k2 => ?_
  obtain ⟨rfl, I2⟩ := k2
  refine y_ic (pcT := 1188) (pc' := 917) (P := t = t) g914 rfl rfl rfl (fun _ => k h2 I2) (fun c => absurd rfl c)
theorem lw_c25 (I : Inv zl nl xs h) (hz : ∀ j, zr (xs j)) (hi : i + 6 ≤ zl) (hzl : zl ≤ 3072) (k : ∀ h2, Inv zl nl xs h2 → ZW 40 code 9 1188 [some (vR (some 0)), some (vR (some 32)), some (vR (some 137)), some (vI (i : Int))] [] h2 Q) : ZW 40 code 9 919 [some (vR (some 0)), some (vR (some 32)), some (vR (some 137)), some (vI (i : Int))] [] h Q := by
  refine y_s (pc' := 920) (L' := [some (vR (some 0)), some (vR (some 32)), some (vR (some 137)), some (vI (i : Int))]) (st' := [vR (some 32)]) (h' := h) g919 rfl ?_
  refine lw_ld (k := 1) (ysS I.w) I.xss hi hzl (by decide) g920 g921 g922 g923 g924 rfl ?_
  refine lw_ld (k := 2) (ysS I.w) I.xss hi hzl (by decide) g925 g926 g927 g928 g929 rfl ?_
  refine y_cI (pc' := 933) (as := [vR (some 32), vI (xs (i + 1)), vI (xs (i + 2))]) (r := []) g930 (yzv (rfl : zmth 9 119 = some (0, 115)) rfl (ys32 I.w) rfl rfl) (by decide) rfl ?_
  refine yI.mono (yI.lo (ap115 I (by decide))) fun t h1 k1 => ?_
  obtain ⟨k1, lo⟩ := k1
  refine y_s (pc' := 934) (L' := [some (vR (some 0)), some (vR (some 32)), some (vR (some 137)), some (vI (i : Int))]) (st' := [vR (some 137), vI t]) (h' := h1) g933 rfl ?_
  refine lw_ld (k := 1) (lo_S lo I.w) (lo_V lo I.xss) hi hzl (by decide) g934 g935 g936 g937 g938 rfl ?_
  refine lw_ld (k := 2) (lo_S lo I.w) (lo_V lo I.xss) hi hzl (by decide) g939 g940 g941 g942 g943 rfl ?_
  refine y_cI (pc' := 947) (as := [vR (some 137), vI (xs (i + 1)), vI (xs (i + 2))]) (r := [vI t]) g944 (yzv (rfl : zmth 9 122 = some (0, 211)) rfl (lo_M lo I.w) rfl rfl) (by decide) rfl ?_
  refine yI.mono k1 fun u h2 k2 => ?_
  obtain ⟨rfl, I2⟩ := k2
  refine y_ic (pcT := 1188) (pc' := 950) (P := t = t) g947 rfl rfl rfl (fun _ => k h2 I2) (fun c => absurd rfl c)
theorem lw_c26 (I : Inv zl nl xs h) (hz : ∀ j, zr (xs j)) (hi : i + 6 ≤ zl) (hzl : zl ≤ 3072) (k : ∀ h2, Inv zl nl xs h2 → ZW 40 code 9 1188 [some (vR (some 0)), some (vR (some 32)), some (vR (some 137)), some (vI (i : Int))] [] h2 Q) : ZW 40 code 9 952 [some (vR (some 0)), some (vR (some 32)), some (vR (some 137)), some (vI (i : Int))] [] h Q := by
  refine y_s (pc' := 953) (L' := [some (vR (some 0)), some (vR (some 32)), some (vR (some 137)), some (vI (i : Int))]) (st' := [vR (some 32)]) (h' := h) g952 rfl ?_
  refine lw_ld (k := 1) (ysS I.w) I.xss hi hzl (by decide) g953 g954 g955 g956 g957 rfl ?_
  refine y_cI (pc' := 961) (as := [vR (some 32), vI (xs (i + 1))]) (r := []) g958 (yzv (rfl : zmth 9 123 = some (0, 117)) rfl (ys32 I.w) rfl rfl) (by decide) rfl ?_
  refine yI.mono (yI.lo (ap117 I)) fun t h1 k1 => ?_
  obtain ⟨k1, lo⟩ := k1
  refine y_s (pc' := 962) (L' := [some (vR (some 0)), some (vR (some 32)), some (vR (some 137)), some (vI (i : Int))]) (st' := [vR (some 137), vI t]) (h' := h1) g961 rfl ?_
  refine lw_ld (k := 1) (lo_S lo I.w) (lo_V lo I.xss) hi hzl (by decide) g962 g963 g964 g965 g966 rfl ?_
  refine y_cI (pc' := 970) (as := [vR (some 137), vI (xs (i + 1))]) (r := [vI t]) g967 (yzv (rfl : zmth 9 126 = some (0, 212)) rfl (lo_M lo I.w) rfl rfl) (by decide) rfl ?_
  refine yI.mono k1 fun u h2 k2 => ?_
  obtain ⟨rfl, I2⟩ := k2
  refine y_ic (pcT := 1188) (pc' := 973) (P := t = t) g970 rfl rfl rfl (fun _ => k h2 I2) (fun c => absurd rfl c)
theorem lw_c27 (I : Inv zl nl xs h) (hz : ∀ j, zr (xs j)) (hi : i + 6 ≤ zl) (hzl : zl ≤ 3072) (k : ∀ h2, Inv zl nl xs h2 → ZW 40 code 9 1188 [some (vR (some 0)), some (vR (some 32)), some (vR (some 137)), some (vI (i : Int))] [] h2 Q) : ZW 40 code 9 975 [some (vR (some 0)), some (vR (some 32)), some (vR (some 137)), some (vI (i : Int))] [] h Q := by
  refine y_s (pc' := 976) (L' := [some (vR (some 0)), some (vR (some 32)), some (vR (some 137)), some (vI (i : Int))]) (st' := [vR (some 32)]) (h' := h) g975 rfl ?_
  refine lw_ld (k := 1) (ysS I.w) I.xss hi hzl (by decide) g976 g977 g978 g979 g980 rfl ?_
  refine lw_ld (k := 2) (ysS I.w) I.xss hi hzl (by decide) g981 g982 g983 g984 g985 rfl ?_
  refine lw_ld (k := 3) (ysS I.w) I.xss hi hzl (by decide) g986 g987 g988 g989 g990 rfl ?_
  refine y_cI (pc' := 994) (as := [vR (some 32), vI (xs (i + 1)), vI (xs (i + 2)), vI (xs (i + 3))]) (r := []) g991 (yzv (rfl : zmth 9 127 = some (0, 118)) rfl (ys32 I.w) rfl rfl) (by decide) rfl ?_
  refine yI.mono (yI.lo (ap118 I (by decide))) fun t h1 k1 => ?_
  obtain ⟨k1, lo⟩ := k1
  refine y_s (pc' := 995) (L' := [some (vR (some 0)), some (vR (some 32)), some (vR (some 137)), some (vI (i : Int))]) (st' := [vR (some 137), vI t]) (h' := h1) g994 rfl ?_
  refine lw_ld (k := 1) (lo_S lo I.w) (lo_V lo I.xss) hi hzl (by decide) g995 g996 g997 g998 g999 rfl ?_
  refine lw_ld (k := 2) (lo_S lo I.w) (lo_V lo I.xss) hi hzl (by decide) g1000 g1001 g1002 g1003 g1004 rfl ?_
  refine lw_ld (k := 3) (lo_S lo I.w) (lo_V lo I.xss) hi hzl (by decide) g1005 g1006 g1007 g1008 g1009 rfl ?_
  refine y_cI (pc' := 1013) (as := [vR (some 137), vI (xs (i + 1)), vI (xs (i + 2)), vI (xs (i + 3))]) (r := [vI t]) g1010 (yzv (rfl : zmth 9 130 = some (0, 213)) rfl (lo_M lo I.w) rfl rfl) (by decide) rfl ?_
  refine yI.mono k1 fun u h2 k2 => ?_
  obtain ⟨rfl, I2⟩ := k2
  refine y_ic (pcT := 1188) (pc' := 1016) (P := t = t) g1013 rfl rfl rfl (fun _ => k h2 I2) (fun c => absurd rfl c)
theorem lw_c28 (I : Inv zl nl xs h) (hz : ∀ j, zr (xs j)) (hi : i + 6 ≤ zl) (hzl : zl ≤ 3072) (k : ∀ h2, Inv zl nl xs h2 → ZW 40 code 9 1188 [some (vR (some 0)), some (vR (some 32)), some (vR (some 137)), some (vI (i : Int))] [] h2 Q) : ZW 40 code 9 1018 [some (vR (some 0)), some (vR (some 32)), some (vR (some 137)), some (vI (i : Int))] [] h Q := by
  refine y_s (pc' := 1019) (L' := [some (vR (some 0)), some (vR (some 32)), some (vR (some 137)), some (vI (i : Int))]) (st' := [vR (some 32)]) (h' := h) g1018 rfl ?_
  refine lw_ld (k := 1) (ysS I.w) I.xss hi hzl (by decide) g1019 g1020 g1021 g1022 g1023 rfl ?_
  refine lw_ld (k := 2) (ysS I.w) I.xss hi hzl (by decide) g1024 g1025 g1026 g1027 g1028 rfl ?_
  refine lw_ld (k := 3) (ysS I.w) I.xss hi hzl (by decide) g1029 g1030 g1031 g1032 g1033 rfl ?_
  refine y_s (pc' := 1035) (L' := [some (vR (some 0)), some (vR (some 32)), some (vR (some 137)), some (vI (i : Int))]) (st' := [vJ (zi (xs (i + 3))).toInt64, vI (xs (i + 2)), vI (xs (i + 1)), vR (some 32)]) (h' := h) g1034 rfl ?_
  refine y_s (pc' := 1037) (L' := [some (vR (some 0)), some (vR (some 32)), some (vR (some 137)), some (vI (i : Int))]) (st' := [vI 32, vJ (zi (xs (i + 3))).toInt64, vI (xs (i + 2)), vI (xs (i + 1)), vR (some 32)]) (h' := h) g1035 rfl ?_
  refine y_s (pc' := 1038) (L' := [some (vR (some 0)), some (vR (some 32)), some (vR (some 137)), some (vI (i : Int))]) (st' := [vJ ((zi (xs (i + 3))).toInt64 <<< ((zi 32).toInt64 &&& 63)), vI (xs (i + 2)), vI (xs (i + 1)), vR (some 32)]) (h' := h) g1037 rfl ?_
  refine lw_ld (k := 4) (ysS I.w) I.xss hi hzl (by decide) g1038 g1039 g1040 g1041 g1042 rfl ?_
  refine y_s (pc' := 1044) (L' := [some (vR (some 0)), some (vR (some 32)), some (vR (some 137)), some (vI (i : Int))]) (st' := [vJ (zi (xs (i + 4))).toInt64, vJ ((zi (xs (i + 3))).toInt64 <<< ((zi 32).toInt64 &&& 63)), vI (xs (i + 2)), vI (xs (i + 1)), vR (some 32)]) (h' := h) g1043 rfl ?_
  refine y_s (pc' := 1047) (L' := [some (vR (some 0)), some (vR (some 32)), some (vR (some 137)), some (vI (i : Int))]) (st' := [vJ 4294967295, vJ (zi (xs (i + 4))).toInt64, vJ ((zi (xs (i + 3))).toInt64 <<< ((zi 32).toInt64 &&& 63)), vI (xs (i + 2)), vI (xs (i + 1)), vR (some 32)]) (h' := h) g1044 rfl ?_
  refine y_s (pc' := 1048) (L' := [some (vR (some 0)), some (vR (some 32)), some (vR (some 137)), some (vI (i : Int))]) (st' := [vJ ((zi (xs (i + 4))).toInt64 &&& 4294967295), vJ ((zi (xs (i + 3))).toInt64 <<< ((zi 32).toInt64 &&& 63)), vI (xs (i + 2)), vI (xs (i + 1)), vR (some 32)]) (h' := h) g1047 rfl ?_
  refine y_s (pc' := 1049) (L' := [some (vR (some 0)), some (vR (some 32)), some (vR (some 137)), some (vI (i : Int))]) (st' := [vJ (((zi (xs (i + 3))).toInt64 <<< ((zi 32).toInt64 &&& 63)) ||| ((zi (xs (i + 4))).toInt64 &&& 4294967295)), vI (xs (i + 2)), vI (xs (i + 1)), vR (some 32)]) (h' := h) g1048 rfl ?_
  refine y_cI (pc' := 1052) (as := [vR (some 32), vI (xs (i + 1)), vI (xs (i + 2)), vJ (((zi (xs (i + 3))).toInt64 <<< ((zi 32).toInt64 &&& 63)) ||| ((zi (xs (i + 4))).toInt64 &&& 4294967295))]) (r := []) g1049 (yzv (rfl : zmth 9 133 = some (0, 121)) rfl (ys32 I.w) rfl rfl) (by decide) rfl ?_
  refine yI.mono (yI.lo (ap121 I (by decide))) fun t h1 k1 => ?_
  obtain ⟨k1, lo⟩ := k1
  refine y_s (pc' := 1053) (L' := [some (vR (some 0)), some (vR (some 32)), some (vR (some 137)), some (vI (i : Int))]) (st' := [vR (some 137), vI t]) (h' := h1) g1052 rfl ?_
  refine lw_ld (k := 1) (lo_S lo I.w) (lo_V lo I.xss) hi hzl (by decide) g1053 g1054 g1055 g1056 g1057 rfl ?_
  refine lw_ld (k := 2) (lo_S lo I.w) (lo_V lo I.xss) hi hzl (by decide) g1058 g1059 g1060 g1061 g1062 rfl ?_
  refine lw_ld (k := 3) (lo_S lo I.w) (lo_V lo I.xss) hi hzl (by decide) g1063 g1064 g1065 g1066 g1067 rfl ?_
  refine y_s (pc' := 1069) (L' := [some (vR (some 0)), some (vR (some 32)), some (vR (some 137)), some (vI (i : Int))]) (st' := [vJ (zi (xs (i + 3))).toInt64, vI (xs (i + 2)), vI (xs (i + 1)), vR (some 137), vI t]) (h' := h1) g1068 rfl ?_
  refine y_s (pc' := 1071) (L' := [some (vR (some 0)), some (vR (some 32)), some (vR (some 137)), some (vI (i : Int))]) (st' := [vI 32, vJ (zi (xs (i + 3))).toInt64, vI (xs (i + 2)), vI (xs (i + 1)), vR (some 137), vI t]) (h' := h1) g1069 rfl ?_
  refine y_s (pc' := 1072) (L' := [some (vR (some 0)), some (vR (some 32)), some (vR (some 137)), some (vI (i : Int))]) (st' := [vJ ((zi (xs (i + 3))).toInt64 <<< ((zi 32).toInt64 &&& 63)), vI (xs (i + 2)), vI (xs (i + 1)), vR (some 137), vI t]) (h' := h1) g1071 rfl ?_
  refine lw_ld (k := 4) (lo_S lo I.w) (lo_V lo I.xss) hi hzl (by decide) g1072 g1073 g1074 g1075 g1076 rfl ?_
  refine y_s (pc' := 1078) (L' := [some (vR (some 0)), some (vR (some 32)), some (vR (some 137)), some (vI (i : Int))]) (st' := [vJ (zi (xs (i + 4))).toInt64, vJ ((zi (xs (i + 3))).toInt64 <<< ((zi 32).toInt64 &&& 63)), vI (xs (i + 2)), vI (xs (i + 1)), vR (some 137), vI t]) (h' := h1) g1077 rfl ?_
  refine y_s (pc' := 1081) (L' := [some (vR (some 0)), some (vR (some 32)), some (vR (some 137)), some (vI (i : Int))]) (st' := [vJ 4294967295, vJ (zi (xs (i + 4))).toInt64, vJ ((zi (xs (i + 3))).toInt64 <<< ((zi 32).toInt64 &&& 63)), vI (xs (i + 2)), vI (xs (i + 1)), vR (some 137), vI t]) (h' := h1) g1078 rfl ?_
  refine y_s (pc' := 1082) (L' := [some (vR (some 0)), some (vR (some 32)), some (vR (some 137)), some (vI (i : Int))]) (st' := [vJ ((zi (xs (i + 4))).toInt64 &&& 4294967295), vJ ((zi (xs (i + 3))).toInt64 <<< ((zi 32).toInt64 &&& 63)), vI (xs (i + 2)), vI (xs (i + 1)), vR (some 137), vI t]) (h' := h1) g1081 rfl ?_
  refine y_s (pc' := 1083) (L' := [some (vR (some 0)), some (vR (some 32)), some (vR (some 137)), some (vI (i : Int))]) (st' := [vJ (((zi (xs (i + 3))).toInt64 <<< ((zi 32).toInt64 &&& 63)) ||| ((zi (xs (i + 4))).toInt64 &&& 4294967295)), vI (xs (i + 2)), vI (xs (i + 1)), vR (some 137), vI t]) (h' := h1) g1082 rfl ?_
  refine y_cI (pc' := 1086) (as := [vR (some 137), vI (xs (i + 1)), vI (xs (i + 2)), vJ (((zi (xs (i + 3))).toInt64 <<< ((zi 32).toInt64 &&& 63)) ||| ((zi (xs (i + 4))).toInt64 &&& 4294967295))]) (r := [vI t]) g1083 (yzv (rfl : zmth 9 137 = some (0, 215)) rfl (lo_M lo I.w) rfl rfl) (by decide) rfl ?_
  refine yI.mono k1 fun u h2 k2 => ?_
  obtain ⟨rfl, I2⟩ := k2
  refine y_ic (pcT := 1188) (pc' := 1089) (P := t = t) g1086 rfl rfl rfl (fun _ => k h2 I2) (fun c => absurd rfl c)
theorem lw_c29 (I : Inv zl nl xs h) (hz : ∀ j, zr (xs j)) (hi : i + 6 ≤ zl) (hzl : zl ≤ 3072) (k : ∀ h2, Inv zl nl xs h2 → ZW 40 code 9 1188 [some (vR (some 0)), some (vR (some 32)), some (vR (some 137)), some (vI (i : Int))] [] h2 Q) : ZW 40 code 9 1091 [some (vR (some 0)), some (vR (some 32)), some (vR (some 137)), some (vI (i : Int))] [] h Q := by
  refine y_s (pc' := 1092) (L' := [some (vR (some 0)), some (vR (some 32)), some (vR (some 137)), some (vI (i : Int))]) (st' := [vR (some 32)]) (h' := h) g1091 rfl ?_
  refine lw_ld (k := 1) (ysS I.w) I.xss hi hzl (by decide) g1092 g1093 g1094 g1095 g1096 rfl ?_
  refine lw_ld (k := 2) (ysS I.w) I.xss hi hzl (by decide) g1097 g1098 g1099 g1100 g1101 rfl ?_
  refine y_cJ (pc' := 1105) (as := [vR (some 32), vI (xs (i + 1)), vI (xs (i + 2))]) (r := []) g1102 (yzv (rfl : zmth 9 138 = some (0, 124)) rfl (ys32 I.w) rfl rfl) (by decide) rfl ?_
  refine yJ.mono (yJ.lo (ap124 I (by decide))) fun t h1 k1 => ?_
  obtain ⟨k1, lo⟩ := k1
  refine y_s (pc' := 1106) (L' := [some (vR (some 0)), some (vR (some 32)), some (vR (some 137)), some (vI (i : Int))]) (st' := [vR (some 137), vJ t]) (h' := h1) g1105 rfl ?_
  refine lw_ld (k := 1) (lo_S lo I.w) (lo_V lo I.xss) hi hzl (by decide) g1106 g1107 g1108 g1109 g1110 rfl ?_
  refine lw_ld (k := 2) (lo_S lo I.w) (lo_V lo I.xss) hi hzl (by decide) g1111 g1112 g1113 g1114 g1115 rfl ?_
  refine y_cJ (pc' := 1119) (as := [vR (some 137), vI (xs (i + 1)), vI (xs (i + 2))]) (r := [vJ t]) g1116 (yzv (rfl : zmth 9 141 = some (0, 217)) rfl (lo_M lo I.w) rfl rfl) (by decide) rfl ?_
  refine yJ.mono k1 fun u h2 k2 => ?_
  obtain ⟨rfl, I2⟩ := k2
  refine y_s (pc' := 1120) (L' := [some (vR (some 0)), some (vR (some 32)), some (vR (some 137)), some (vI (i : Int))]) (st' := [vI (lg_cmp t t).toInt]) (h' := h2) g1119 rfl ?_
  refine y_ift (pcT := 1188) g1120 rfl (lg_cc t) (k h2 I2)
theorem lw_c30 (I : Inv zl nl xs h) (hz : ∀ j, zr (xs j)) (hi : i + 6 ≤ zl) (hzl : zl ≤ 3072) (k : ∀ h2, Inv zl nl xs h2 → ZW 40 code 9 1188 [some (vR (some 0)), some (vR (some 32)), some (vR (some 137)), some (vI (i : Int))] [] h2 Q) : ZW 40 code 9 1125 [some (vR (some 0)), some (vR (some 32)), some (vR (some 137)), some (vI (i : Int))] [] h Q := by
  refine y_s (pc' := 1126) (L' := [some (vR (some 0)), some (vR (some 32)), some (vR (some 137)), some (vI (i : Int))]) (st' := [vR (some 32)]) (h' := h) g1125 rfl ?_
  refine lw_ld (k := 1) (ysS I.w) I.xss hi hzl (by decide) g1126 g1127 g1128 g1129 g1130 rfl ?_
  refine lw_ld (k := 2) (ysS I.w) I.xss hi hzl (by decide) g1131 g1132 g1133 g1134 g1135 rfl ?_
  refine lw_ld (k := 3) (ysS I.w) I.xss hi hzl (by decide) g1136 g1137 g1138 g1139 g1140 rfl ?_
  refine lw_ld (k := 4) (ysS I.w) I.xss hi hzl (by decide) g1141 g1142 g1143 g1144 g1145 rfl ?_
  refine lw_ld (k := 5) (ysS I.w) I.xss hi hzl (by decide) g1146 g1147 g1148 g1149 g1150 rfl ?_
  refine y_cI (pc' := 1154) (as := [vR (some 32), vI (xs (i + 1)), vI (xs (i + 2)), vI (xs (i + 3)), vI (xs (i + 4)), vI (xs (i + 5))]) (r := []) g1151 (yzv (rfl : zmth 9 142 = some (0, 125)) rfl (ys32 I.w) rfl rfl) (by decide) rfl ?_
  refine yI.mono (yI.lo (ap125 I (by decide) (hz _) (hz _) (hz _))) fun t h1 k1 => ?_
  obtain ⟨k1, lo⟩ := k1
  refine y_s (pc' := 1155) (L' := [some (vR (some 0)), some (vR (some 32)), some (vR (some 137)), some (vI (i : Int))]) (st' := [vR (some 137), vI t]) (h' := h1) g1154 rfl ?_
  refine lw_ld (k := 1) (lo_S lo I.w) (lo_V lo I.xss) hi hzl (by decide) g1155 g1156 g1157 g1158 g1159 rfl ?_
  refine lw_ld (k := 2) (lo_S lo I.w) (lo_V lo I.xss) hi hzl (by decide) g1160 g1161 g1162 g1163 g1164 rfl ?_
  refine lw_ld (k := 3) (lo_S lo I.w) (lo_V lo I.xss) hi hzl (by decide) g1165 g1166 g1167 g1168 g1169 rfl ?_
  refine lw_ld (k := 4) (lo_S lo I.w) (lo_V lo I.xss) hi hzl (by decide) g1170 g1171 g1172 g1173 g1174 rfl ?_
  refine lw_ld (k := 5) (lo_S lo I.w) (lo_V lo I.xss) hi hzl (by decide) g1175 g1176 g1177 g1178 g1179 rfl ?_
  refine y_cI (pc' := 1183) (as := [vR (some 137), vI (xs (i + 1)), vI (xs (i + 2)), vI (xs (i + 3)), vI (xs (i + 4)), vI (xs (i + 5))]) (r := [vI t]) g1180 (yzv (rfl : zmth 9 146 = some (0, 218)) rfl (lo_M lo I.w) rfl rfl) (by decide) rfl ?_
  refine yI.mono k1 fun u h2 k2 => ?_
  obtain ⟨rfl, I2⟩ := k2
  refine y_ic (pcT := 1188) (pc' := 1186) (P := t = t) g1183 rfl rfl rfl (fun _ => k h2 I2) (fun c => absurd rfl c)
end LWL
