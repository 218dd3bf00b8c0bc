/-! the law's own code, on -/
theorem d_law_296 : decode code 296 = .ok (.if_icmp .eq 822, 3) := by decide +kernel
theorem d_law_299 : decode code 299 = .ok (.iconst 0, 1) := by decide +kernel
theorem d_law_300 : decode code 300 = .ok (.ireturn, 1) := by decide +kernel
theorem d_law_301 : decode code 301 = .ok (.aload_n 1, 1) := by decide +kernel
theorem a_302 : qA 302 1 := by decide +kernel
theorem d_law_307 : decode code 307 = .ok (.invokevirtual 37, 3) := by decide +kernel
theorem d_law_310 : decode code 310 = .ok (.aload_n 2, 1) := by decide +kernel
theorem a_311 : qA 311 1 := by decide +kernel
theorem d_law_316 : decode code 316 = .ok (.invokevirtual 40, 3) := by decide +kernel
theorem d_law_319 : decode code 319 = .ok (.if_icmp .eq 799, 3) := by decide +kernel
theorem d_law_322 : decode code 322 = .ok (.iconst 0, 1) := by decide +kernel
theorem d_law_323 : decode code 323 = .ok (.ireturn, 1) := by decide +kernel
theorem d_law_324 : decode code 324 = .ok (.aload_n 1, 1) := by decide +kernel
theorem a_325 : qA 325 1 := by decide +kernel
theorem d_law_330 : decode code 330 = .ok (.invokevirtual 41, 3) := by decide +kernel
theorem d_law_333 : decode code 333 = .ok (.aload_n 2, 1) := by decide +kernel
theorem a_334 : qA 334 1 := by decide +kernel
theorem d_law_339 : decode code 339 = .ok (.invokevirtual 44, 3) := by decide +kernel
theorem d_law_342 : decode code 342 = .ok (.if_icmp .eq 776, 3) := by decide +kernel
theorem d_law_345 : decode code 345 = .ok (.iconst 0, 1) := by decide +kernel
theorem d_law_346 : decode code 346 = .ok (.ireturn, 1) := by decide +kernel
theorem d_law_347 : decode code 347 = .ok (.aload_n 1, 1) := by decide +kernel
theorem a_348 : qA 348 1 := by decide +kernel
theorem a_353 : qA 353 2 := by decide +kernel
theorem a_358 : qA 358 3 := by decide +kernel
theorem d_law_363 : decode code 363 = .ok (.invokevirtual 45, 3) := by decide +kernel
theorem d_law_366 : decode code 366 = .ok (.aload_n 2, 1) := by decide +kernel
theorem a_367 : qA 367 1 := by decide +kernel
theorem a_372 : qA 372 2 := by decide +kernel
theorem a_377 : qA 377 3 := by decide +kernel
theorem d_law_382 : decode code 382 = .ok (.invokevirtual 48, 3) := by decide +kernel
theorem d_law_385 : decode code 385 = .ok (.if_icmp .eq 733, 3) := by decide +kernel
theorem d_law_388 : decode code 388 = .ok (.iconst 0, 1) := by decide +kernel
theorem d_law_389 : decode code 389 = .ok (.ireturn, 1) := by decide +kernel
theorem d_law_390 : decode code 390 = .ok (.aload_n 1, 1) := by decide +kernel
theorem a_391 : qA 391 1 := by decide +kernel
theorem a_396 : qA 396 2 := by decide +kernel
theorem a_401 : qA 401 3 := by decide +kernel
theorem a_406 : qA 406 4 := by decide +kernel
theorem d_law_411 : decode code 411 = .ok (.invokevirtual 49, 3) := by decide +kernel
theorem d_law_414 : decode code 414 = .ok (.aload_n 2, 1) := by decide +kernel
theorem a_415 : qA 415 1 := by decide +kernel
theorem a_420 : qA 420 2 := by decide +kernel
theorem a_425 : qA 425 3 := by decide +kernel
theorem a_430 : qA 430 4 := by decide +kernel
theorem d_law_435 : decode code 435 = .ok (.invokevirtual 53, 3) := by decide +kernel
theorem d_law_438 : decode code 438 = .ok (.if_icmp .eq 680, 3) := by decide +kernel
theorem d_law_441 : decode code 441 = .ok (.iconst 0, 1) := by decide +kernel
theorem d_law_442 : decode code 442 = .ok (.ireturn, 1) := by decide +kernel
theorem d_law_443 : decode code 443 = .ok (.aload_n 1, 1) := by decide +kernel
theorem a_444 : qA 444 1 := by decide +kernel
theorem a_449 : qA 449 2 := by decide +kernel
theorem d_law_454 : decode code 454 = .ok (.invokevirtual 54, 3) := by decide +kernel
theorem d_law_457 : decode code 457 = .ok (.aload_n 2, 1) := by decide +kernel
theorem a_458 : qA 458 1 := by decide +kernel
theorem a_463 : qA 463 2 := by decide +kernel
theorem d_law_468 : decode code 468 = .ok (.invokevirtual 57, 3) := by decide +kernel
theorem d_law_471 : decode code 471 = .ok (.if_icmp .eq 647, 3) := by decide +kernel
theorem d_law_474 : decode code 474 = .ok (.iconst 0, 1) := by decide +kernel
theorem d_law_475 : decode code 475 = .ok (.ireturn, 1) := by decide +kernel
theorem d_law_476 : decode code 476 = .ok (.aload_n 1, 1) := by decide +kernel
theorem a_477 : qA 477 1 := by decide +kernel
theorem a_482 : qA 482 2 := by decide +kernel
theorem a_487 : qA 487 3 := by decide +kernel
theorem d_law_492 : decode code 492 = .ok (.invokevirtual 58, 3) := by decide +kernel
theorem d_law_495 : decode code 495 = .ok (.aload_n 2, 1) := by decide +kernel
theorem a_496 : qA 496 1 := by decide +kernel
theorem a_501 : qA 501 2 := by decide +kernel
theorem a_506 : qA 506 3 := by decide +kernel
theorem d_law_511 : decode code 511 = .ok (.invokevirtual 61, 3) := by decide +kernel
