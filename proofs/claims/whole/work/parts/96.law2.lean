/-! the law's own code, on -/
theorem d_law_514 : decode code 514 = .ok (.if_icmp .eq 604, 3) := by decide +kernel
theorem d_law_517 : decode code 517 = .ok (.iconst 0, 1) := by decide +kernel
theorem d_law_518 : decode code 518 = .ok (.ireturn, 1) := by decide +kernel
theorem d_law_519 : decode code 519 = .ok (.aload_n 1, 1) := by decide +kernel
theorem a_520 : qA 520 1 := by decide +kernel
theorem a_525 : qA 525 2 := by decide +kernel
theorem a_530 : qA 530 3 := by decide +kernel
theorem d_law_535 : decode code 535 = .ok (.invokevirtual 62, 3) := by decide +kernel
theorem d_law_538 : decode code 538 = .ok (.aload_n 2, 1) := by decide +kernel
theorem a_539 : qA 539 1 := by decide +kernel
theorem a_544 : qA 544 2 := by decide +kernel
theorem a_549 : qA 549 3 := by decide +kernel
theorem d_law_554 : decode code 554 = .ok (.invokevirtual 65, 3) := by decide +kernel
theorem d_law_557 : decode code 557 = .ok (.if_icmp .eq 561, 3) := by decide +kernel
theorem d_law_560 : decode code 560 = .ok (.iconst 0, 1) := by decide +kernel
theorem d_law_561 : decode code 561 = .ok (.ireturn, 1) := by decide +kernel
theorem d_law_562 : decode code 562 = .ok (.aload_n 1, 1) := by decide +kernel
theorem a_563 : qA 563 1 := by decide +kernel
theorem a_568 : qA 568 2 := by decide +kernel
theorem a_573 : qA 573 3 := by decide +kernel
theorem d_law_578 : decode code 578 = .ok (.invokevirtual 66, 3) := by decide +kernel
theorem d_law_581 : decode code 581 = .ok (.aload_n 2, 1) := by decide +kernel
theorem a_582 : qA 582 1 := by decide +kernel
theorem a_587 : qA 587 2 := by decide +kernel
theorem a_592 : qA 592 3 := by decide +kernel
theorem d_law_597 : decode code 597 = .ok (.invokevirtual 69, 3) := by decide +kernel
theorem d_law_600 : decode code 600 = .ok (.if_icmp .eq 518, 3) := by decide +kernel
theorem d_law_603 : decode code 603 = .ok (.iconst 0, 1) := by decide +kernel
theorem d_law_604 : decode code 604 = .ok (.ireturn, 1) := by decide +kernel
theorem d_law_605 : decode code 605 = .ok (.aload_n 1, 1) := by decide +kernel
theorem a_606 : qA 606 1 := by decide +kernel
theorem d_law_611 : decode code 611 = .ok (.invokevirtual 70, 3) := by decide +kernel
theorem d_law_614 : decode code 614 = .ok (.aload_n 2, 1) := by decide +kernel
theorem a_615 : qA 615 1 := by decide +kernel
theorem d_law_620 : decode code 620 = .ok (.invokevirtual 73, 3) := by decide +kernel
theorem d_law_623 : decode code 623 = .ok (.if_icmp .eq 495, 3) := by decide +kernel
theorem d_law_626 : decode code 626 = .ok (.iconst 0, 1) := by decide +kernel
theorem d_law_627 : decode code 627 = .ok (.ireturn, 1) := by decide +kernel
theorem d_law_628 : decode code 628 = .ok (.aload_n 1, 1) := by decide +kernel
theorem a_629 : qA 629 1 := by decide +kernel
theorem d_law_634 : decode code 634 = .ok (.invokevirtual 74, 3) := by decide +kernel
theorem d_law_637 : decode code 637 = .ok (.aload_n 2, 1) := by decide +kernel
theorem a_638 : qA 638 1 := by decide +kernel
theorem d_law_643 : decode code 643 = .ok (.invokevirtual 77, 3) := by decide +kernel
theorem d_law_646 : decode code 646 = .ok (.if_icmp .eq 472, 3) := by decide +kernel
theorem d_law_649 : decode code 649 = .ok (.iconst 0, 1) := by decide +kernel
theorem d_law_650 : decode code 650 = .ok (.ireturn, 1) := by decide +kernel
theorem d_law_651 : decode code 651 = .ok (.aload_n 1, 1) := by decide +kernel
theorem a_652 : qA 652 1 := by decide +kernel
theorem a_657 : qA 657 2 := by decide +kernel
theorem a_662 : qA 662 3 := by decide +kernel
theorem d_law_667 : decode code 667 = .ok (.invokevirtual 78, 3) := by decide +kernel
theorem d_law_670 : decode code 670 = .ok (.aload_n 2, 1) := by decide +kernel
theorem a_671 : qA 671 1 := by decide +kernel
theorem a_676 : qA 676 2 := by decide +kernel
theorem a_681 : qA 681 3 := by decide +kernel
theorem d_law_686 : decode code 686 = .ok (.invokevirtual 81, 3) := by decide +kernel
theorem d_law_689 : decode code 689 = .ok (.if_icmp .eq 429, 3) := by decide +kernel
theorem d_law_692 : decode code 692 = .ok (.iconst 0, 1) := by decide +kernel
theorem d_law_693 : decode code 693 = .ok (.ireturn, 1) := by decide +kernel
theorem d_law_694 : decode code 694 = .ok (.aload_n 1, 1) := by decide +kernel
theorem a_695 : qA 695 1 := by decide +kernel
theorem d_law_700 : decode code 700 = .ok (.invokevirtual 82, 3) := by decide +kernel
theorem d_law_703 : decode code 703 = .ok (.aload_n 2, 1) := by decide +kernel
theorem a_704 : qA 704 1 := by decide +kernel
theorem d_law_709 : decode code 709 = .ok (.invokevirtual 85, 3) := by decide +kernel
theorem d_law_712 : decode code 712 = .ok (.if_icmp .eq 406, 3) := by decide +kernel
theorem d_law_715 : decode code 715 = .ok (.iconst 0, 1) := by decide +kernel
theorem d_law_716 : decode code 716 = .ok (.ireturn, 1) := by decide +kernel
theorem d_law_717 : decode code 717 = .ok (.aload_n 1, 1) := by decide +kernel
