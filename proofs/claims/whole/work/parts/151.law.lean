theorem svV_X9_limit : SV RX9 yX9_limit cX9_limit 2 (some .int) 1 := ⟨kw517, kw518, kw1, kw519, rfl, by decide, by decide, by decide +kernel⟩
theorem svV_X9_limits : SV RX9 yX9_limits cX9_limits 1 (some .int) 0 := ⟨kw522, kw523, kw1, kw524, rfl, by decide, by decide, by decide +kernel⟩
theorem svV_X10_limits : SV RX10 yX10_limits cX10_limits 2 (some .int) 0 := ⟨kw1410, kw1411, kw16, kw1412, rfl, by decide, by decide, by decide +kernel⟩
theorem svV_X9_ties : SV RX9 yX9_ties cX9_ties 2 (some .int) 1 := ⟨kw530, kw531, kw1, kw532, rfl, by decide, by decide, by decide +kernel⟩
theorem svV_X9_of : SV RX9 yX9_of cX9_of 3 (some .int) 2 := ⟨kw535, kw536, kw1, kw537, rfl, by decide, by decide, by decide +kernel⟩
theorem svV_X10_of : SV RX10 yX10_of cX10_of 3 (some .int) 2 := ⟨kw1418, kw1419, kw16, kw1420, rfl, by decide, by decide, by decide +kernel⟩
theorem svV_X9_ruleOf : SV RX9 yX9_ruleOf cX9_ruleOf 3 (some .int) 2 := ⟨kw580, kw581, kw1, kw582, rfl, by decide, by decide, by decide +kernel⟩
theorem svV_X10_ruleOf : SV RX10 yX10_ruleOf cX10_ruleOf 3 (some .int) 2 := ⟨kw1436, kw1437, kw16, kw1438, rfl, by decide, by decide, by decide +kernel⟩
theorem svV_X9_under : SV RX9 yX9_under cX9_under 3 (some .int) 2 := ⟨kw598, kw599, kw1, kw600, rfl, by decide, by decide, by decide +kernel⟩
theorem svV_X10_under : SV RX10 yX10_under cX10_under 3 (some .int) 2 := ⟨kw1443, kw1444, kw16, kw1445, rfl, by decide, by decide, by decide +kernel⟩
theorem svV_X9_pairs : SV RX9 yX9_pairs cX9_pairs 2 (some .int) 1 := ⟨kw604, kw605, kw1, kw606, rfl, by decide, by decide, by decide +kernel⟩
theorem svV_X10_pairs : SV RX10 yX10_pairs cX10_pairs 5 (some .int) 1 := ⟨kw1447, kw1448, kw16, kw1449, rfl, by decide, by decide, by decide +kernel⟩
theorem svV_X9_line : SV RX9 yX9_line cX9_line 5 (some .long) 3 := ⟨kw647, kw648, kw1, kw649, rfl, by decide, by decide, by decide +kernel⟩
theorem svV_X10_line : SV RX10 yX10_line cX10_line 4 (some .long) 3 := ⟨kw1461, kw1462, kw16, kw1463, rfl, by decide, by decide, by decide +kernel⟩
theorem svV_X9_block : SV RX9 yX9_block cX9_block 3 (some .int) 2 := ⟨kw782, kw783, kw1, kw784, rfl, by decide, by decide, by decide +kernel⟩
theorem svV_X10_block : SV RX10 yX10_block cX10_block 3 (some .int) 2 := ⟨kw1523, kw1524, kw16, kw1525, rfl, by decide, by decide, by decide +kernel⟩
theorem dL_law_473 : decode cL_law 473 = .ok (.aload_n 1, 1) := by decide +kernel
theorem dL_law_474 : decode cL_law 474 = .ok (.aload_n 0, 1) := by decide +kernel
theorem dL_law_475 : decode cL_law 475 = .ok (.iload_n 3, 1) := by decide +kernel
theorem dL_law_476 : decode cL_law 476 = .ok (.iconst 1, 1) := by decide +kernel
theorem dL_law_477 : decode cL_law 477 = .ok (.iadd, 1) := by decide +kernel
theorem dL_law_478 : decode cL_law 478 = .ok (.iaload, 1) := by decide +kernel
theorem dL_law_479 : decode cL_law 479 = .ok (.invokevirtual 53, 3) := by decide +kernel
theorem dL_law_482 : decode cL_law 482 = .ok (.aload_n 2, 1) := by decide +kernel
theorem dL_law_483 : decode cL_law 483 = .ok (.aload_n 0, 1) := by decide +kernel
theorem dL_law_484 : decode cL_law 484 = .ok (.iload_n 3, 1) := by decide +kernel
theorem dL_law_485 : decode cL_law 485 = .ok (.iconst 1, 1) := by decide +kernel
theorem dL_law_486 : decode cL_law 486 = .ok (.iadd, 1) := by decide +kernel
theorem dL_law_487 : decode cL_law 487 = .ok (.iaload, 1) := by decide +kernel
theorem dL_law_488 : decode cL_law 488 = .ok (.invokevirtual 56, 3) := by decide +kernel
theorem dL_law_491 : decode cL_law 491 = .ok (.if_icmp .eq 1038, 3) := by decide +kernel
theorem dL_law_496 : decode cL_law 496 = .ok (.aload_n 1, 1) := by decide +kernel
theorem dL_law_497 : decode cL_law 497 = .ok (.invokevirtual 57, 3) := by decide +kernel
theorem dL_law_500 : decode cL_law 500 = .ok (.aload_n 2, 1) := by decide +kernel
theorem dL_law_501 : decode cL_law 501 = .ok (.invokevirtual 60, 3) := by decide +kernel
theorem dL_law_504 : decode cL_law 504 = .ok (.if_icmp .eq 1025, 3) := by decide +kernel
theorem dL_law_509 : decode cL_law 509 = .ok (.aload_n 1, 1) := by decide +kernel
theorem dL_law_510 : decode cL_law 510 = .ok (.aload_n 0, 1) := by decide +kernel
theorem dL_law_511 : decode cL_law 511 = .ok (.iload_n 3, 1) := by decide +kernel
theorem dL_law_512 : decode cL_law 512 = .ok (.iconst 1, 1) := by decide +kernel
theorem dL_law_513 : decode cL_law 513 = .ok (.iadd, 1) := by decide +kernel
theorem dL_law_514 : decode cL_law 514 = .ok (.iaload, 1) := by decide +kernel
theorem dL_law_515 : decode cL_law 515 = .ok (.invokevirtual 61, 3) := by decide +kernel
theorem dL_law_518 : decode cL_law 518 = .ok (.aload_n 2, 1) := by decide +kernel
theorem dL_law_519 : decode cL_law 519 = .ok (.aload_n 0, 1) := by decide +kernel
theorem dL_law_520 : decode cL_law 520 = .ok (.iload_n 3, 1) := by decide +kernel
theorem dL_law_521 : decode cL_law 521 = .ok (.iconst 1, 1) := by decide +kernel
theorem dL_law_522 : decode cL_law 522 = .ok (.iadd, 1) := by decide +kernel
theorem dL_law_523 : decode cL_law 523 = .ok (.iaload, 1) := by decide +kernel
theorem dL_law_524 : decode cL_law 524 = .ok (.invokevirtual 64, 3) := by decide +kernel
theorem dL_law_527 : decode cL_law 527 = .ok (.if_icmp .eq 1002, 3) := by decide +kernel
theorem dL_law_532 : decode cL_law 532 = .ok (.aload_n 1, 1) := by decide +kernel
theorem dL_law_533 : decode cL_law 533 = .ok (.aload_n 0, 1) := by decide +kernel
theorem dL_law_534 : decode cL_law 534 = .ok (.iload_n 3, 1) := by decide +kernel
theorem dL_law_535 : decode cL_law 535 = .ok (.iconst 1, 1) := by decide +kernel
theorem dL_law_536 : decode cL_law 536 = .ok (.iadd, 1) := by decide +kernel
theorem dL_law_537 : decode cL_law 537 = .ok (.iaload, 1) := by decide +kernel
theorem dL_law_538 : decode cL_law 538 = .ok (.aload_n 0, 1) := by decide +kernel
theorem dL_law_539 : decode cL_law 539 = .ok (.iload_n 3, 1) := by decide +kernel
theorem dL_law_540 : decode cL_law 540 = .ok (.iconst 2, 1) := by decide +kernel
theorem dL_law_541 : decode cL_law 541 = .ok (.iadd, 1) := by decide +kernel
theorem dL_law_542 : decode cL_law 542 = .ok (.iaload, 1) := by decide +kernel
theorem dL_law_543 : decode cL_law 543 = .ok (.invokevirtual 65, 3) := by decide +kernel
theorem dL_law_546 : decode cL_law 546 = .ok (.aload_n 2, 1) := by decide +kernel
theorem dL_law_547 : decode cL_law 547 = .ok (.aload_n 0, 1) := by decide +kernel
theorem dL_law_548 : decode cL_law 548 = .ok (.iload_n 3, 1) := by decide +kernel
theorem dL_law_549 : decode cL_law 549 = .ok (.iconst 1, 1) := by decide +kernel
theorem dL_law_550 : decode cL_law 550 = .ok (.iadd, 1) := by decide +kernel
theorem dL_law_551 : decode cL_law 551 = .ok (.iaload, 1) := by decide +kernel
theorem dL_law_552 : decode cL_law 552 = .ok (.aload_n 0, 1) := by decide +kernel
theorem dL_law_553 : decode cL_law 553 = .ok (.iload_n 3, 1) := by decide +kernel
theorem dL_law_554 : decode cL_law 554 = .ok (.iconst 2, 1) := by decide +kernel
theorem dL_law_555 : decode cL_law 555 = .ok (.iadd, 1) := by decide +kernel
theorem dL_law_556 : decode cL_law 556 = .ok (.iaload, 1) := by decide +kernel
theorem dL_law_557 : decode cL_law 557 = .ok (.invokevirtual 68, 3) := by decide +kernel
theorem dL_law_560 : decode cL_law 560 = .ok (.if_icmp .eq 969, 3) := by decide +kernel
theorem dL_law_565 : decode cL_law 565 = .ok (.aload_n 1, 1) := by decide +kernel
theorem dL_law_566 : decode cL_law 566 = .ok (.aload_n 0, 1) := by decide +kernel
theorem dL_law_567 : decode cL_law 567 = .ok (.iload_n 3, 1) := by decide +kernel
theorem dL_law_568 : decode cL_law 568 = .ok (.iconst 1, 1) := by decide +kernel
theorem dL_law_569 : decode cL_law 569 = .ok (.iadd, 1) := by decide +kernel
theorem dL_law_570 : decode cL_law 570 = .ok (.iaload, 1) := by decide +kernel
theorem dL_law_571 : decode cL_law 571 = .ok (.aload_n 0, 1) := by decide +kernel
theorem dL_law_572 : decode cL_law 572 = .ok (.iload_n 3, 1) := by decide +kernel
theorem dL_law_573 : decode cL_law 573 = .ok (.iconst 2, 1) := by decide +kernel
theorem dL_law_574 : decode cL_law 574 = .ok (.iadd, 1) := by decide +kernel
theorem dL_law_575 : decode cL_law 575 = .ok (.iaload, 1) := by decide +kernel
theorem dL_law_576 : decode cL_law 576 = .ok (.invokevirtual 69, 3) := by decide +kernel
theorem dL_law_579 : decode cL_law 579 = .ok (.aload_n 2, 1) := by decide +kernel
theorem dL_law_580 : decode cL_law 580 = .ok (.aload_n 0, 1) := by decide +kernel
theorem dL_law_581 : decode cL_law 581 = .ok (.iload_n 3, 1) := by decide +kernel
theorem dL_law_582 : decode cL_law 582 = .ok (.iconst 1, 1) := by decide +kernel
theorem dL_law_583 : decode cL_law 583 = .ok (.iadd, 1) := by decide +kernel
theorem dL_law_584 : decode cL_law 584 = .ok (.iaload, 1) := by decide +kernel
theorem dL_law_585 : decode cL_law 585 = .ok (.aload_n 0, 1) := by decide +kernel
theorem dL_law_586 : decode cL_law 586 = .ok (.iload_n 3, 1) := by decide +kernel
theorem dL_law_587 : decode cL_law 587 = .ok (.iconst 2, 1) := by decide +kernel
theorem dL_law_588 : decode cL_law 588 = .ok (.iadd, 1) := by decide +kernel
theorem dL_law_589 : decode cL_law 589 = .ok (.iaload, 1) := by decide +kernel
theorem dL_law_590 : decode cL_law 590 = .ok (.invokevirtual 72, 3) := by decide +kernel
theorem dL_law_593 : decode cL_law 593 = .ok (.if_icmp .eq 936, 3) := by decide +kernel
theorem dL_law_598 : decode cL_law 598 = .ok (.aload_n 1, 1) := by decide +kernel
theorem dL_law_599 : decode cL_law 599 = .ok (.aload_n 0, 1) := by decide +kernel
theorem dL_law_600 : decode cL_law 600 = .ok (.iload_n 3, 1) := by decide +kernel
theorem dL_law_601 : decode cL_law 601 = .ok (.iconst 1, 1) := by decide +kernel
theorem dL_law_602 : decode cL_law 602 = .ok (.iadd, 1) := by decide +kernel
theorem dL_law_603 : decode cL_law 603 = .ok (.iaload, 1) := by decide +kernel
theorem dL_law_604 : decode cL_law 604 = .ok (.aload_n 0, 1) := by decide +kernel
theorem dL_law_605 : decode cL_law 605 = .ok (.iload_n 3, 1) := by decide +kernel
theorem dL_law_606 : decode cL_law 606 = .ok (.iconst 2, 1) := by decide +kernel
theorem dL_law_607 : decode cL_law 607 = .ok (.iadd, 1) := by decide +kernel
theorem dL_law_608 : decode cL_law 608 = .ok (.iaload, 1) := by decide +kernel
theorem dL_law_609 : decode cL_law 609 = .ok (.invokevirtual 73, 3) := by decide +kernel
theorem dL_law_612 : decode cL_law 612 = .ok (.aload_n 2, 1) := by decide +kernel
theorem dL_law_613 : decode cL_law 613 = .ok (.aload_n 0, 1) := by decide +kernel
theorem dL_law_614 : decode cL_law 614 = .ok (.iload_n 3, 1) := by decide +kernel
theorem dL_law_615 : decode cL_law 615 = .ok (.iconst 1, 1) := by decide +kernel
theorem dL_law_616 : decode cL_law 616 = .ok (.iadd, 1) := by decide +kernel
theorem dL_law_617 : decode cL_law 617 = .ok (.iaload, 1) := by decide +kernel
theorem dL_law_618 : decode cL_law 618 = .ok (.aload_n 0, 1) := by decide +kernel
theorem dL_law_619 : decode cL_law 619 = .ok (.iload_n 3, 1) := by decide +kernel
theorem dL_law_620 : decode cL_law 620 = .ok (.iconst 2, 1) := by decide +kernel
theorem dL_law_621 : decode cL_law 621 = .ok (.iadd, 1) := by decide +kernel
theorem dL_law_622 : decode cL_law 622 = .ok (.iaload, 1) := by decide +kernel
theorem dL_law_623 : decode cL_law 623 = .ok (.invokevirtual 76, 3) := by decide +kernel
theorem dL_law_626 : decode cL_law 626 = .ok (.if_icmp .eq 903, 3) := by decide +kernel
theorem dL_law_631 : decode cL_law 631 = .ok (.aload_n 1, 1) := by decide +kernel
theorem dL_law_632 : decode cL_law 632 = .ok (.aload_n 0, 1) := by decide +kernel
theorem dL_law_633 : decode cL_law 633 = .ok (.iload_n 3, 1) := by decide +kernel
theorem dL_law_634 : decode cL_law 634 = .ok (.iconst 1, 1) := by decide +kernel
theorem dL_law_635 : decode cL_law 635 = .ok (.iadd, 1) := by decide +kernel
theorem dL_law_636 : decode cL_law 636 = .ok (.iaload, 1) := by decide +kernel
theorem dL_law_637 : decode cL_law 637 = .ok (.invokevirtual 77, 3) := by decide +kernel
theorem dL_law_640 : decode cL_law 640 = .ok (.aload_n 2, 1) := by decide +kernel
theorem dL_law_641 : decode cL_law 641 = .ok (.aload_n 0, 1) := by decide +kernel
theorem dL_law_642 : decode cL_law 642 = .ok (.iload_n 3, 1) := by decide +kernel
theorem dL_law_643 : decode cL_law 643 = .ok (.iconst 1, 1) := by decide +kernel
theorem dL_law_644 : decode cL_law 644 = .ok (.iadd, 1) := by decide +kernel
theorem dL_law_645 : decode cL_law 645 = .ok (.iaload, 1) := by decide +kernel
theorem dL_law_646 : decode cL_law 646 = .ok (.invokevirtual 80, 3) := by decide +kernel
theorem dL_law_649 : decode cL_law 649 = .ok (.if_icmp .eq 880, 3) := by decide +kernel
theorem dL_law_654 : decode cL_law 654 = .ok (.aload_n 1, 1) := by decide +kernel
theorem dL_law_655 : decode cL_law 655 = .ok (.aload_n 0, 1) := by decide +kernel
theorem dL_law_656 : decode cL_law 656 = .ok (.iload_n 3, 1) := by decide +kernel
theorem dL_law_657 : decode cL_law 657 = .ok (.iconst 1, 1) := by decide +kernel
theorem dL_law_658 : decode cL_law 658 = .ok (.iadd, 1) := by decide +kernel
theorem dL_law_659 : decode cL_law 659 = .ok (.iaload, 1) := by decide +kernel
theorem dL_law_660 : decode cL_law 660 = .ok (.aload_n 0, 1) := by decide +kernel
theorem dL_law_661 : decode cL_law 661 = .ok (.iload_n 3, 1) := by decide +kernel
theorem dL_law_662 : decode cL_law 662 = .ok (.iconst 2, 1) := by decide +kernel
theorem dL_law_663 : decode cL_law 663 = .ok (.iadd, 1) := by decide +kernel
theorem dL_law_664 : decode cL_law 664 = .ok (.iaload, 1) := by decide +kernel
theorem dL_law_665 : decode cL_law 665 = .ok (.aload_n 0, 1) := by decide +kernel
theorem dL_law_666 : decode cL_law 666 = .ok (.iload_n 3, 1) := by decide +kernel
theorem dL_law_667 : decode cL_law 667 = .ok (.iconst 3, 1) := by decide +kernel
theorem dL_law_668 : decode cL_law 668 = .ok (.iadd, 1) := by decide +kernel
theorem dL_law_669 : decode cL_law 669 = .ok (.iaload, 1) := by decide +kernel
theorem dL_law_670 : decode cL_law 670 = .ok (.invokevirtual 81, 3) := by decide +kernel
theorem dL_law_673 : decode cL_law 673 = .ok (.aload_n 2, 1) := by decide +kernel
theorem dL_law_674 : decode cL_law 674 = .ok (.aload_n 0, 1) := by decide +kernel
theorem dL_law_675 : decode cL_law 675 = .ok (.iload_n 3, 1) := by decide +kernel
theorem dL_law_676 : decode cL_law 676 = .ok (.iconst 1, 1) := by decide +kernel
theorem dL_law_677 : decode cL_law 677 = .ok (.iadd, 1) := by decide +kernel
theorem dL_law_678 : decode cL_law 678 = .ok (.iaload, 1) := by decide +kernel
theorem dL_law_679 : decode cL_law 679 = .ok (.aload_n 0, 1) := by decide +kernel
theorem dL_law_680 : decode cL_law 680 = .ok (.iload_n 3, 1) := by decide +kernel
theorem dL_law_681 : decode cL_law 681 = .ok (.iconst 2, 1) := by decide +kernel
theorem dL_law_682 : decode cL_law 682 = .ok (.iadd, 1) := by decide +kernel
theorem dL_law_683 : decode cL_law 683 = .ok (.iaload, 1) := by decide +kernel
theorem dL_law_684 : decode cL_law 684 = .ok (.aload_n 0, 1) := by decide +kernel
theorem dL_law_685 : decode cL_law 685 = .ok (.iload_n 3, 1) := by decide +kernel
theorem dL_law_686 : decode cL_law 686 = .ok (.iconst 3, 1) := by decide +kernel
theorem dL_law_687 : decode cL_law 687 = .ok (.iadd, 1) := by decide +kernel
theorem dL_law_688 : decode cL_law 688 = .ok (.iaload, 1) := by decide +kernel
theorem dL_law_689 : decode cL_law 689 = .ok (.invokevirtual 85, 3) := by decide +kernel
theorem dL_law_692 : decode cL_law 692 = .ok (.lcmp, 1) := by decide +kernel
theorem dL_law_693 : decode cL_law 693 = .ok (.ifCond .eq 836, 3) := by decide +kernel
theorem dL_law_698 : decode cL_law 698 = .ok (.aload_n 1, 1) := by decide +kernel
theorem dL_law_699 : decode cL_law 699 = .ok (.aload_n 0, 1) := by decide +kernel
theorem dL_law_700 : decode cL_law 700 = .ok (.iload_n 3, 1) := by decide +kernel
theorem dL_law_701 : decode cL_law 701 = .ok (.iconst 1, 1) := by decide +kernel
theorem dL_law_702 : decode cL_law 702 = .ok (.iadd, 1) := by decide +kernel
theorem dL_law_703 : decode cL_law 703 = .ok (.iaload, 1) := by decide +kernel
theorem dL_law_704 : decode cL_law 704 = .ok (.aload_n 0, 1) := by decide +kernel
theorem dL_law_705 : decode cL_law 705 = .ok (.iload_n 3, 1) := by decide +kernel
theorem dL_law_706 : decode cL_law 706 = .ok (.iconst 2, 1) := by decide +kernel
theorem dL_law_707 : decode cL_law 707 = .ok (.iadd, 1) := by decide +kernel
theorem dL_law_708 : decode cL_law 708 = .ok (.iaload, 1) := by decide +kernel
theorem dL_law_709 : decode cL_law 709 = .ok (.invokevirtual 86, 3) := by decide +kernel
theorem dL_law_712 : decode cL_law 712 = .ok (.aload_n 2, 1) := by decide +kernel
theorem dL_law_713 : decode cL_law 713 = .ok (.aload_n 0, 1) := by decide +kernel
theorem dL_law_714 : decode cL_law 714 = .ok (.iload_n 3, 1) := by decide +kernel
theorem dL_law_715 : decode cL_law 715 = .ok (.iconst 1, 1) := by decide +kernel
theorem dL_law_716 : decode cL_law 716 = .ok (.iadd, 1) := by decide +kernel
theorem dL_law_717 : decode cL_law 717 = .ok (.iaload, 1) := by decide +kernel
theorem dL_law_718 : decode cL_law 718 = .ok (.aload_n 0, 1) := by decide +kernel
theorem dL_law_719 : decode cL_law 719 = .ok (.iload_n 3, 1) := by decide +kernel
theorem dL_law_720 : decode cL_law 720 = .ok (.iconst 2, 1) := by decide +kernel
theorem dL_law_721 : decode cL_law 721 = .ok (.iadd, 1) := by decide +kernel
theorem dL_law_722 : decode cL_law 722 = .ok (.iaload, 1) := by decide +kernel
theorem dL_law_723 : decode cL_law 723 = .ok (.invokevirtual 89, 3) := by decide +kernel
theorem dL_law_726 : decode cL_law 726 = .ok (.if_icmp .eq 803, 3) := by decide +kernel
/-- limit -/
abbrev OP_limit (Rel : T9 → T10 → Prop) : Prop := ∀ (s9 : T9) (s10 : T10) (p1 : Int32), Rel s9 s10 → ∃ u v, m_X9_limit s9 p1 = some u ∧ m_X10_limit s10 p1 = some v ∧ u.1 = v.1 ∧ Rel (st_X9_limit s9 u) (st_X10_limit s10 v)
set_option maxHeartbeats 4000000 in
set_option maxRecDepth 100000 in
theorem law_limit {p : Program} {e : Env} {s : State} {m : MethodId} {below : List Frame} {meth : Method} {c : Code} (l : Launch) (g : GG) (Rel : T9 → T10 → Prop) (hop : OP_limit Rel) {b L : Nat} {xs : Nat → Int32} (hL : L ≤ 2560) (hx : p.tables.exec = Jvm.exec) (hb : c.code = code) (hml : c.maxLocals = 4) (hown : s.vm.findClass RL = some m.cls) (hts : ∀ w ∈ G, w.before #[Value.ref b] s = true) (hX : va_X b L xs s s.heap) (hbl : b < s.heap.size) (hK : NK g s) (hE : SK g (fun q : Nat => s.heap.size ≤ q) s s.heap) (a0 a1 : Nat → Nat) (i : Nat) (hi : i + 5 ≤ L) (s9 : T9) (s10 : T10) (hR : Rel s9 s10) {H : Heap} {locs : List Loc} {ls : Array Slot} {cells slots : Nat} (hcl0 : cells + 24 ≤ 600000) (hsl0 : slots + 7200 ≤ 7302250) (hP : va_P g.1 vwCl (w9s a0 g s9 ++ w10s a1 g s10) H) (hD : va_D (fun q : Nat => s.heap.size ≤ q) (w9s a0 g s9 ++ w10s a1 g s10)) (hS : va_S (fun q : Nat => s.heap.size ≤ q) s.heap H locs) (hl : lv_has ls 4 [(3, .int (nI i)), (0, .ref b), (1, .ref (a0 0)), (2, .ref (a1 0))])
    (kk : ∀ (s9 : T9) (s10 : T10) (H : Heap) (locs : List Loc), Rel s9 s10 → va_P g.1 vwCl (w9s a0 g s9 ++ w10s a1 g s10) H → va_D (fun q : Nat => s.heap.size ≤ q) (w9s a0 g s9 ++ w10s a1 g s10) → va_S (fun q : Nat => s.heap.size ≤ q) s.heap H locs → W p l e room_1 s m #[Value.ref b] below meth c H locs (cells + 24) (slots + 7200) (lw_Z below #[Value.ref b] s) (F0 m 1529 ls [])) :
    W p l e room_1 s m #[Value.ref b] below meth c H locs cells slots (lw_Z below #[Value.ref b] s) (F0 m 473 ls []) := by
  have hA : ∀ q : Nat, s.heap.size ≤ q → (fun q : Nat => s.heap.size ≤ q) q := fun _ h => h
  have hbA : ¬ (fun q : Nat => s.heap.size ≤ q) b := Nat.not_le.mpr hbl
  have hcl : cells + 0 ≤ room_1.cells := by show cells + 0 ≤ 600000; omega
  have hsl : slots + 0 ≤ room_1.slots := by show slots + 0 ≤ 7302250; omega
  obtain ⟨u, v, hu, hv, he, hR⟩ := hop s9 s10 (xs (i + 1)) hR
  refine lv_aload_n hx hb dL_law_473 rfl (lv_at hl 2 rfl) ?_
  refine lv_aload_n hx hb dL_law_474 rfl (lv_at hl 1 rfl) ?_
  refine lv_iload_n hx hb dL_law_475 rfl (lv_at hl 0 rfl) ?_
  refine lv_iconst (v := 1) hx hb dL_law_476 (by decide) ?_
  refine lv_iadd hx hb dL_law_477 ?_
  refine nmI (nI_p i 1 (by decide)) ?_
  refine va_sld hx hb hX hbl hbA hS (vp_in_nI (show i + 1 < L by omega) (by omega)) dL_law_478 ?_
  refine nmI (z := xs (i + 1)) (by rw [nI_clamp (by omega)]) ?_
  refine cI hP hD hS hA hE (fun hPc hDc hSc => rV (As := [.int (xs (i + 1))]) (rest := []) hx hb hml hown hts hK (c_X9_limit l g a0 (p6_raws (p9_now s9)) (p6_kinds (p9_now s9)) (p6_figures (p9_now s9)) (p6_heavies (p9_now s9)) (p6_places (p9_now s9)) (p6_papers (p9_now s9)) (p6_lowers (p9_now s9)) (p6_uppers (p9_now s9)) (p6_rules (p9_now s9)) (p6_bounds (p9_now s9)) (p6_boundCount (p9_now s9)) (p6_tieWay (p9_now s9)) (p6_reached (p9_now s9)) (p6_raws (p9_kept s9)) (p6_kinds (p9_kept s9)) (p6_figures (p9_kept s9)) (p6_heavies (p9_kept s9)) (p6_places (p9_kept s9)) (p6_papers (p9_kept s9)) (p6_lowers (p9_kept s9)) (p6_uppers (p9_kept s9)) (p6_rules (p9_kept s9)) (p6_bounds (p9_kept s9)) (p6_boundCount (p9_kept s9)) (p6_tieWay (p9_kept s9)) (p6_reached (p9_kept s9)) (p6_raws (p9_spare s9)) (p6_kinds (p9_spare s9)) (p6_figures (p9_spare s9)) (p6_heavies (p9_spare s9)) (p6_places (p9_spare s9)) (p6_papers (p9_spare s9)) (p6_lowers (p9_spare s9)) (p6_uppers (p9_spare s9)) (p6_rules (p9_spare s9)) (p6_bounds (p9_spare s9)) (p6_boundCount (p9_spare s9)) (p6_tieWay (p9_spare s9)) (p6_reached (p9_spare s9)) (p9_isKept s9) (p3_signs (p9_letters s9)) (p3_numbers (p9_letters s9)) (p3_size (p9_letters s9)) (p3_at (p9_letters s9)) (p3_word (p9_letters s9)) (p9_told s9) (p9_toldCount s9) (p7_cells (p9_shelves s9)) (p7_sizes (p9_shelves s9)) (p7_made (p9_shelves s9)) (p9_refusals s9) (p5_overs (p9_order s9)) (p5_unders (p9_order s9)) (p5_marks (p9_order s9)) (p5_wrongs (p9_order s9)) (p5_papers (p9_order s9)) (p8_marks (p4_values (p9_standing s9))) (p8_weights (p4_values (p9_standing s9))) (p8_places (p4_values (p9_standing s9))) (p8_aboves (p4_values (p9_standing s9))) (p8_belows (p4_values (p9_standing s9))) (p1_above (p8_reduced (p4_values (p9_standing s9)))) (p1_below (p8_reduced (p4_values (p9_standing s9)))) (p8_papers (p4_values (p9_standing s9))) (p4_blocks (p9_standing s9)) (p4_tops (p9_standing s9)) (p4_bottoms (p9_standing s9)) (p4_blocksNow (p9_standing s9)) (p4_mergesDone (p9_standing s9)) (p4_loss (p9_standing s9)) (p8_marks (p0_values (p9_byRules s9))) (p8_weights (p0_values (p9_byRules s9))) (p8_places (p0_values (p9_byRules s9))) (p8_aboves (p0_values (p9_byRules s9))) (p8_belows (p0_values (p9_byRules s9))) (p1_above (p8_reduced (p0_values (p9_byRules s9)))) (p1_below (p8_reduced (p0_values (p9_byRules s9)))) (p8_papers (p0_values (p9_byRules s9))) (p5_overs (p0_order (p9_byRules s9))) (p5_unders (p0_order (p9_byRules s9))) (p5_marks (p0_order (p9_byRules s9))) (p5_wrongs (p0_order (p9_byRules s9))) (p5_papers (p0_order (p9_byRules s9))) (p0_sums (p9_byRules s9)) (p0_weighs (p9_byRules s9)) (p0_downs (p9_byRules s9)) (p1_above (p9_fraction s9)) (p1_below (p9_fraction s9)) (pSB_a (p9_said s9)) (pSB_m (p9_said s9)) (pSB_f (p9_said s9)) (pSB_l (p9_said s9)) (pSB_n (p9_said s9)) (xs (i + 1)) (by rw [hu]; exact Option.some_ne_none _)) svV_X9_limit kw516 rfl rfl hPc hDc hSc rfl rfl hl.1 (Nat.le_of_ble_eq_true rfl) dL_law_479 ⟨Nat.le_of_ble_eq_true rfl, Nat.le_of_ble_eq_true rfl, rfl, rfl, hcl, hsl⟩) [(0, 132)] rfl rfl rfl (fun _ => rfl) (fun w H locs ew nw hP hD hS => ?_)
  obtain rfl := Option.some.inj (hu.symm.trans ew)
  have hP : va_P g.1 vwCl (w9s a0 g (st_X9_limit s9 u) ++ w10s a1 g s10) H := hP
  have hD : va_D (fun q : Nat => s.heap.size ≤ q) (w9s a0 g (st_X9_limit s9 u) ++ w10s a1 g s10) := hD
  refine lv_aload_n hx hb dL_law_482 rfl (lv_at hl 3 rfl) ?_
  refine lv_aload_n hx hb dL_law_483 rfl (lv_at hl 1 rfl) ?_
  refine lv_iload_n hx hb dL_law_484 rfl (lv_at hl 0 rfl) ?_
  refine lv_iconst (v := 1) hx hb dL_law_485 (by decide) ?_
  refine lv_iadd hx hb dL_law_486 ?_
  refine nmI (nI_p i 1 (by decide)) ?_
  refine va_sld hx hb hX hbl hbA hS (vp_in_nI (show i + 1 < L by omega) (by omega)) dL_law_487 ?_
  refine nmI (z := xs (i + 1)) (by rw [nI_clamp (by omega)]) ?_
  refine cI hP hD hS hA hE (fun hPc hDc hSc => rV (As := [.int (xs (i + 1))]) (rest := [.int u.1]) hx hb hml hown hts hK (c_X10_limit l g a1 (p10_papers s10) (p10_raw s10) (p10_kind s10) (p10_figure s10) (p10_heavy s10) (p10_place s10) (p10_rules s10) (p10_lower s10) (p10_upper s10) (p10_limits s10) (p10_limit s10) (p10_ties s10) (p10_letter s10) (p10_letters s10) (p10_told s10) (p10_tolds s10) (p10_places s10) (p10_cell s10) (p10_refusals s10) (p10_imaged s10) (p10_hasImage s10) (p10_before s10) (p10_up s10) (p10_down s10) (p10_beneath s10) (p10_numberUp s10) (p10_numberDown s10) (p10_block s10) (p10_blocks s10) (p10_merged s10) (p10_valueUp s10) (p10_valueDown s10) (p10_said s10) (p10_saids s10) (p10_at s10) (p10_number s10) (xs (i + 1)) (by rw [hv]; exact Option.some_ne_none _)) svV_X10_limit kw1405 rfl rfl hPc hDc hSc rfl rfl hl.1 (Nat.le_of_ble_eq_true rfl) dL_law_488 ⟨Nat.le_of_ble_eq_true rfl, Nat.le_of_ble_eq_true rfl, rfl, rfl, hcl, hsl⟩) [(132, 22)] rfl rfl rfl (fun _ => rfl) (fun w H locs ew nw hP hD hS => ?_)
  obtain rfl := Option.some.inj (hv.symm.trans ew)
  have hP : va_P g.1 vwCl (w9s a0 g (st_X9_limit s9 u) ++ w10s a1 g (st_X10_limit s10 v)) H := hP
  have hD : va_D (fun q : Nat => s.heap.size ≤ q) (w9s a0 g (st_X9_limit s9 u) ++ w10s a1 g (st_X10_limit s10 v)) := hD
  refine lv_icmp_eq (tgt := 1529) hx hb dL_law_491 (by decide) (fun _ => ?_) (fun c => absurd he c)
  refine W.widen (k := cells + 24) (n := slots + 7200) (by omega) (by omega) ?_
  exact kk (st_X9_limit s9 u) (st_X10_limit s10 v) _ _ hR hP hD hS
/-- limits -/
abbrev OP_limits (Rel : T9 → T10 → Prop) : Prop := ∀ (s9 : T9) (s10 : T10), Rel s9 s10 → ∃ u v, m_X9_limits s9 = some u ∧ m_X10_limits s10 = some v ∧ u.1 = v.1 ∧ Rel (st_X9_limits s9 u) (st_X10_limits s10 v)
set_option maxHeartbeats 4000000 in
set_option maxRecDepth 100000 in
theorem law_limits {p : Program} {e : Env} {s : State} {m : MethodId} {below : List Frame} {meth : Method} {c : Code} (l : Launch) (g : GG) (Rel : T9 → T10 → Prop) (hop : OP_limits Rel) {b L : Nat} {xs : Nat → Int32} (hL : L ≤ 2560) (hx : p.tables.exec = Jvm.exec) (hb : c.code = code) (hml : c.maxLocals = 4) (hown : s.vm.findClass RL = some m.cls) (hts : ∀ w ∈ G, w.before #[Value.ref b] s = true) (hX : va_X b L xs s s.heap) (hbl : b < s.heap.size) (hK : NK g s) (hE : SK g (fun q : Nat => s.heap.size ≤ q) s s.heap) (a0 a1 : Nat → Nat) (i : Nat) (hi : i + 5 ≤ L) (s9 : T9) (s10 : T10) (hR : Rel s9 s10) {H : Heap} {locs : List Loc} {ls : Array Slot} {cells slots : Nat} (hcl0 : cells + 24 ≤ 600000) (hsl0 : slots + 7200 ≤ 7302250) (hP : va_P g.1 vwCl (w9s a0 g s9 ++ w10s a1 g s10) H) (hD : va_D (fun q : Nat => s.heap.size ≤ q) (w9s a0 g s9 ++ w10s a1 g s10)) (hS : va_S (fun q : Nat => s.heap.size ≤ q) s.heap H locs) (hl : lv_has ls 4 [(3, .int (nI i)), (0, .ref b), (1, .ref (a0 0)), (2, .ref (a1 0))])
    (kk : ∀ (s9 : T9) (s10 : T10) (H : Heap) (locs : List Loc), Rel s9 s10 → va_P g.1 vwCl (w9s a0 g s9 ++ w10s a1 g s10) H → va_D (fun q : Nat => s.heap.size ≤ q) (w9s a0 g s9 ++ w10s a1 g s10) → va_S (fun q : Nat => s.heap.size ≤ q) s.heap H locs → W p l e room_1 s m #[Value.ref b] below meth c H locs (cells + 24) (slots + 7200) (lw_Z below #[Value.ref b] s) (F0 m 1529 ls [])) :
    W p l e room_1 s m #[Value.ref b] below meth c H locs cells slots (lw_Z below #[Value.ref b] s) (F0 m 496 ls []) := by
  have hA : ∀ q : Nat, s.heap.size ≤ q → (fun q : Nat => s.heap.size ≤ q) q := fun _ h => h
  have hbA : ¬ (fun q : Nat => s.heap.size ≤ q) b := Nat.not_le.mpr hbl
  have hcl : cells + 0 ≤ room_1.cells := by show cells + 0 ≤ 600000; omega
  have hsl : slots + 0 ≤ room_1.slots := by show slots + 0 ≤ 7302250; omega
  obtain ⟨u, v, hu, hv, he, hR⟩ := hop s9 s10 hR
  refine lv_aload_n hx hb dL_law_496 rfl (lv_at hl 2 rfl) ?_
  refine cI hP hD hS hA hE (fun hPc hDc hSc => rV (As := []) (rest := []) hx hb hml hown hts hK (c_X9_limits l g a0 (p6_raws (p9_now s9)) (p6_kinds (p9_now s9)) (p6_figures (p9_now s9)) (p6_heavies (p9_now s9)) (p6_places (p9_now s9)) (p6_papers (p9_now s9)) (p6_lowers (p9_now s9)) (p6_uppers (p9_now s9)) (p6_rules (p9_now s9)) (p6_bounds (p9_now s9)) (p6_boundCount (p9_now s9)) (p6_tieWay (p9_now s9)) (p6_reached (p9_now s9)) (p6_raws (p9_kept s9)) (p6_kinds (p9_kept s9)) (p6_figures (p9_kept s9)) (p6_heavies (p9_kept s9)) (p6_places (p9_kept s9)) (p6_papers (p9_kept s9)) (p6_lowers (p9_kept s9)) (p6_uppers (p9_kept s9)) (p6_rules (p9_kept s9)) (p6_bounds (p9_kept s9)) (p6_boundCount (p9_kept s9)) (p6_tieWay (p9_kept s9)) (p6_reached (p9_kept s9)) (p6_raws (p9_spare s9)) (p6_kinds (p9_spare s9)) (p6_figures (p9_spare s9)) (p6_heavies (p9_spare s9)) (p6_places (p9_spare s9)) (p6_papers (p9_spare s9)) (p6_lowers (p9_spare s9)) (p6_uppers (p9_spare s9)) (p6_rules (p9_spare s9)) (p6_bounds (p9_spare s9)) (p6_boundCount (p9_spare s9)) (p6_tieWay (p9_spare s9)) (p6_reached (p9_spare s9)) (p9_isKept s9) (p3_signs (p9_letters s9)) (p3_numbers (p9_letters s9)) (p3_size (p9_letters s9)) (p3_at (p9_letters s9)) (p3_word (p9_letters s9)) (p9_told s9) (p9_toldCount s9) (p7_cells (p9_shelves s9)) (p7_sizes (p9_shelves s9)) (p7_made (p9_shelves s9)) (p9_refusals s9) (p5_overs (p9_order s9)) (p5_unders (p9_order s9)) (p5_marks (p9_order s9)) (p5_wrongs (p9_order s9)) (p5_papers (p9_order s9)) (p8_marks (p4_values (p9_standing s9))) (p8_weights (p4_values (p9_standing s9))) (p8_places (p4_values (p9_standing s9))) (p8_aboves (p4_values (p9_standing s9))) (p8_belows (p4_values (p9_standing s9))) (p1_above (p8_reduced (p4_values (p9_standing s9)))) (p1_below (p8_reduced (p4_values (p9_standing s9)))) (p8_papers (p4_values (p9_standing s9))) (p4_blocks (p9_standing s9)) (p4_tops (p9_standing s9)) (p4_bottoms (p9_standing s9)) (p4_blocksNow (p9_standing s9)) (p4_mergesDone (p9_standing s9)) (p4_loss (p9_standing s9)) (p8_marks (p0_values (p9_byRules s9))) (p8_weights (p0_values (p9_byRules s9))) (p8_places (p0_values (p9_byRules s9))) (p8_aboves (p0_values (p9_byRules s9))) (p8_belows (p0_values (p9_byRules s9))) (p1_above (p8_reduced (p0_values (p9_byRules s9)))) (p1_below (p8_reduced (p0_values (p9_byRules s9)))) (p8_papers (p0_values (p9_byRules s9))) (p5_overs (p0_order (p9_byRules s9))) (p5_unders (p0_order (p9_byRules s9))) (p5_marks (p0_order (p9_byRules s9))) (p5_wrongs (p0_order (p9_byRules s9))) (p5_papers (p0_order (p9_byRules s9))) (p0_sums (p9_byRules s9)) (p0_weighs (p9_byRules s9)) (p0_downs (p9_byRules s9)) (p1_above (p9_fraction s9)) (p1_below (p9_fraction s9)) (pSB_a (p9_said s9)) (pSB_m (p9_said s9)) (pSB_f (p9_said s9)) (pSB_l (p9_said s9)) (pSB_n (p9_said s9)) (by rw [hu]; exact Option.some_ne_none _)) svV_X9_limits kw521 rfl rfl hPc hDc hSc rfl rfl hl.1 (Nat.le_of_ble_eq_true rfl) dL_law_497 ⟨Nat.le_of_ble_eq_true rfl, Nat.le_of_ble_eq_true rfl, rfl, rfl, hcl, hsl⟩) [(0, 132)] rfl rfl rfl (fun _ => rfl) (fun w H locs ew nw hP hD hS => ?_)
  obtain rfl := Option.some.inj (hu.symm.trans ew)
  have hP : va_P g.1 vwCl (w9s a0 g (st_X9_limits s9 u) ++ w10s a1 g s10) H := hP
  have hD : va_D (fun q : Nat => s.heap.size ≤ q) (w9s a0 g (st_X9_limits s9 u) ++ w10s a1 g s10) := hD
  refine lv_aload_n hx hb dL_law_500 rfl (lv_at hl 3 rfl) ?_
  refine cI hP hD hS hA hE (fun hPc hDc hSc => rV (As := []) (rest := [.int u.1]) hx hb hml hown hts hK (c_X10_limits l g a1 (p10_papers s10) (p10_raw s10) (p10_kind s10) (p10_figure s10) (p10_heavy s10) (p10_place s10) (p10_rules s10) (p10_lower s10) (p10_upper s10) (p10_limits s10) (p10_limit s10) (p10_ties s10) (p10_letter s10) (p10_letters s10) (p10_told s10) (p10_tolds s10) (p10_places s10) (p10_cell s10) (p10_refusals s10) (p10_imaged s10) (p10_hasImage s10) (p10_before s10) (p10_up s10) (p10_down s10) (p10_beneath s10) (p10_numberUp s10) (p10_numberDown s10) (p10_block s10) (p10_blocks s10) (p10_merged s10) (p10_valueUp s10) (p10_valueDown s10) (p10_said s10) (p10_saids s10) (p10_at s10) (p10_number s10) (by rw [hv]; exact Option.some_ne_none _)) svV_X10_limits kw1409 rfl rfl hPc hDc hSc rfl rfl hl.1 (Nat.le_of_ble_eq_true rfl) dL_law_501 ⟨Nat.le_of_ble_eq_true rfl, Nat.le_of_ble_eq_true rfl, rfl, rfl, hcl, hsl⟩) [(132, 22)] rfl rfl rfl (fun _ => rfl) (fun w H locs ew nw hP hD hS => ?_)
  obtain rfl := Option.some.inj (hv.symm.trans ew)
  have hP : va_P g.1 vwCl (w9s a0 g (st_X9_limits s9 u) ++ w10s a1 g (st_X10_limits s10 v)) H := hP
  have hD : va_D (fun q : Nat => s.heap.size ≤ q) (w9s a0 g (st_X9_limits s9 u) ++ w10s a1 g (st_X10_limits s10 v)) := hD
  refine lv_icmp_eq (tgt := 1529) hx hb dL_law_504 (by decide) (fun _ => ?_) (fun c => absurd he c)
  refine W.widen (k := cells + 24) (n := slots + 7200) (by omega) (by omega) ?_
  exact kk (st_X9_limits s9 u) (st_X10_limits s10 v) _ _ hR hP hD hS
/-- ties -/
abbrev OP_ties (Rel : T9 → T10 → Prop) : Prop := ∀ (s9 : T9) (s10 : T10) (p1 : Int32), Rel s9 s10 → ∃ u v, m_X9_ties s9 p1 = some u ∧ m_X10_ties s10 p1 = some v ∧ u.1 = v.1 ∧ Rel (st_X9_ties s9 u) (st_X10_ties s10 v)
set_option maxHeartbeats 4000000 in
set_option maxRecDepth 100000 in
theorem law_ties {p : Program} {e : Env} {s : State} {m : MethodId} {below : List Frame} {meth : Method} {c : Code} (l : Launch) (g : GG) (Rel : T9 → T10 → Prop) (hop : OP_ties Rel) {b L : Nat} {xs : Nat → Int32} (hL : L ≤ 2560) (hx : p.tables.exec = Jvm.exec) (hb : c.code = code) (hml : c.maxLocals = 4) (hown : s.vm.findClass RL = some m.cls) (hts : ∀ w ∈ G, w.before #[Value.ref b] s = true) (hX : va_X b L xs s s.heap) (hbl : b < s.heap.size) (hK : NK g s) (hE : SK g (fun q : Nat => s.heap.size ≤ q) s s.heap) (a0 a1 : Nat → Nat) (i : Nat) (hi : i + 5 ≤ L) (s9 : T9) (s10 : T10) (hR : Rel s9 s10) {H : Heap} {locs : List Loc} {ls : Array Slot} {cells slots : Nat} (hcl0 : cells + 24 ≤ 600000) (hsl0 : slots + 7200 ≤ 7302250) (hP : va_P g.1 vwCl (w9s a0 g s9 ++ w10s a1 g s10) H) (hD : va_D (fun q : Nat => s.heap.size ≤ q) (w9s a0 g s9 ++ w10s a1 g s10)) (hS : va_S (fun q : Nat => s.heap.size ≤ q) s.heap H locs) (hl : lv_has ls 4 [(3, .int (nI i)), (0, .ref b), (1, .ref (a0 0)), (2, .ref (a1 0))])
    (kk : ∀ (s9 : T9) (s10 : T10) (H : Heap) (locs : List Loc), Rel s9 s10 → va_P g.1 vwCl (w9s a0 g s9 ++ w10s a1 g s10) H → va_D (fun q : Nat => s.heap.size ≤ q) (w9s a0 g s9 ++ w10s a1 g s10) → va_S (fun q : Nat => s.heap.size ≤ q) s.heap H locs → W p l e room_1 s m #[Value.ref b] below meth c H locs (cells + 24) (slots + 7200) (lw_Z below #[Value.ref b] s) (F0 m 1529 ls [])) :
    W p l e room_1 s m #[Value.ref b] below meth c H locs cells slots (lw_Z below #[Value.ref b] s) (F0 m 509 ls []) := by
  have hA : ∀ q : Nat, s.heap.size ≤ q → (fun q : Nat => s.heap.size ≤ q) q := fun _ h => h
  have hbA : ¬ (fun q : Nat => s.heap.size ≤ q) b := Nat.not_le.mpr hbl
  have hcl : cells + 0 ≤ room_1.cells := by show cells + 0 ≤ 600000; omega
  have hsl : slots + 0 ≤ room_1.slots := by show slots + 0 ≤ 7302250; omega
  obtain ⟨u, v, hu, hv, he, hR⟩ := hop s9 s10 (xs (i + 1)) hR
  refine lv_aload_n hx hb dL_law_509 rfl (lv_at hl 2 rfl) ?_
  refine lv_aload_n hx hb dL_law_510 rfl (lv_at hl 1 rfl) ?_
  refine lv_iload_n hx hb dL_law_511 rfl (lv_at hl 0 rfl) ?_
  refine lv_iconst (v := 1) hx hb dL_law_512 (by decide) ?_
  refine lv_iadd hx hb dL_law_513 ?_
  refine nmI (nI_p i 1 (by decide)) ?_
  refine va_sld hx hb hX hbl hbA hS (vp_in_nI (show i + 1 < L by omega) (by omega)) dL_law_514 ?_
  refine nmI (z := xs (i + 1)) (by rw [nI_clamp (by omega)]) ?_
  refine cI hP hD hS hA hE (fun hPc hDc hSc => rV (As := [.int (xs (i + 1))]) (rest := []) hx hb hml hown hts hK (c_X9_ties l g a0 (p6_raws (p9_now s9)) (p6_kinds (p9_now s9)) (p6_figures (p9_now s9)) (p6_heavies (p9_now s9)) (p6_places (p9_now s9)) (p6_papers (p9_now s9)) (p6_lowers (p9_now s9)) (p6_uppers (p9_now s9)) (p6_rules (p9_now s9)) (p6_bounds (p9_now s9)) (p6_boundCount (p9_now s9)) (p6_tieWay (p9_now s9)) (p6_reached (p9_now s9)) (p6_raws (p9_kept s9)) (p6_kinds (p9_kept s9)) (p6_figures (p9_kept s9)) (p6_heavies (p9_kept s9)) (p6_places (p9_kept s9)) (p6_papers (p9_kept s9)) (p6_lowers (p9_kept s9)) (p6_uppers (p9_kept s9)) (p6_rules (p9_kept s9)) (p6_bounds (p9_kept s9)) (p6_boundCount (p9_kept s9)) (p6_tieWay (p9_kept s9)) (p6_reached (p9_kept s9)) (p6_raws (p9_spare s9)) (p6_kinds (p9_spare s9)) (p6_figures (p9_spare s9)) (p6_heavies (p9_spare s9)) (p6_places (p9_spare s9)) (p6_papers (p9_spare s9)) (p6_lowers (p9_spare s9)) (p6_uppers (p9_spare s9)) (p6_rules (p9_spare s9)) (p6_bounds (p9_spare s9)) (p6_boundCount (p9_spare s9)) (p6_tieWay (p9_spare s9)) (p6_reached (p9_spare s9)) (p9_isKept s9) (p3_signs (p9_letters s9)) (p3_numbers (p9_letters s9)) (p3_size (p9_letters s9)) (p3_at (p9_letters s9)) (p3_word (p9_letters s9)) (p9_told s9) (p9_toldCount s9) (p7_cells (p9_shelves s9)) (p7_sizes (p9_shelves s9)) (p7_made (p9_shelves s9)) (p9_refusals s9) (p5_overs (p9_order s9)) (p5_unders (p9_order s9)) (p5_marks (p9_order s9)) (p5_wrongs (p9_order s9)) (p5_papers (p9_order s9)) (p8_marks (p4_values (p9_standing s9))) (p8_weights (p4_values (p9_standing s9))) (p8_places (p4_values (p9_standing s9))) (p8_aboves (p4_values (p9_standing s9))) (p8_belows (p4_values (p9_standing s9))) (p1_above (p8_reduced (p4_values (p9_standing s9)))) (p1_below (p8_reduced (p4_values (p9_standing s9)))) (p8_papers (p4_values (p9_standing s9))) (p4_blocks (p9_standing s9)) (p4_tops (p9_standing s9)) (p4_bottoms (p9_standing s9)) (p4_blocksNow (p9_standing s9)) (p4_mergesDone (p9_standing s9)) (p4_loss (p9_standing s9)) (p8_marks (p0_values (p9_byRules s9))) (p8_weights (p0_values (p9_byRules s9))) (p8_places (p0_values (p9_byRules s9))) (p8_aboves (p0_values (p9_byRules s9))) (p8_belows (p0_values (p9_byRules s9))) (p1_above (p8_reduced (p0_values (p9_byRules s9)))) (p1_below (p8_reduced (p0_values (p9_byRules s9)))) (p8_papers (p0_values (p9_byRules s9))) (p5_overs (p0_order (p9_byRules s9))) (p5_unders (p0_order (p9_byRules s9))) (p5_marks (p0_order (p9_byRules s9))) (p5_wrongs (p0_order (p9_byRules s9))) (p5_papers (p0_order (p9_byRules s9))) (p0_sums (p9_byRules s9)) (p0_weighs (p9_byRules s9)) (p0_downs (p9_byRules s9)) (p1_above (p9_fraction s9)) (p1_below (p9_fraction s9)) (pSB_a (p9_said s9)) (pSB_m (p9_said s9)) (pSB_f (p9_said s9)) (pSB_l (p9_said s9)) (pSB_n (p9_said s9)) (xs (i + 1)) (by rw [hu]; exact Option.some_ne_none _)) svV_X9_ties kw529 rfl rfl hPc hDc hSc rfl rfl hl.1 (Nat.le_of_ble_eq_true rfl) dL_law_515 ⟨Nat.le_of_ble_eq_true rfl, Nat.le_of_ble_eq_true rfl, rfl, rfl, hcl, hsl⟩) [(0, 132)] rfl rfl rfl (fun _ => rfl) (fun w H locs ew nw hP hD hS => ?_)
  obtain rfl := Option.some.inj (hu.symm.trans ew)
  have hP : va_P g.1 vwCl (w9s a0 g (st_X9_ties s9 u) ++ w10s a1 g s10) H := hP
  have hD : va_D (fun q : Nat => s.heap.size ≤ q) (w9s a0 g (st_X9_ties s9 u) ++ w10s a1 g s10) := hD
  refine lv_aload_n hx hb dL_law_518 rfl (lv_at hl 3 rfl) ?_
  refine lv_aload_n hx hb dL_law_519 rfl (lv_at hl 1 rfl) ?_
  refine lv_iload_n hx hb dL_law_520 rfl (lv_at hl 0 rfl) ?_
  refine lv_iconst (v := 1) hx hb dL_law_521 (by decide) ?_
  refine lv_iadd hx hb dL_law_522 ?_
  refine nmI (nI_p i 1 (by decide)) ?_
  refine va_sld hx hb hX hbl hbA hS (vp_in_nI (show i + 1 < L by omega) (by omega)) dL_law_523 ?_
  refine nmI (z := xs (i + 1)) (by rw [nI_clamp (by omega)]) ?_
  refine cI hP hD hS hA hE (fun hPc hDc hSc => rV (As := [.int (xs (i + 1))]) (rest := [.int u.1]) hx hb hml hown hts hK (c_X10_ties l g a1 (p10_papers s10) (p10_raw s10) (p10_kind s10) (p10_figure s10) (p10_heavy s10) (p10_place s10) (p10_rules s10) (p10_lower s10) (p10_upper s10) (p10_limits s10) (p10_limit s10) (p10_ties s10) (p10_letter s10) (p10_letters s10) (p10_told s10) (p10_tolds s10) (p10_places s10) (p10_cell s10) (p10_refusals s10) (p10_imaged s10) (p10_hasImage s10) (p10_before s10) (p10_up s10) (p10_down s10) (p10_beneath s10) (p10_numberUp s10) (p10_numberDown s10) (p10_block s10) (p10_blocks s10) (p10_merged s10) (p10_valueUp s10) (p10_valueDown s10) (p10_said s10) (p10_saids s10) (p10_at s10) (p10_number s10) (xs (i + 1)) (by rw [hv]; exact Option.some_ne_none _)) svV_X10_ties kw1413 rfl rfl hPc hDc hSc rfl rfl hl.1 (Nat.le_of_ble_eq_true rfl) dL_law_524 ⟨Nat.le_of_ble_eq_true rfl, Nat.le_of_ble_eq_true rfl, rfl, rfl, hcl, hsl⟩) [(132, 22)] rfl rfl rfl (fun _ => rfl) (fun w H locs ew nw hP hD hS => ?_)
  obtain rfl := Option.some.inj (hv.symm.trans ew)
  have hP : va_P g.1 vwCl (w9s a0 g (st_X9_ties s9 u) ++ w10s a1 g (st_X10_ties s10 v)) H := hP
  have hD : va_D (fun q : Nat => s.heap.size ≤ q) (w9s a0 g (st_X9_ties s9 u) ++ w10s a1 g (st_X10_ties s10 v)) := hD
  refine lv_icmp_eq (tgt := 1529) hx hb dL_law_527 (by decide) (fun _ => ?_) (fun c => absurd he c)
  refine W.widen (k := cells + 24) (n := slots + 7200) (by omega) (by omega) ?_
  exact kk (st_X9_ties s9 u) (st_X10_ties s10 v) _ _ hR hP hD hS
/-- of -/
abbrev OP_of (Rel : T9 → T10 → Prop) : Prop := ∀ (s9 : T9) (s10 : T10) (p1 p2 : Int32), Rel s9 s10 → ∃ u v, m_X9_of s9 p1 p2 = some u ∧ m_X10_of s10 p1 p2 = some v ∧ u.1 = v.1 ∧ Rel (st_X9_of s9 u) (st_X10_of s10 v)
set_option maxHeartbeats 4000000 in
set_option maxRecDepth 100000 in
theorem law_of {p : Program} {e : Env} {s : State} {m : MethodId} {below : List Frame} {meth : Method} {c : Code} (l : Launch) (g : GG) (Rel : T9 → T10 → Prop) (hop : OP_of Rel) {b L : Nat} {xs : Nat → Int32} (hL : L ≤ 2560) (hx : p.tables.exec = Jvm.exec) (hb : c.code = code) (hml : c.maxLocals = 4) (hown : s.vm.findClass RL = some m.cls) (hts : ∀ w ∈ G, w.before #[Value.ref b] s = true) (hX : va_X b L xs s s.heap) (hbl : b < s.heap.size) (hK : NK g s) (hE : SK g (fun q : Nat => s.heap.size ≤ q) s s.heap) (a0 a1 : Nat → Nat) (i : Nat) (hi : i + 5 ≤ L) (s9 : T9) (s10 : T10) (hR : Rel s9 s10) {H : Heap} {locs : List Loc} {ls : Array Slot} {cells slots : Nat} (hcl0 : cells + 24 ≤ 600000) (hsl0 : slots + 7200 ≤ 7302250) (hP : va_P g.1 vwCl (w9s a0 g s9 ++ w10s a1 g s10) H) (hD : va_D (fun q : Nat => s.heap.size ≤ q) (w9s a0 g s9 ++ w10s a1 g s10)) (hS : va_S (fun q : Nat => s.heap.size ≤ q) s.heap H locs) (hl : lv_has ls 4 [(3, .int (nI i)), (0, .ref b), (1, .ref (a0 0)), (2, .ref (a1 0))])
    (kk : ∀ (s9 : T9) (s10 : T10) (H : Heap) (locs : List Loc), Rel s9 s10 → va_P g.1 vwCl (w9s a0 g s9 ++ w10s a1 g s10) H → va_D (fun q : Nat => s.heap.size ≤ q) (w9s a0 g s9 ++ w10s a1 g s10) → va_S (fun q : Nat => s.heap.size ≤ q) s.heap H locs → W p l e room_1 s m #[Value.ref b] below meth c H locs (cells + 24) (slots + 7200) (lw_Z below #[Value.ref b] s) (F0 m 1529 ls [])) :
    W p l e room_1 s m #[Value.ref b] below meth c H locs cells slots (lw_Z below #[Value.ref b] s) (F0 m 532 ls []) := by
  have hA : ∀ q : Nat, s.heap.size ≤ q → (fun q : Nat => s.heap.size ≤ q) q := fun _ h => h
  have hbA : ¬ (fun q : Nat => s.heap.size ≤ q) b := Nat.not_le.mpr hbl
  have hcl : cells + 0 ≤ room_1.cells := by show cells + 0 ≤ 600000; omega
  have hsl : slots + 0 ≤ room_1.slots := by show slots + 0 ≤ 7302250; omega
  obtain ⟨u, v, hu, hv, he, hR⟩ := hop s9 s10 (xs (i + 1)) (xs (i + 2)) hR
  refine lv_aload_n hx hb dL_law_532 rfl (lv_at hl 2 rfl) ?_
  refine lv_aload_n hx hb dL_law_533 rfl (lv_at hl 1 rfl) ?_
  refine lv_iload_n hx hb dL_law_534 rfl (lv_at hl 0 rfl) ?_
  refine lv_iconst (v := 1) hx hb dL_law_535 (by decide) ?_
  refine lv_iadd hx hb dL_law_536 ?_
  refine nmI (nI_p i 1 (by decide)) ?_
  refine va_sld hx hb hX hbl hbA hS (vp_in_nI (show i + 1 < L by omega) (by omega)) dL_law_537 ?_
  refine nmI (z := xs (i + 1)) (by rw [nI_clamp (by omega)]) ?_
  refine lv_aload_n hx hb dL_law_538 rfl (lv_at hl 1 rfl) ?_
  refine lv_iload_n hx hb dL_law_539 rfl (lv_at hl 0 rfl) ?_
  refine lv_iconst (v := 2) hx hb dL_law_540 (by decide) ?_
  refine lv_iadd hx hb dL_law_541 ?_
  refine nmI (nI_p i 2 (by decide)) ?_
  refine va_sld hx hb hX hbl hbA hS (vp_in_nI (show i + 2 < L by omega) (by omega)) dL_law_542 ?_
  refine nmI (z := xs (i + 2)) (by rw [nI_clamp (by omega)]) ?_
  refine cI hP hD hS hA hE (fun hPc hDc hSc => rV (As := [.int (xs (i + 1)), .int (xs (i + 2))]) (rest := []) hx hb hml hown hts hK (c_X9_of l g a0 (p6_raws (p9_now s9)) (p6_kinds (p9_now s9)) (p6_figures (p9_now s9)) (p6_heavies (p9_now s9)) (p6_places (p9_now s9)) (p6_papers (p9_now s9)) (p6_lowers (p9_now s9)) (p6_uppers (p9_now s9)) (p6_rules (p9_now s9)) (p6_bounds (p9_now s9)) (p6_boundCount (p9_now s9)) (p6_tieWay (p9_now s9)) (p6_reached (p9_now s9)) (p6_raws (p9_kept s9)) (p6_kinds (p9_kept s9)) (p6_figures (p9_kept s9)) (p6_heavies (p9_kept s9)) (p6_places (p9_kept s9)) (p6_papers (p9_kept s9)) (p6_lowers (p9_kept s9)) (p6_uppers (p9_kept s9)) (p6_rules (p9_kept s9)) (p6_bounds (p9_kept s9)) (p6_boundCount (p9_kept s9)) (p6_tieWay (p9_kept s9)) (p6_reached (p9_kept s9)) (p6_raws (p9_spare s9)) (p6_kinds (p9_spare s9)) (p6_figures (p9_spare s9)) (p6_heavies (p9_spare s9)) (p6_places (p9_spare s9)) (p6_papers (p9_spare s9)) (p6_lowers (p9_spare s9)) (p6_uppers (p9_spare s9)) (p6_rules (p9_spare s9)) (p6_bounds (p9_spare s9)) (p6_boundCount (p9_spare s9)) (p6_tieWay (p9_spare s9)) (p6_reached (p9_spare s9)) (p9_isKept s9) (p3_signs (p9_letters s9)) (p3_numbers (p9_letters s9)) (p3_size (p9_letters s9)) (p3_at (p9_letters s9)) (p3_word (p9_letters s9)) (p9_told s9) (p9_toldCount s9) (p7_cells (p9_shelves s9)) (p7_sizes (p9_shelves s9)) (p7_made (p9_shelves s9)) (p9_refusals s9) (p5_overs (p9_order s9)) (p5_unders (p9_order s9)) (p5_marks (p9_order s9)) (p5_wrongs (p9_order s9)) (p5_papers (p9_order s9)) (p8_marks (p4_values (p9_standing s9))) (p8_weights (p4_values (p9_standing s9))) (p8_places (p4_values (p9_standing s9))) (p8_aboves (p4_values (p9_standing s9))) (p8_belows (p4_values (p9_standing s9))) (p1_above (p8_reduced (p4_values (p9_standing s9)))) (p1_below (p8_reduced (p4_values (p9_standing s9)))) (p8_papers (p4_values (p9_standing s9))) (p4_blocks (p9_standing s9)) (p4_tops (p9_standing s9)) (p4_bottoms (p9_standing s9)) (p4_blocksNow (p9_standing s9)) (p4_mergesDone (p9_standing s9)) (p4_loss (p9_standing s9)) (p8_marks (p0_values (p9_byRules s9))) (p8_weights (p0_values (p9_byRules s9))) (p8_places (p0_values (p9_byRules s9))) (p8_aboves (p0_values (p9_byRules s9))) (p8_belows (p0_values (p9_byRules s9))) (p1_above (p8_reduced (p0_values (p9_byRules s9)))) (p1_below (p8_reduced (p0_values (p9_byRules s9)))) (p8_papers (p0_values (p9_byRules s9))) (p5_overs (p0_order (p9_byRules s9))) (p5_unders (p0_order (p9_byRules s9))) (p5_marks (p0_order (p9_byRules s9))) (p5_wrongs (p0_order (p9_byRules s9))) (p5_papers (p0_order (p9_byRules s9))) (p0_sums (p9_byRules s9)) (p0_weighs (p9_byRules s9)) (p0_downs (p9_byRules s9)) (p1_above (p9_fraction s9)) (p1_below (p9_fraction s9)) (pSB_a (p9_said s9)) (pSB_m (p9_said s9)) (pSB_f (p9_said s9)) (pSB_l (p9_said s9)) (pSB_n (p9_said s9)) (xs (i + 1)) (xs (i + 2)) (by rw [hu]; exact Option.some_ne_none _)) svV_X9_of kw534 rfl rfl hPc hDc hSc rfl rfl hl.1 (Nat.le_of_ble_eq_true rfl) dL_law_543 ⟨Nat.le_of_ble_eq_true rfl, Nat.le_of_ble_eq_true rfl, rfl, rfl, hcl, hsl⟩) [(0, 132)] rfl rfl rfl (fun _ => rfl) (fun w H locs ew nw hP hD hS => ?_)
  obtain rfl := Option.some.inj (hu.symm.trans ew)
  have hP : va_P g.1 vwCl (w9s a0 g (st_X9_of s9 u) ++ w10s a1 g s10) H := hP
  have hD : va_D (fun q : Nat => s.heap.size ≤ q) (w9s a0 g (st_X9_of s9 u) ++ w10s a1 g s10) := hD
  refine lv_aload_n hx hb dL_law_546 rfl (lv_at hl 3 rfl) ?_
  refine lv_aload_n hx hb dL_law_547 rfl (lv_at hl 1 rfl) ?_
  refine lv_iload_n hx hb dL_law_548 rfl (lv_at hl 0 rfl) ?_
  refine lv_iconst (v := 1) hx hb dL_law_549 (by decide) ?_
  refine lv_iadd hx hb dL_law_550 ?_
  refine nmI (nI_p i 1 (by decide)) ?_
  refine va_sld hx hb hX hbl hbA hS (vp_in_nI (show i + 1 < L by omega) (by omega)) dL_law_551 ?_
  refine nmI (z := xs (i + 1)) (by rw [nI_clamp (by omega)]) ?_
  refine lv_aload_n hx hb dL_law_552 rfl (lv_at hl 1 rfl) ?_
  refine lv_iload_n hx hb dL_law_553 rfl (lv_at hl 0 rfl) ?_
  refine lv_iconst (v := 2) hx hb dL_law_554 (by decide) ?_
  refine lv_iadd hx hb dL_law_555 ?_
  refine nmI (nI_p i 2 (by decide)) ?_
  refine va_sld hx hb hX hbl hbA hS (vp_in_nI (show i + 2 < L by omega) (by omega)) dL_law_556 ?_
  refine nmI (z := xs (i + 2)) (by rw [nI_clamp (by omega)]) ?_
  refine cI hP hD hS hA hE (fun hPc hDc hSc => rV (As := [.int (xs (i + 1)), .int (xs (i + 2))]) (rest := [.int u.1]) hx hb hml hown hts hK (c_X10_of l g a1 (p10_papers s10) (p10_raw s10) (p10_kind s10) (p10_figure s10) (p10_heavy s10) (p10_place s10) (p10_rules s10) (p10_lower s10) (p10_upper s10) (p10_limits s10) (p10_limit s10) (p10_ties s10) (p10_letter s10) (p10_letters s10) (p10_told s10) (p10_tolds s10) (p10_places s10) (p10_cell s10) (p10_refusals s10) (p10_imaged s10) (p10_hasImage s10) (p10_before s10) (p10_up s10) (p10_down s10) (p10_beneath s10) (p10_numberUp s10) (p10_numberDown s10) (p10_block s10) (p10_blocks s10) (p10_merged s10) (p10_valueUp s10) (p10_valueDown s10) (p10_said s10) (p10_saids s10) (p10_at s10) (p10_number s10) (xs (i + 1)) (xs (i + 2)) (by rw [hv]; exact Option.some_ne_none _)) svV_X10_of kw1417 rfl rfl hPc hDc hSc rfl rfl hl.1 (Nat.le_of_ble_eq_true rfl) dL_law_557 ⟨Nat.le_of_ble_eq_true rfl, Nat.le_of_ble_eq_true rfl, rfl, rfl, hcl, hsl⟩) [(132, 22)] rfl rfl rfl (fun _ => rfl) (fun w H locs ew nw hP hD hS => ?_)
  obtain rfl := Option.some.inj (hv.symm.trans ew)
  have hP : va_P g.1 vwCl (w9s a0 g (st_X9_of s9 u) ++ w10s a1 g (st_X10_of s10 v)) H := hP
  have hD : va_D (fun q : Nat => s.heap.size ≤ q) (w9s a0 g (st_X9_of s9 u) ++ w10s a1 g (st_X10_of s10 v)) := hD
  refine lv_icmp_eq (tgt := 1529) hx hb dL_law_560 (by decide) (fun _ => ?_) (fun c => absurd he c)
  refine W.widen (k := cells + 24) (n := slots + 7200) (by omega) (by omega) ?_
  exact kk (st_X9_of s9 u) (st_X10_of s10 v) _ _ hR hP hD hS
/-- ruleOf -/
abbrev OP_ruleOf (Rel : T9 → T10 → Prop) : Prop := ∀ (s9 : T9) (s10 : T10) (p1 p2 : Int32), Rel s9 s10 → ∃ u v, m_X9_ruleOf s9 p1 p2 = some u ∧ m_X10_ruleOf s10 p1 p2 = some v ∧ u.1 = v.1 ∧ Rel (st_X9_ruleOf s9 u) (st_X10_ruleOf s10 v)
set_option maxHeartbeats 4000000 in
set_option maxRecDepth 100000 in
theorem law_ruleOf {p : Program} {e : Env} {s : State} {m : MethodId} {below : List Frame} {meth : Method} {c : Code} (l : Launch) (g : GG) (Rel : T9 → T10 → Prop) (hop : OP_ruleOf Rel) {b L : Nat} {xs : Nat → Int32} (hL : L ≤ 2560) (hx : p.tables.exec = Jvm.exec) (hb : c.code = code) (hml : c.maxLocals = 4) (hown : s.vm.findClass RL = some m.cls) (hts : ∀ w ∈ G, w.before #[Value.ref b] s = true) (hX : va_X b L xs s s.heap) (hbl : b < s.heap.size) (hK : NK g s) (hE : SK g (fun q : Nat => s.heap.size ≤ q) s s.heap) (a0 a1 : Nat → Nat) (i : Nat) (hi : i + 5 ≤ L) (s9 : T9) (s10 : T10) (hR : Rel s9 s10) {H : Heap} {locs : List Loc} {ls : Array Slot} {cells slots : Nat} (hcl0 : cells + 24 ≤ 600000) (hsl0 : slots + 7200 ≤ 7302250) (hP : va_P g.1 vwCl (w9s a0 g s9 ++ w10s a1 g s10) H) (hD : va_D (fun q : Nat => s.heap.size ≤ q) (w9s a0 g s9 ++ w10s a1 g s10)) (hS : va_S (fun q : Nat => s.heap.size ≤ q) s.heap H locs) (hl : lv_has ls 4 [(3, .int (nI i)), (0, .ref b), (1, .ref (a0 0)), (2, .ref (a1 0))])
    (kk : ∀ (s9 : T9) (s10 : T10) (H : Heap) (locs : List Loc), Rel s9 s10 → va_P g.1 vwCl (w9s a0 g s9 ++ w10s a1 g s10) H → va_D (fun q : Nat => s.heap.size ≤ q) (w9s a0 g s9 ++ w10s a1 g s10) → va_S (fun q : Nat => s.heap.size ≤ q) s.heap H locs → W p l e room_1 s m #[Value.ref b] below meth c H locs (cells + 24) (slots + 7200) (lw_Z below #[Value.ref b] s) (F0 m 1529 ls [])) :
    W p l e room_1 s m #[Value.ref b] below meth c H locs cells slots (lw_Z below #[Value.ref b] s) (F0 m 565 ls []) := by
  have hA : ∀ q : Nat, s.heap.size ≤ q → (fun q : Nat => s.heap.size ≤ q) q := fun _ h => h
  have hbA : ¬ (fun q : Nat => s.heap.size ≤ q) b := Nat.not_le.mpr hbl
  have hcl : cells + 0 ≤ room_1.cells := by show cells + 0 ≤ 600000; omega
  have hsl : slots + 0 ≤ room_1.slots := by show slots + 0 ≤ 7302250; omega
  obtain ⟨u, v, hu, hv, he, hR⟩ := hop s9 s10 (xs (i + 1)) (xs (i + 2)) hR
  refine lv_aload_n hx hb dL_law_565 rfl (lv_at hl 2 rfl) ?_
  refine lv_aload_n hx hb dL_law_566 rfl (lv_at hl 1 rfl) ?_
  refine lv_iload_n hx hb dL_law_567 rfl (lv_at hl 0 rfl) ?_
  refine lv_iconst (v := 1) hx hb dL_law_568 (by decide) ?_
  refine lv_iadd hx hb dL_law_569 ?_
  refine nmI (nI_p i 1 (by decide)) ?_
  refine va_sld hx hb hX hbl hbA hS (vp_in_nI (show i + 1 < L by omega) (by omega)) dL_law_570 ?_
  refine nmI (z := xs (i + 1)) (by rw [nI_clamp (by omega)]) ?_
  refine lv_aload_n hx hb dL_law_571 rfl (lv_at hl 1 rfl) ?_
  refine lv_iload_n hx hb dL_law_572 rfl (lv_at hl 0 rfl) ?_
  refine lv_iconst (v := 2) hx hb dL_law_573 (by decide) ?_
  refine lv_iadd hx hb dL_law_574 ?_
  refine nmI (nI_p i 2 (by decide)) ?_
  refine va_sld hx hb hX hbl hbA hS (vp_in_nI (show i + 2 < L by omega) (by omega)) dL_law_575 ?_
  refine nmI (z := xs (i + 2)) (by rw [nI_clamp (by omega)]) ?_
  refine cI hP hD hS hA hE (fun hPc hDc hSc => rV (As := [.int (xs (i + 1)), .int (xs (i + 2))]) (rest := []) hx hb hml hown hts hK (c_X9_ruleOf l g a0 (p6_raws (p9_now s9)) (p6_kinds (p9_now s9)) (p6_figures (p9_now s9)) (p6_heavies (p9_now s9)) (p6_places (p9_now s9)) (p6_papers (p9_now s9)) (p6_lowers (p9_now s9)) (p6_uppers (p9_now s9)) (p6_rules (p9_now s9)) (p6_bounds (p9_now s9)) (p6_boundCount (p9_now s9)) (p6_tieWay (p9_now s9)) (p6_reached (p9_now s9)) (p6_raws (p9_kept s9)) (p6_kinds (p9_kept s9)) (p6_figures (p9_kept s9)) (p6_heavies (p9_kept s9)) (p6_places (p9_kept s9)) (p6_papers (p9_kept s9)) (p6_lowers (p9_kept s9)) (p6_uppers (p9_kept s9)) (p6_rules (p9_kept s9)) (p6_bounds (p9_kept s9)) (p6_boundCount (p9_kept s9)) (p6_tieWay (p9_kept s9)) (p6_reached (p9_kept s9)) (p6_raws (p9_spare s9)) (p6_kinds (p9_spare s9)) (p6_figures (p9_spare s9)) (p6_heavies (p9_spare s9)) (p6_places (p9_spare s9)) (p6_papers (p9_spare s9)) (p6_lowers (p9_spare s9)) (p6_uppers (p9_spare s9)) (p6_rules (p9_spare s9)) (p6_bounds (p9_spare s9)) (p6_boundCount (p9_spare s9)) (p6_tieWay (p9_spare s9)) (p6_reached (p9_spare s9)) (p9_isKept s9) (p3_signs (p9_letters s9)) (p3_numbers (p9_letters s9)) (p3_size (p9_letters s9)) (p3_at (p9_letters s9)) (p3_word (p9_letters s9)) (p9_told s9) (p9_toldCount s9) (p7_cells (p9_shelves s9)) (p7_sizes (p9_shelves s9)) (p7_made (p9_shelves s9)) (p9_refusals s9) (p5_overs (p9_order s9)) (p5_unders (p9_order s9)) (p5_marks (p9_order s9)) (p5_wrongs (p9_order s9)) (p5_papers (p9_order s9)) (p8_marks (p4_values (p9_standing s9))) (p8_weights (p4_values (p9_standing s9))) (p8_places (p4_values (p9_standing s9))) (p8_aboves (p4_values (p9_standing s9))) (p8_belows (p4_values (p9_standing s9))) (p1_above (p8_reduced (p4_values (p9_standing s9)))) (p1_below (p8_reduced (p4_values (p9_standing s9)))) (p8_papers (p4_values (p9_standing s9))) (p4_blocks (p9_standing s9)) (p4_tops (p9_standing s9)) (p4_bottoms (p9_standing s9)) (p4_blocksNow (p9_standing s9)) (p4_mergesDone (p9_standing s9)) (p4_loss (p9_standing s9)) (p8_marks (p0_values (p9_byRules s9))) (p8_weights (p0_values (p9_byRules s9))) (p8_places (p0_values (p9_byRules s9))) (p8_aboves (p0_values (p9_byRules s9))) (p8_belows (p0_values (p9_byRules s9))) (p1_above (p8_reduced (p0_values (p9_byRules s9)))) (p1_below (p8_reduced (p0_values (p9_byRules s9)))) (p8_papers (p0_values (p9_byRules s9))) (p5_overs (p0_order (p9_byRules s9))) (p5_unders (p0_order (p9_byRules s9))) (p5_marks (p0_order (p9_byRules s9))) (p5_wrongs (p0_order (p9_byRules s9))) (p5_papers (p0_order (p9_byRules s9))) (p0_sums (p9_byRules s9)) (p0_weighs (p9_byRules s9)) (p0_downs (p9_byRules s9)) (p1_above (p9_fraction s9)) (p1_below (p9_fraction s9)) (pSB_a (p9_said s9)) (pSB_m (p9_said s9)) (pSB_f (p9_said s9)) (pSB_l (p9_said s9)) (pSB_n (p9_said s9)) (xs (i + 1)) (xs (i + 2)) (by rw [hu]; exact Option.some_ne_none _)) svV_X9_ruleOf kw579 rfl rfl hPc hDc hSc rfl rfl hl.1 (Nat.le_of_ble_eq_true rfl) dL_law_576 ⟨Nat.le_of_ble_eq_true rfl, Nat.le_of_ble_eq_true rfl, rfl, rfl, hcl, hsl⟩) [(0, 132)] rfl rfl rfl (fun _ => rfl) (fun w H locs ew nw hP hD hS => ?_)
  obtain rfl := Option.some.inj (hu.symm.trans ew)
  have hP : va_P g.1 vwCl (w9s a0 g (st_X9_ruleOf s9 u) ++ w10s a1 g s10) H := hP
  have hD : va_D (fun q : Nat => s.heap.size ≤ q) (w9s a0 g (st_X9_ruleOf s9 u) ++ w10s a1 g s10) := hD
  refine lv_aload_n hx hb dL_law_579 rfl (lv_at hl 3 rfl) ?_
  refine lv_aload_n hx hb dL_law_580 rfl (lv_at hl 1 rfl) ?_
  refine lv_iload_n hx hb dL_law_581 rfl (lv_at hl 0 rfl) ?_
  refine lv_iconst (v := 1) hx hb dL_law_582 (by decide) ?_
  refine lv_iadd hx hb dL_law_583 ?_
  refine nmI (nI_p i 1 (by decide)) ?_
  refine va_sld hx hb hX hbl hbA hS (vp_in_nI (show i + 1 < L by omega) (by omega)) dL_law_584 ?_
  refine nmI (z := xs (i + 1)) (by rw [nI_clamp (by omega)]) ?_
  refine lv_aload_n hx hb dL_law_585 rfl (lv_at hl 1 rfl) ?_
  refine lv_iload_n hx hb dL_law_586 rfl (lv_at hl 0 rfl) ?_
  refine lv_iconst (v := 2) hx hb dL_law_587 (by decide) ?_
  refine lv_iadd hx hb dL_law_588 ?_
  refine nmI (nI_p i 2 (by decide)) ?_
  refine va_sld hx hb hX hbl hbA hS (vp_in_nI (show i + 2 < L by omega) (by omega)) dL_law_589 ?_
  refine nmI (z := xs (i + 2)) (by rw [nI_clamp (by omega)]) ?_
  refine cI hP hD hS hA hE (fun hPc hDc hSc => rV (As := [.int (xs (i + 1)), .int (xs (i + 2))]) (rest := [.int u.1]) hx hb hml hown hts hK (c_X10_ruleOf l g a1 (p10_papers s10) (p10_raw s10) (p10_kind s10) (p10_figure s10) (p10_heavy s10) (p10_place s10) (p10_rules s10) (p10_lower s10) (p10_upper s10) (p10_limits s10) (p10_limit s10) (p10_ties s10) (p10_letter s10) (p10_letters s10) (p10_told s10) (p10_tolds s10) (p10_places s10) (p10_cell s10) (p10_refusals s10) (p10_imaged s10) (p10_hasImage s10) (p10_before s10) (p10_up s10) (p10_down s10) (p10_beneath s10) (p10_numberUp s10) (p10_numberDown s10) (p10_block s10) (p10_blocks s10) (p10_merged s10) (p10_valueUp s10) (p10_valueDown s10) (p10_said s10) (p10_saids s10) (p10_at s10) (p10_number s10) (xs (i + 1)) (xs (i + 2)) (by rw [hv]; exact Option.some_ne_none _)) svV_X10_ruleOf kw1435 rfl rfl hPc hDc hSc rfl rfl hl.1 (Nat.le_of_ble_eq_true rfl) dL_law_590 ⟨Nat.le_of_ble_eq_true rfl, Nat.le_of_ble_eq_true rfl, rfl, rfl, hcl, hsl⟩) [(132, 22)] rfl rfl rfl (fun _ => rfl) (fun w H locs ew nw hP hD hS => ?_)
  obtain rfl := Option.some.inj (hv.symm.trans ew)
  have hP : va_P g.1 vwCl (w9s a0 g (st_X9_ruleOf s9 u) ++ w10s a1 g (st_X10_ruleOf s10 v)) H := hP
  have hD : va_D (fun q : Nat => s.heap.size ≤ q) (w9s a0 g (st_X9_ruleOf s9 u) ++ w10s a1 g (st_X10_ruleOf s10 v)) := hD
  refine lv_icmp_eq (tgt := 1529) hx hb dL_law_593 (by decide) (fun _ => ?_) (fun c => absurd he c)
  refine W.widen (k := cells + 24) (n := slots + 7200) (by omega) (by omega) ?_
  exact kk (st_X9_ruleOf s9 u) (st_X10_ruleOf s10 v) _ _ hR hP hD hS
/-- under -/
abbrev OP_under (Rel : T9 → T10 → Prop) : Prop := ∀ (s9 : T9) (s10 : T10) (p1 p2 : Int32), Rel s9 s10 → ∃ u v, m_X9_under s9 p1 p2 = some u ∧ m_X10_under s10 p1 p2 = some v ∧ u.1 = v.1 ∧ Rel (st_X9_under s9 u) (st_X10_under s10 v)
set_option maxHeartbeats 4000000 in
set_option maxRecDepth 100000 in
theorem law_under {p : Program} {e : Env} {s : State} {m : MethodId} {below : List Frame} {meth : Method} {c : Code} (l : Launch) (g : GG) (Rel : T9 → T10 → Prop) (hop : OP_under Rel) {b L : Nat} {xs : Nat → Int32} (hL : L ≤ 2560) (hx : p.tables.exec = Jvm.exec) (hb : c.code = code) (hml : c.maxLocals = 4) (hown : s.vm.findClass RL = some m.cls) (hts : ∀ w ∈ G, w.before #[Value.ref b] s = true) (hX : va_X b L xs s s.heap) (hbl : b < s.heap.size) (hK : NK g s) (hE : SK g (fun q : Nat => s.heap.size ≤ q) s s.heap) (a0 a1 : Nat → Nat) (i : Nat) (hi : i + 5 ≤ L) (s9 : T9) (s10 : T10) (hR : Rel s9 s10) {H : Heap} {locs : List Loc} {ls : Array Slot} {cells slots : Nat} (hcl0 : cells + 24 ≤ 600000) (hsl0 : slots + 7200 ≤ 7302250) (hP : va_P g.1 vwCl (w9s a0 g s9 ++ w10s a1 g s10) H) (hD : va_D (fun q : Nat => s.heap.size ≤ q) (w9s a0 g s9 ++ w10s a1 g s10)) (hS : va_S (fun q : Nat => s.heap.size ≤ q) s.heap H locs) (hl : lv_has ls 4 [(3, .int (nI i)), (0, .ref b), (1, .ref (a0 0)), (2, .ref (a1 0))])
    (kk : ∀ (s9 : T9) (s10 : T10) (H : Heap) (locs : List Loc), Rel s9 s10 → va_P g.1 vwCl (w9s a0 g s9 ++ w10s a1 g s10) H → va_D (fun q : Nat => s.heap.size ≤ q) (w9s a0 g s9 ++ w10s a1 g s10) → va_S (fun q : Nat => s.heap.size ≤ q) s.heap H locs → W p l e room_1 s m #[Value.ref b] below meth c H locs (cells + 24) (slots + 7200) (lw_Z below #[Value.ref b] s) (F0 m 1529 ls [])) :
    W p l e room_1 s m #[Value.ref b] below meth c H locs cells slots (lw_Z below #[Value.ref b] s) (F0 m 598 ls []) := by
  have hA : ∀ q : Nat, s.heap.size ≤ q → (fun q : Nat => s.heap.size ≤ q) q := fun _ h => h
  have hbA : ¬ (fun q : Nat => s.heap.size ≤ q) b := Nat.not_le.mpr hbl
  have hcl : cells + 0 ≤ room_1.cells := by show cells + 0 ≤ 600000; omega
  have hsl : slots + 0 ≤ room_1.slots := by show slots + 0 ≤ 7302250; omega
  obtain ⟨u, v, hu, hv, he, hR⟩ := hop s9 s10 (xs (i + 1)) (xs (i + 2)) hR
  refine lv_aload_n hx hb dL_law_598 rfl (lv_at hl 2 rfl) ?_
  refine lv_aload_n hx hb dL_law_599 rfl (lv_at hl 1 rfl) ?_
  refine lv_iload_n hx hb dL_law_600 rfl (lv_at hl 0 rfl) ?_
  refine lv_iconst (v := 1) hx hb dL_law_601 (by decide) ?_
  refine lv_iadd hx hb dL_law_602 ?_
  refine nmI (nI_p i 1 (by decide)) ?_
  refine va_sld hx hb hX hbl hbA hS (vp_in_nI (show i + 1 < L by omega) (by omega)) dL_law_603 ?_
  refine nmI (z := xs (i + 1)) (by rw [nI_clamp (by omega)]) ?_
  refine lv_aload_n hx hb dL_law_604 rfl (lv_at hl 1 rfl) ?_
  refine lv_iload_n hx hb dL_law_605 rfl (lv_at hl 0 rfl) ?_
  refine lv_iconst (v := 2) hx hb dL_law_606 (by decide) ?_
  refine lv_iadd hx hb dL_law_607 ?_
  refine nmI (nI_p i 2 (by decide)) ?_
  refine va_sld hx hb hX hbl hbA hS (vp_in_nI (show i + 2 < L by omega) (by omega)) dL_law_608 ?_
  refine nmI (z := xs (i + 2)) (by rw [nI_clamp (by omega)]) ?_
  refine cI hP hD hS hA hE (fun hPc hDc hSc => rV (As := [.int (xs (i + 1)), .int (xs (i + 2))]) (rest := []) hx hb hml hown hts hK (c_X9_under l g a0 (p6_raws (p9_now s9)) (p6_kinds (p9_now s9)) (p6_figures (p9_now s9)) (p6_heavies (p9_now s9)) (p6_places (p9_now s9)) (p6_papers (p9_now s9)) (p6_lowers (p9_now s9)) (p6_uppers (p9_now s9)) (p6_rules (p9_now s9)) (p6_bounds (p9_now s9)) (p6_boundCount (p9_now s9)) (p6_tieWay (p9_now s9)) (p6_reached (p9_now s9)) (p6_raws (p9_kept s9)) (p6_kinds (p9_kept s9)) (p6_figures (p9_kept s9)) (p6_heavies (p9_kept s9)) (p6_places (p9_kept s9)) (p6_papers (p9_kept s9)) (p6_lowers (p9_kept s9)) (p6_uppers (p9_kept s9)) (p6_rules (p9_kept s9)) (p6_bounds (p9_kept s9)) (p6_boundCount (p9_kept s9)) (p6_tieWay (p9_kept s9)) (p6_reached (p9_kept s9)) (p6_raws (p9_spare s9)) (p6_kinds (p9_spare s9)) (p6_figures (p9_spare s9)) (p6_heavies (p9_spare s9)) (p6_places (p9_spare s9)) (p6_papers (p9_spare s9)) (p6_lowers (p9_spare s9)) (p6_uppers (p9_spare s9)) (p6_rules (p9_spare s9)) (p6_bounds (p9_spare s9)) (p6_boundCount (p9_spare s9)) (p6_tieWay (p9_spare s9)) (p6_reached (p9_spare s9)) (p9_isKept s9) (p3_signs (p9_letters s9)) (p3_numbers (p9_letters s9)) (p3_size (p9_letters s9)) (p3_at (p9_letters s9)) (p3_word (p9_letters s9)) (p9_told s9) (p9_toldCount s9) (p7_cells (p9_shelves s9)) (p7_sizes (p9_shelves s9)) (p7_made (p9_shelves s9)) (p9_refusals s9) (p5_overs (p9_order s9)) (p5_unders (p9_order s9)) (p5_marks (p9_order s9)) (p5_wrongs (p9_order s9)) (p5_papers (p9_order s9)) (p8_marks (p4_values (p9_standing s9))) (p8_weights (p4_values (p9_standing s9))) (p8_places (p4_values (p9_standing s9))) (p8_aboves (p4_values (p9_standing s9))) (p8_belows (p4_values (p9_standing s9))) (p1_above (p8_reduced (p4_values (p9_standing s9)))) (p1_below (p8_reduced (p4_values (p9_standing s9)))) (p8_papers (p4_values (p9_standing s9))) (p4_blocks (p9_standing s9)) (p4_tops (p9_standing s9)) (p4_bottoms (p9_standing s9)) (p4_blocksNow (p9_standing s9)) (p4_mergesDone (p9_standing s9)) (p4_loss (p9_standing s9)) (p8_marks (p0_values (p9_byRules s9))) (p8_weights (p0_values (p9_byRules s9))) (p8_places (p0_values (p9_byRules s9))) (p8_aboves (p0_values (p9_byRules s9))) (p8_belows (p0_values (p9_byRules s9))) (p1_above (p8_reduced (p0_values (p9_byRules s9)))) (p1_below (p8_reduced (p0_values (p9_byRules s9)))) (p8_papers (p0_values (p9_byRules s9))) (p5_overs (p0_order (p9_byRules s9))) (p5_unders (p0_order (p9_byRules s9))) (p5_marks (p0_order (p9_byRules s9))) (p5_wrongs (p0_order (p9_byRules s9))) (p5_papers (p0_order (p9_byRules s9))) (p0_sums (p9_byRules s9)) (p0_weighs (p9_byRules s9)) (p0_downs (p9_byRules s9)) (p1_above (p9_fraction s9)) (p1_below (p9_fraction s9)) (pSB_a (p9_said s9)) (pSB_m (p9_said s9)) (pSB_f (p9_said s9)) (pSB_l (p9_said s9)) (pSB_n (p9_said s9)) (xs (i + 1)) (xs (i + 2)) (by rw [hu]; exact Option.some_ne_none _)) svV_X9_under kw597 rfl rfl hPc hDc hSc rfl rfl hl.1 (Nat.le_of_ble_eq_true rfl) dL_law_609 ⟨Nat.le_of_ble_eq_true rfl, Nat.le_of_ble_eq_true rfl, rfl, rfl, hcl, hsl⟩) [(0, 132)] rfl rfl rfl (fun _ => rfl) (fun w H locs ew nw hP hD hS => ?_)
  obtain rfl := Option.some.inj (hu.symm.trans ew)
  have hP : va_P g.1 vwCl (w9s a0 g (st_X9_under s9 u) ++ w10s a1 g s10) H := hP
  have hD : va_D (fun q : Nat => s.heap.size ≤ q) (w9s a0 g (st_X9_under s9 u) ++ w10s a1 g s10) := hD
  refine lv_aload_n hx hb dL_law_612 rfl (lv_at hl 3 rfl) ?_
  refine lv_aload_n hx hb dL_law_613 rfl (lv_at hl 1 rfl) ?_
  refine lv_iload_n hx hb dL_law_614 rfl (lv_at hl 0 rfl) ?_
  refine lv_iconst (v := 1) hx hb dL_law_615 (by decide) ?_
  refine lv_iadd hx hb dL_law_616 ?_
  refine nmI (nI_p i 1 (by decide)) ?_
  refine va_sld hx hb hX hbl hbA hS (vp_in_nI (show i + 1 < L by omega) (by omega)) dL_law_617 ?_
  refine nmI (z := xs (i + 1)) (by rw [nI_clamp (by omega)]) ?_
  refine lv_aload_n hx hb dL_law_618 rfl (lv_at hl 1 rfl) ?_
  refine lv_iload_n hx hb dL_law_619 rfl (lv_at hl 0 rfl) ?_
  refine lv_iconst (v := 2) hx hb dL_law_620 (by decide) ?_
  refine lv_iadd hx hb dL_law_621 ?_
  refine nmI (nI_p i 2 (by decide)) ?_
  refine va_sld hx hb hX hbl hbA hS (vp_in_nI (show i + 2 < L by omega) (by omega)) dL_law_622 ?_
  refine nmI (z := xs (i + 2)) (by rw [nI_clamp (by omega)]) ?_
  refine cI hP hD hS hA hE (fun hPc hDc hSc => rV (As := [.int (xs (i + 1)), .int (xs (i + 2))]) (rest := [.int u.1]) hx hb hml hown hts hK (c_X10_under l g a1 (p10_papers s10) (p10_raw s10) (p10_kind s10) (p10_figure s10) (p10_heavy s10) (p10_place s10) (p10_rules s10) (p10_lower s10) (p10_upper s10) (p10_limits s10) (p10_limit s10) (p10_ties s10) (p10_letter s10) (p10_letters s10) (p10_told s10) (p10_tolds s10) (p10_places s10) (p10_cell s10) (p10_refusals s10) (p10_imaged s10) (p10_hasImage s10) (p10_before s10) (p10_up s10) (p10_down s10) (p10_beneath s10) (p10_numberUp s10) (p10_numberDown s10) (p10_block s10) (p10_blocks s10) (p10_merged s10) (p10_valueUp s10) (p10_valueDown s10) (p10_said s10) (p10_saids s10) (p10_at s10) (p10_number s10) (xs (i + 1)) (xs (i + 2)) (by rw [hv]; exact Option.some_ne_none _)) svV_X10_under kw1442 rfl rfl hPc hDc hSc rfl rfl hl.1 (Nat.le_of_ble_eq_true rfl) dL_law_623 ⟨Nat.le_of_ble_eq_true rfl, Nat.le_of_ble_eq_true rfl, rfl, rfl, hcl, hsl⟩) [(132, 22)] rfl rfl rfl (fun _ => rfl) (fun w H locs ew nw hP hD hS => ?_)
  obtain rfl := Option.some.inj (hv.symm.trans ew)
  have hP : va_P g.1 vwCl (w9s a0 g (st_X9_under s9 u) ++ w10s a1 g (st_X10_under s10 v)) H := hP
  have hD : va_D (fun q : Nat => s.heap.size ≤ q) (w9s a0 g (st_X9_under s9 u) ++ w10s a1 g (st_X10_under s10 v)) := hD
  refine lv_icmp_eq (tgt := 1529) hx hb dL_law_626 (by decide) (fun _ => ?_) (fun c => absurd he c)
  refine W.widen (k := cells + 24) (n := slots + 7200) (by omega) (by omega) ?_
  exact kk (st_X9_under s9 u) (st_X10_under s10 v) _ _ hR hP hD hS
/-- pairs -/
abbrev OP_pairs (Rel : T9 → T10 → Prop) : Prop := ∀ (s9 : T9) (s10 : T10) (p1 : Int32), Rel s9 s10 → ∃ u v, m_X9_pairs s9 p1 = some u ∧ m_X10_pairs s10 p1 = some v ∧ u.1 = v.1 ∧ Rel (st_X9_pairs s9 u) (st_X10_pairs s10 v)
set_option maxHeartbeats 4000000 in
set_option maxRecDepth 100000 in
theorem law_pairs {p : Program} {e : Env} {s : State} {m : MethodId} {below : List Frame} {meth : Method} {c : Code} (l : Launch) (g : GG) (Rel : T9 → T10 → Prop) (hop : OP_pairs Rel) {b L : Nat} {xs : Nat → Int32} (hL : L ≤ 2560) (hx : p.tables.exec = Jvm.exec) (hb : c.code = code) (hml : c.maxLocals = 4) (hown : s.vm.findClass RL = some m.cls) (hts : ∀ w ∈ G, w.before #[Value.ref b] s = true) (hX : va_X b L xs s s.heap) (hbl : b < s.heap.size) (hK : NK g s) (hE : SK g (fun q : Nat => s.heap.size ≤ q) s s.heap) (a0 a1 : Nat → Nat) (i : Nat) (hi : i + 5 ≤ L) (s9 : T9) (s10 : T10) (hR : Rel s9 s10) {H : Heap} {locs : List Loc} {ls : Array Slot} {cells slots : Nat} (hcl0 : cells + 24 ≤ 600000) (hsl0 : slots + 7200 ≤ 7302250) (hP : va_P g.1 vwCl (w9s a0 g s9 ++ w10s a1 g s10) H) (hD : va_D (fun q : Nat => s.heap.size ≤ q) (w9s a0 g s9 ++ w10s a1 g s10)) (hS : va_S (fun q : Nat => s.heap.size ≤ q) s.heap H locs) (hl : lv_has ls 4 [(3, .int (nI i)), (0, .ref b), (1, .ref (a0 0)), (2, .ref (a1 0))])
    (kk : ∀ (s9 : T9) (s10 : T10) (H : Heap) (locs : List Loc), Rel s9 s10 → va_P g.1 vwCl (w9s a0 g s9 ++ w10s a1 g s10) H → va_D (fun q : Nat => s.heap.size ≤ q) (w9s a0 g s9 ++ w10s a1 g s10) → va_S (fun q : Nat => s.heap.size ≤ q) s.heap H locs → W p l e room_1 s m #[Value.ref b] below meth c H locs (cells + 24) (slots + 7200) (lw_Z below #[Value.ref b] s) (F0 m 1529 ls [])) :
    W p l e room_1 s m #[Value.ref b] below meth c H locs cells slots (lw_Z below #[Value.ref b] s) (F0 m 631 ls []) := by
  have hA : ∀ q : Nat, s.heap.size ≤ q → (fun q : Nat => s.heap.size ≤ q) q := fun _ h => h
  have hbA : ¬ (fun q : Nat => s.heap.size ≤ q) b := Nat.not_le.mpr hbl
  have hcl : cells + 0 ≤ room_1.cells := by show cells + 0 ≤ 600000; omega
  have hsl : slots + 0 ≤ room_1.slots := by show slots + 0 ≤ 7302250; omega
  obtain ⟨u, v, hu, hv, he, hR⟩ := hop s9 s10 (xs (i + 1)) hR
  refine lv_aload_n hx hb dL_law_631 rfl (lv_at hl 2 rfl) ?_
  refine lv_aload_n hx hb dL_law_632 rfl (lv_at hl 1 rfl) ?_
  refine lv_iload_n hx hb dL_law_633 rfl (lv_at hl 0 rfl) ?_
  refine lv_iconst (v := 1) hx hb dL_law_634 (by decide) ?_
  refine lv_iadd hx hb dL_law_635 ?_
  refine nmI (nI_p i 1 (by decide)) ?_
  refine va_sld hx hb hX hbl hbA hS (vp_in_nI (show i + 1 < L by omega) (by omega)) dL_law_636 ?_
  refine nmI (z := xs (i + 1)) (by rw [nI_clamp (by omega)]) ?_
  refine cI hP hD hS hA hE (fun hPc hDc hSc => rV (As := [.int (xs (i + 1))]) (rest := []) hx hb hml hown hts hK (c_X9_pairs l g a0 (p6_raws (p9_now s9)) (p6_kinds (p9_now s9)) (p6_figures (p9_now s9)) (p6_heavies (p9_now s9)) (p6_places (p9_now s9)) (p6_papers (p9_now s9)) (p6_lowers (p9_now s9)) (p6_uppers (p9_now s9)) (p6_rules (p9_now s9)) (p6_bounds (p9_now s9)) (p6_boundCount (p9_now s9)) (p6_tieWay (p9_now s9)) (p6_reached (p9_now s9)) (p6_raws (p9_kept s9)) (p6_kinds (p9_kept s9)) (p6_figures (p9_kept s9)) (p6_heavies (p9_kept s9)) (p6_places (p9_kept s9)) (p6_papers (p9_kept s9)) (p6_lowers (p9_kept s9)) (p6_uppers (p9_kept s9)) (p6_rules (p9_kept s9)) (p6_bounds (p9_kept s9)) (p6_boundCount (p9_kept s9)) (p6_tieWay (p9_kept s9)) (p6_reached (p9_kept s9)) (p6_raws (p9_spare s9)) (p6_kinds (p9_spare s9)) (p6_figures (p9_spare s9)) (p6_heavies (p9_spare s9)) (p6_places (p9_spare s9)) (p6_papers (p9_spare s9)) (p6_lowers (p9_spare s9)) (p6_uppers (p9_spare s9)) (p6_rules (p9_spare s9)) (p6_bounds (p9_spare s9)) (p6_boundCount (p9_spare s9)) (p6_tieWay (p9_spare s9)) (p6_reached (p9_spare s9)) (p9_isKept s9) (p3_signs (p9_letters s9)) (p3_numbers (p9_letters s9)) (p3_size (p9_letters s9)) (p3_at (p9_letters s9)) (p3_word (p9_letters s9)) (p9_told s9) (p9_toldCount s9) (p7_cells (p9_shelves s9)) (p7_sizes (p9_shelves s9)) (p7_made (p9_shelves s9)) (p9_refusals s9) (p5_overs (p9_order s9)) (p5_unders (p9_order s9)) (p5_marks (p9_order s9)) (p5_wrongs (p9_order s9)) (p5_papers (p9_order s9)) (p8_marks (p4_values (p9_standing s9))) (p8_weights (p4_values (p9_standing s9))) (p8_places (p4_values (p9_standing s9))) (p8_aboves (p4_values (p9_standing s9))) (p8_belows (p4_values (p9_standing s9))) (p1_above (p8_reduced (p4_values (p9_standing s9)))) (p1_below (p8_reduced (p4_values (p9_standing s9)))) (p8_papers (p4_values (p9_standing s9))) (p4_blocks (p9_standing s9)) (p4_tops (p9_standing s9)) (p4_bottoms (p9_standing s9)) (p4_blocksNow (p9_standing s9)) (p4_mergesDone (p9_standing s9)) (p4_loss (p9_standing s9)) (p8_marks (p0_values (p9_byRules s9))) (p8_weights (p0_values (p9_byRules s9))) (p8_places (p0_values (p9_byRules s9))) (p8_aboves (p0_values (p9_byRules s9))) (p8_belows (p0_values (p9_byRules s9))) (p1_above (p8_reduced (p0_values (p9_byRules s9)))) (p1_below (p8_reduced (p0_values (p9_byRules s9)))) (p8_papers (p0_values (p9_byRules s9))) (p5_overs (p0_order (p9_byRules s9))) (p5_unders (p0_order (p9_byRules s9))) (p5_marks (p0_order (p9_byRules s9))) (p5_wrongs (p0_order (p9_byRules s9))) (p5_papers (p0_order (p9_byRules s9))) (p0_sums (p9_byRules s9)) (p0_weighs (p9_byRules s9)) (p0_downs (p9_byRules s9)) (p1_above (p9_fraction s9)) (p1_below (p9_fraction s9)) (pSB_a (p9_said s9)) (pSB_m (p9_said s9)) (pSB_f (p9_said s9)) (pSB_l (p9_said s9)) (pSB_n (p9_said s9)) (xs (i + 1)) (by rw [hu]; exact Option.some_ne_none _)) svV_X9_pairs kw603 rfl rfl hPc hDc hSc rfl rfl hl.1 (Nat.le_of_ble_eq_true rfl) dL_law_637 ⟨Nat.le_of_ble_eq_true rfl, Nat.le_of_ble_eq_true rfl, rfl, rfl, hcl, hsl⟩) [(0, 132)] rfl rfl rfl (fun _ => rfl) (fun w H locs ew nw hP hD hS => ?_)
  obtain rfl := Option.some.inj (hu.symm.trans ew)
  have hP : va_P g.1 vwCl (w9s a0 g (st_X9_pairs s9 u) ++ w10s a1 g s10) H := hP
  have hD : va_D (fun q : Nat => s.heap.size ≤ q) (w9s a0 g (st_X9_pairs s9 u) ++ w10s a1 g s10) := hD
  refine lv_aload_n hx hb dL_law_640 rfl (lv_at hl 3 rfl) ?_
  refine lv_aload_n hx hb dL_law_641 rfl (lv_at hl 1 rfl) ?_
  refine lv_iload_n hx hb dL_law_642 rfl (lv_at hl 0 rfl) ?_
  refine lv_iconst (v := 1) hx hb dL_law_643 (by decide) ?_
  refine lv_iadd hx hb dL_law_644 ?_
  refine nmI (nI_p i 1 (by decide)) ?_
  refine va_sld hx hb hX hbl hbA hS (vp_in_nI (show i + 1 < L by omega) (by omega)) dL_law_645 ?_
  refine nmI (z := xs (i + 1)) (by rw [nI_clamp (by omega)]) ?_
  refine cI hP hD hS hA hE (fun hPc hDc hSc => rV (As := [.int (xs (i + 1))]) (rest := [.int u.1]) hx hb hml hown hts hK (c_X10_pairs l g a1 (p10_papers s10) (p10_raw s10) (p10_kind s10) (p10_figure s10) (p10_heavy s10) (p10_place s10) (p10_rules s10) (p10_lower s10) (p10_upper s10) (p10_limits s10) (p10_limit s10) (p10_ties s10) (p10_letter s10) (p10_letters s10) (p10_told s10) (p10_tolds s10) (p10_places s10) (p10_cell s10) (p10_refusals s10) (p10_imaged s10) (p10_hasImage s10) (p10_before s10) (p10_up s10) (p10_down s10) (p10_beneath s10) (p10_numberUp s10) (p10_numberDown s10) (p10_block s10) (p10_blocks s10) (p10_merged s10) (p10_valueUp s10) (p10_valueDown s10) (p10_said s10) (p10_saids s10) (p10_at s10) (p10_number s10) (xs (i + 1)) (by rw [hv]; exact Option.some_ne_none _)) svV_X10_pairs kw1446 rfl rfl hPc hDc hSc rfl rfl hl.1 (Nat.le_of_ble_eq_true rfl) dL_law_646 ⟨Nat.le_of_ble_eq_true rfl, Nat.le_of_ble_eq_true rfl, rfl, rfl, hcl, hsl⟩) [(132, 22)] rfl rfl rfl (fun _ => rfl) (fun w H locs ew nw hP hD hS => ?_)
  obtain rfl := Option.some.inj (hv.symm.trans ew)
  have hP : va_P g.1 vwCl (w9s a0 g (st_X9_pairs s9 u) ++ w10s a1 g (st_X10_pairs s10 v)) H := hP
  have hD : va_D (fun q : Nat => s.heap.size ≤ q) (w9s a0 g (st_X9_pairs s9 u) ++ w10s a1 g (st_X10_pairs s10 v)) := hD
  refine lv_icmp_eq (tgt := 1529) hx hb dL_law_649 (by decide) (fun _ => ?_) (fun c => absurd he c)
  refine W.widen (k := cells + 24) (n := slots + 7200) (by omega) (by omega) ?_
  exact kk (st_X9_pairs s9 u) (st_X10_pairs s10 v) _ _ hR hP hD hS
/-- line -/
abbrev OP_line (Rel : T9 → T10 → Prop) : Prop := ∀ (s9 : T9) (s10 : T10) (p1 p2 p3 : Int32), Rel s9 s10 → ∃ u v, m_X9_line s9 p1 p2 p3 = some u ∧ m_X10_line s10 p1 p2 p3 = some v ∧ u.1 = v.1 ∧ Rel (st_X9_line s9 u) (st_X10_line s10 v)
set_option maxHeartbeats 4000000 in
set_option maxRecDepth 100000 in
theorem law_line {p : Program} {e : Env} {s : State} {m : MethodId} {below : List Frame} {meth : Method} {c : Code} (l : Launch) (g : GG) (Rel : T9 → T10 → Prop) (hop : OP_line Rel) {b L : Nat} {xs : Nat → Int32} (hL : L ≤ 2560) (hx : p.tables.exec = Jvm.exec) (hb : c.code = code) (hml : c.maxLocals = 4) (hown : s.vm.findClass RL = some m.cls) (hts : ∀ w ∈ G, w.before #[Value.ref b] s = true) (hX : va_X b L xs s s.heap) (hbl : b < s.heap.size) (hK : NK g s) (hE : SK g (fun q : Nat => s.heap.size ≤ q) s s.heap) (a0 a1 : Nat → Nat) (i : Nat) (hi : i + 5 ≤ L) (s9 : T9) (s10 : T10) (hR : Rel s9 s10) {H : Heap} {locs : List Loc} {ls : Array Slot} {cells slots : Nat} (hcl0 : cells + 24 ≤ 600000) (hsl0 : slots + 7200 ≤ 7302250) (hP : va_P g.1 vwCl (w9s a0 g s9 ++ w10s a1 g s10) H) (hD : va_D (fun q : Nat => s.heap.size ≤ q) (w9s a0 g s9 ++ w10s a1 g s10)) (hS : va_S (fun q : Nat => s.heap.size ≤ q) s.heap H locs) (hl : lv_has ls 4 [(3, .int (nI i)), (0, .ref b), (1, .ref (a0 0)), (2, .ref (a1 0))])
    (kk : ∀ (s9 : T9) (s10 : T10) (H : Heap) (locs : List Loc), Rel s9 s10 → va_P g.1 vwCl (w9s a0 g s9 ++ w10s a1 g s10) H → va_D (fun q : Nat => s.heap.size ≤ q) (w9s a0 g s9 ++ w10s a1 g s10) → va_S (fun q : Nat => s.heap.size ≤ q) s.heap H locs → W p l e room_1 s m #[Value.ref b] below meth c H locs (cells + 24) (slots + 7200) (lw_Z below #[Value.ref b] s) (F0 m 1529 ls [])) :
    W p l e room_1 s m #[Value.ref b] below meth c H locs cells slots (lw_Z below #[Value.ref b] s) (F0 m 654 ls []) := by
  have hA : ∀ q : Nat, s.heap.size ≤ q → (fun q : Nat => s.heap.size ≤ q) q := fun _ h => h
  have hbA : ¬ (fun q : Nat => s.heap.size ≤ q) b := Nat.not_le.mpr hbl
  have hcl : cells + 0 ≤ room_1.cells := by show cells + 0 ≤ 600000; omega
  have hsl : slots + 0 ≤ room_1.slots := by show slots + 0 ≤ 7302250; omega
  obtain ⟨u, v, hu, hv, he, hR⟩ := hop s9 s10 (xs (i + 1)) (xs (i + 2)) (xs (i + 3)) hR
  refine lv_aload_n hx hb dL_law_654 rfl (lv_at hl 2 rfl) ?_
  refine lv_aload_n hx hb dL_law_655 rfl (lv_at hl 1 rfl) ?_
  refine lv_iload_n hx hb dL_law_656 rfl (lv_at hl 0 rfl) ?_
  refine lv_iconst (v := 1) hx hb dL_law_657 (by decide) ?_
  refine lv_iadd hx hb dL_law_658 ?_
  refine nmI (nI_p i 1 (by decide)) ?_
  refine va_sld hx hb hX hbl hbA hS (vp_in_nI (show i + 1 < L by omega) (by omega)) dL_law_659 ?_
  refine nmI (z := xs (i + 1)) (by rw [nI_clamp (by omega)]) ?_
  refine lv_aload_n hx hb dL_law_660 rfl (lv_at hl 1 rfl) ?_
  refine lv_iload_n hx hb dL_law_661 rfl (lv_at hl 0 rfl) ?_
  refine lv_iconst (v := 2) hx hb dL_law_662 (by decide) ?_
  refine lv_iadd hx hb dL_law_663 ?_
  refine nmI (nI_p i 2 (by decide)) ?_
  refine va_sld hx hb hX hbl hbA hS (vp_in_nI (show i + 2 < L by omega) (by omega)) dL_law_664 ?_
  refine nmI (z := xs (i + 2)) (by rw [nI_clamp (by omega)]) ?_
  refine lv_aload_n hx hb dL_law_665 rfl (lv_at hl 1 rfl) ?_
  refine lv_iload_n hx hb dL_law_666 rfl (lv_at hl 0 rfl) ?_
  refine lv_iconst (v := 3) hx hb dL_law_667 (by decide) ?_
  refine lv_iadd hx hb dL_law_668 ?_
  refine nmI (nI_p i 3 (by decide)) ?_
  refine va_sld hx hb hX hbl hbA hS (vp_in_nI (show i + 3 < L by omega) (by omega)) dL_law_669 ?_
  refine nmI (z := xs (i + 3)) (by rw [nI_clamp (by omega)]) ?_
  refine cL hP hD hS hA hE (fun hPc hDc hSc => rV (As := [.int (xs (i + 1)), .int (xs (i + 2)), .int (xs (i + 3))]) (rest := []) hx hb hml hown hts hK (c_X9_line l g a0 (p6_raws (p9_now s9)) (p6_kinds (p9_now s9)) (p6_figures (p9_now s9)) (p6_heavies (p9_now s9)) (p6_places (p9_now s9)) (p6_papers (p9_now s9)) (p6_lowers (p9_now s9)) (p6_uppers (p9_now s9)) (p6_rules (p9_now s9)) (p6_bounds (p9_now s9)) (p6_boundCount (p9_now s9)) (p6_tieWay (p9_now s9)) (p6_reached (p9_now s9)) (p6_raws (p9_kept s9)) (p6_kinds (p9_kept s9)) (p6_figures (p9_kept s9)) (p6_heavies (p9_kept s9)) (p6_places (p9_kept s9)) (p6_papers (p9_kept s9)) (p6_lowers (p9_kept s9)) (p6_uppers (p9_kept s9)) (p6_rules (p9_kept s9)) (p6_bounds (p9_kept s9)) (p6_boundCount (p9_kept s9)) (p6_tieWay (p9_kept s9)) (p6_reached (p9_kept s9)) (p6_raws (p9_spare s9)) (p6_kinds (p9_spare s9)) (p6_figures (p9_spare s9)) (p6_heavies (p9_spare s9)) (p6_places (p9_spare s9)) (p6_papers (p9_spare s9)) (p6_lowers (p9_spare s9)) (p6_uppers (p9_spare s9)) (p6_rules (p9_spare s9)) (p6_bounds (p9_spare s9)) (p6_boundCount (p9_spare s9)) (p6_tieWay (p9_spare s9)) (p6_reached (p9_spare s9)) (p9_isKept s9) (p3_signs (p9_letters s9)) (p3_numbers (p9_letters s9)) (p3_size (p9_letters s9)) (p3_at (p9_letters s9)) (p3_word (p9_letters s9)) (p9_told s9) (p9_toldCount s9) (p7_cells (p9_shelves s9)) (p7_sizes (p9_shelves s9)) (p7_made (p9_shelves s9)) (p9_refusals s9) (p5_overs (p9_order s9)) (p5_unders (p9_order s9)) (p5_marks (p9_order s9)) (p5_wrongs (p9_order s9)) (p5_papers (p9_order s9)) (p8_marks (p4_values (p9_standing s9))) (p8_weights (p4_values (p9_standing s9))) (p8_places (p4_values (p9_standing s9))) (p8_aboves (p4_values (p9_standing s9))) (p8_belows (p4_values (p9_standing s9))) (p1_above (p8_reduced (p4_values (p9_standing s9)))) (p1_below (p8_reduced (p4_values (p9_standing s9)))) (p8_papers (p4_values (p9_standing s9))) (p4_blocks (p9_standing s9)) (p4_tops (p9_standing s9)) (p4_bottoms (p9_standing s9)) (p4_blocksNow (p9_standing s9)) (p4_mergesDone (p9_standing s9)) (p4_loss (p9_standing s9)) (p8_marks (p0_values (p9_byRules s9))) (p8_weights (p0_values (p9_byRules s9))) (p8_places (p0_values (p9_byRules s9))) (p8_aboves (p0_values (p9_byRules s9))) (p8_belows (p0_values (p9_byRules s9))) (p1_above (p8_reduced (p0_values (p9_byRules s9)))) (p1_below (p8_reduced (p0_values (p9_byRules s9)))) (p8_papers (p0_values (p9_byRules s9))) (p5_overs (p0_order (p9_byRules s9))) (p5_unders (p0_order (p9_byRules s9))) (p5_marks (p0_order (p9_byRules s9))) (p5_wrongs (p0_order (p9_byRules s9))) (p5_papers (p0_order (p9_byRules s9))) (p0_sums (p9_byRules s9)) (p0_weighs (p9_byRules s9)) (p0_downs (p9_byRules s9)) (p1_above (p9_fraction s9)) (p1_below (p9_fraction s9)) (pSB_a (p9_said s9)) (pSB_m (p9_said s9)) (pSB_f (p9_said s9)) (pSB_l (p9_said s9)) (pSB_n (p9_said s9)) (xs (i + 1)) (xs (i + 2)) (xs (i + 3)) (by rw [hu]; exact Option.some_ne_none _)) svV_X9_line kw646 rfl rfl hPc hDc hSc rfl rfl hl.1 (Nat.le_of_ble_eq_true rfl) dL_law_670 ⟨Nat.le_of_ble_eq_true rfl, Nat.le_of_ble_eq_true rfl, rfl, rfl, hcl, hsl⟩) [(0, 132)] rfl rfl rfl (fun _ => rfl) (fun w H locs ew hP hD hS => ?_)
  obtain rfl := Option.some.inj (hu.symm.trans ew)
  have hP : va_P g.1 vwCl (w9s a0 g (st_X9_line s9 u) ++ w10s a1 g s10) H := hP
  have hD : va_D (fun q : Nat => s.heap.size ≤ q) (w9s a0 g (st_X9_line s9 u) ++ w10s a1 g s10) := hD
  refine lv_aload_n hx hb dL_law_673 rfl (lv_at hl 3 rfl) ?_
  refine lv_aload_n hx hb dL_law_674 rfl (lv_at hl 1 rfl) ?_
  refine lv_iload_n hx hb dL_law_675 rfl (lv_at hl 0 rfl) ?_
  refine lv_iconst (v := 1) hx hb dL_law_676 (by decide) ?_
  refine lv_iadd hx hb dL_law_677 ?_
  refine nmI (nI_p i 1 (by decide)) ?_
  refine va_sld hx hb hX hbl hbA hS (vp_in_nI (show i + 1 < L by omega) (by omega)) dL_law_678 ?_
  refine nmI (z := xs (i + 1)) (by rw [nI_clamp (by omega)]) ?_
  refine lv_aload_n hx hb dL_law_679 rfl (lv_at hl 1 rfl) ?_
  refine lv_iload_n hx hb dL_law_680 rfl (lv_at hl 0 rfl) ?_
  refine lv_iconst (v := 2) hx hb dL_law_681 (by decide) ?_
  refine lv_iadd hx hb dL_law_682 ?_
  refine nmI (nI_p i 2 (by decide)) ?_
  refine va_sld hx hb hX hbl hbA hS (vp_in_nI (show i + 2 < L by omega) (by omega)) dL_law_683 ?_
  refine nmI (z := xs (i + 2)) (by rw [nI_clamp (by omega)]) ?_
  refine lv_aload_n hx hb dL_law_684 rfl (lv_at hl 1 rfl) ?_
  refine lv_iload_n hx hb dL_law_685 rfl (lv_at hl 0 rfl) ?_
  refine lv_iconst (v := 3) hx hb dL_law_686 (by decide) ?_
  refine lv_iadd hx hb dL_law_687 ?_
  refine nmI (nI_p i 3 (by decide)) ?_
  refine va_sld hx hb hX hbl hbA hS (vp_in_nI (show i + 3 < L by omega) (by omega)) dL_law_688 ?_
  refine nmI (z := xs (i + 3)) (by rw [nI_clamp (by omega)]) ?_
  refine cL hP hD hS hA hE (fun hPc hDc hSc => rV (As := [.int (xs (i + 1)), .int (xs (i + 2)), .int (xs (i + 3))]) (rest := [.long u.1]) hx hb hml hown hts hK (c_X10_line l g a1 (p10_papers s10) (p10_raw s10) (p10_kind s10) (p10_figure s10) (p10_heavy s10) (p10_place s10) (p10_rules s10) (p10_lower s10) (p10_upper s10) (p10_limits s10) (p10_limit s10) (p10_ties s10) (p10_letter s10) (p10_letters s10) (p10_told s10) (p10_tolds s10) (p10_places s10) (p10_cell s10) (p10_refusals s10) (p10_imaged s10) (p10_hasImage s10) (p10_before s10) (p10_up s10) (p10_down s10) (p10_beneath s10) (p10_numberUp s10) (p10_numberDown s10) (p10_block s10) (p10_blocks s10) (p10_merged s10) (p10_valueUp s10) (p10_valueDown s10) (p10_said s10) (p10_saids s10) (p10_at s10) (p10_number s10) (xs (i + 1)) (xs (i + 2)) (xs (i + 3)) (by rw [hv]; exact Option.some_ne_none _)) svV_X10_line kw1460 rfl rfl hPc hDc hSc rfl rfl hl.1 (Nat.le_of_ble_eq_true rfl) dL_law_689 ⟨Nat.le_of_ble_eq_true rfl, Nat.le_of_ble_eq_true rfl, rfl, rfl, hcl, hsl⟩) [(132, 22)] rfl rfl rfl (fun _ => rfl) (fun w H locs ew hP hD hS => ?_)
  obtain rfl := Option.some.inj (hv.symm.trans ew)
  have hP : va_P g.1 vwCl (w9s a0 g (st_X9_line s9 u) ++ w10s a1 g (st_X10_line s10 v)) H := hP
  have hD : va_D (fun q : Nat => s.heap.size ≤ q) (w9s a0 g (st_X9_line s9 u) ++ w10s a1 g (st_X10_line s10 v)) := hD
  refine lc_eq (tgt := 1529) hx hb dL_law_692 dL_law_693 (by decide) (fun _ => ?_) (fun c => absurd he c)
  refine W.widen (k := cells + 24) (n := slots + 7200) (by omega) (by omega) ?_
  exact kk (st_X9_line s9 u) (st_X10_line s10 v) _ _ hR hP hD hS
/-- block -/
abbrev OP_block (Rel : T9 → T10 → Prop) : Prop := ∀ (s9 : T9) (s10 : T10) (p1 p2 : Int32), Rel s9 s10 → ∃ u v, m_X9_block s9 p1 p2 = some u ∧ m_X10_block s10 p1 p2 = some v ∧ u.1 = v.1 ∧ Rel (st_X9_block s9 u) (st_X10_block s10 v)
set_option maxHeartbeats 4000000 in
set_option maxRecDepth 100000 in
theorem law_block {p : Program} {e : Env} {s : State} {m : MethodId} {below : List Frame} {meth : Method} {c : Code} (l : Launch) (g : GG) (Rel : T9 → T10 → Prop) (hop : OP_block Rel) {b L : Nat} {xs : Nat → Int32} (hL : L ≤ 2560) (hx : p.tables.exec = Jvm.exec) (hb : c.code = code) (hml : c.maxLocals = 4) (hown : s.vm.findClass RL = some m.cls) (hts : ∀ w ∈ G, w.before #[Value.ref b] s = true) (hX : va_X b L xs s s.heap) (hbl : b < s.heap.size) (hK : NK g s) (hE : SK g (fun q : Nat => s.heap.size ≤ q) s s.heap) (a0 a1 : Nat → Nat) (i : Nat) (hi : i + 5 ≤ L) (s9 : T9) (s10 : T10) (hR : Rel s9 s10) {H : Heap} {locs : List Loc} {ls : Array Slot} {cells slots : Nat} (hcl0 : cells + 24 ≤ 600000) (hsl0 : slots + 7200 ≤ 7302250) (hP : va_P g.1 vwCl (w9s a0 g s9 ++ w10s a1 g s10) H) (hD : va_D (fun q : Nat => s.heap.size ≤ q) (w9s a0 g s9 ++ w10s a1 g s10)) (hS : va_S (fun q : Nat => s.heap.size ≤ q) s.heap H locs) (hl : lv_has ls 4 [(3, .int (nI i)), (0, .ref b), (1, .ref (a0 0)), (2, .ref (a1 0))])
    (kk : ∀ (s9 : T9) (s10 : T10) (H : Heap) (locs : List Loc), Rel s9 s10 → va_P g.1 vwCl (w9s a0 g s9 ++ w10s a1 g s10) H → va_D (fun q : Nat => s.heap.size ≤ q) (w9s a0 g s9 ++ w10s a1 g s10) → va_S (fun q : Nat => s.heap.size ≤ q) s.heap H locs → W p l e room_1 s m #[Value.ref b] below meth c H locs (cells + 24) (slots + 7200) (lw_Z below #[Value.ref b] s) (F0 m 1529 ls [])) :
    W p l e room_1 s m #[Value.ref b] below meth c H locs cells slots (lw_Z below #[Value.ref b] s) (F0 m 698 ls []) := by
  have hA : ∀ q : Nat, s.heap.size ≤ q → (fun q : Nat => s.heap.size ≤ q) q := fun _ h => h
  have hbA : ¬ (fun q : Nat => s.heap.size ≤ q) b := Nat.not_le.mpr hbl
  have hcl : cells + 0 ≤ room_1.cells := by show cells + 0 ≤ 600000; omega
  have hsl : slots + 0 ≤ room_1.slots := by show slots + 0 ≤ 7302250; omega
  obtain ⟨u, v, hu, hv, he, hR⟩ := hop s9 s10 (xs (i + 1)) (xs (i + 2)) hR
  refine lv_aload_n hx hb dL_law_698 rfl (lv_at hl 2 rfl) ?_
  refine lv_aload_n hx hb dL_law_699 rfl (lv_at hl 1 rfl) ?_
  refine lv_iload_n hx hb dL_law_700 rfl (lv_at hl 0 rfl) ?_
  refine lv_iconst (v := 1) hx hb dL_law_701 (by decide) ?_
  refine lv_iadd hx hb dL_law_702 ?_
  refine nmI (nI_p i 1 (by decide)) ?_
  refine va_sld hx hb hX hbl hbA hS (vp_in_nI (show i + 1 < L by omega) (by omega)) dL_law_703 ?_
  refine nmI (z := xs (i + 1)) (by rw [nI_clamp (by omega)]) ?_
  refine lv_aload_n hx hb dL_law_704 rfl (lv_at hl 1 rfl) ?_
  refine lv_iload_n hx hb dL_law_705 rfl (lv_at hl 0 rfl) ?_
  refine lv_iconst (v := 2) hx hb dL_law_706 (by decide) ?_
  refine lv_iadd hx hb dL_law_707 ?_
  refine nmI (nI_p i 2 (by decide)) ?_
  refine va_sld hx hb hX hbl hbA hS (vp_in_nI (show i + 2 < L by omega) (by omega)) dL_law_708 ?_
  refine nmI (z := xs (i + 2)) (by rw [nI_clamp (by omega)]) ?_
  refine cI hP hD hS hA hE (fun hPc hDc hSc => rV (As := [.int (xs (i + 1)), .int (xs (i + 2))]) (rest := []) hx hb hml hown hts hK (c_X9_block l g a0 (p6_raws (p9_now s9)) (p6_kinds (p9_now s9)) (p6_figures (p9_now s9)) (p6_heavies (p9_now s9)) (p6_places (p9_now s9)) (p6_papers (p9_now s9)) (p6_lowers (p9_now s9)) (p6_uppers (p9_now s9)) (p6_rules (p9_now s9)) (p6_bounds (p9_now s9)) (p6_boundCount (p9_now s9)) (p6_tieWay (p9_now s9)) (p6_reached (p9_now s9)) (p6_raws (p9_kept s9)) (p6_kinds (p9_kept s9)) (p6_figures (p9_kept s9)) (p6_heavies (p9_kept s9)) (p6_places (p9_kept s9)) (p6_papers (p9_kept s9)) (p6_lowers (p9_kept s9)) (p6_uppers (p9_kept s9)) (p6_rules (p9_kept s9)) (p6_bounds (p9_kept s9)) (p6_boundCount (p9_kept s9)) (p6_tieWay (p9_kept s9)) (p6_reached (p9_kept s9)) (p6_raws (p9_spare s9)) (p6_kinds (p9_spare s9)) (p6_figures (p9_spare s9)) (p6_heavies (p9_spare s9)) (p6_places (p9_spare s9)) (p6_papers (p9_spare s9)) (p6_lowers (p9_spare s9)) (p6_uppers (p9_spare s9)) (p6_rules (p9_spare s9)) (p6_bounds (p9_spare s9)) (p6_boundCount (p9_spare s9)) (p6_tieWay (p9_spare s9)) (p6_reached (p9_spare s9)) (p9_isKept s9) (p3_signs (p9_letters s9)) (p3_numbers (p9_letters s9)) (p3_size (p9_letters s9)) (p3_at (p9_letters s9)) (p3_word (p9_letters s9)) (p9_told s9) (p9_toldCount s9) (p7_cells (p9_shelves s9)) (p7_sizes (p9_shelves s9)) (p7_made (p9_shelves s9)) (p9_refusals s9) (p5_overs (p9_order s9)) (p5_unders (p9_order s9)) (p5_marks (p9_order s9)) (p5_wrongs (p9_order s9)) (p5_papers (p9_order s9)) (p8_marks (p4_values (p9_standing s9))) (p8_weights (p4_values (p9_standing s9))) (p8_places (p4_values (p9_standing s9))) (p8_aboves (p4_values (p9_standing s9))) (p8_belows (p4_values (p9_standing s9))) (p1_above (p8_reduced (p4_values (p9_standing s9)))) (p1_below (p8_reduced (p4_values (p9_standing s9)))) (p8_papers (p4_values (p9_standing s9))) (p4_blocks (p9_standing s9)) (p4_tops (p9_standing s9)) (p4_bottoms (p9_standing s9)) (p4_blocksNow (p9_standing s9)) (p4_mergesDone (p9_standing s9)) (p4_loss (p9_standing s9)) (p8_marks (p0_values (p9_byRules s9))) (p8_weights (p0_values (p9_byRules s9))) (p8_places (p0_values (p9_byRules s9))) (p8_aboves (p0_values (p9_byRules s9))) (p8_belows (p0_values (p9_byRules s9))) (p1_above (p8_reduced (p0_values (p9_byRules s9)))) (p1_below (p8_reduced (p0_values (p9_byRules s9)))) (p8_papers (p0_values (p9_byRules s9))) (p5_overs (p0_order (p9_byRules s9))) (p5_unders (p0_order (p9_byRules s9))) (p5_marks (p0_order (p9_byRules s9))) (p5_wrongs (p0_order (p9_byRules s9))) (p5_papers (p0_order (p9_byRules s9))) (p0_sums (p9_byRules s9)) (p0_weighs (p9_byRules s9)) (p0_downs (p9_byRules s9)) (p1_above (p9_fraction s9)) (p1_below (p9_fraction s9)) (pSB_a (p9_said s9)) (pSB_m (p9_said s9)) (pSB_f (p9_said s9)) (pSB_l (p9_said s9)) (pSB_n (p9_said s9)) (xs (i + 1)) (xs (i + 2)) (by rw [hu]; exact Option.some_ne_none _)) svV_X9_block kw781 rfl rfl hPc hDc hSc rfl rfl hl.1 (Nat.le_of_ble_eq_true rfl) dL_law_709 ⟨Nat.le_of_ble_eq_true rfl, Nat.le_of_ble_eq_true rfl, rfl, rfl, hcl, hsl⟩) [(0, 132)] rfl rfl rfl (fun _ => rfl) (fun w H locs ew nw hP hD hS => ?_)
  obtain rfl := Option.some.inj (hu.symm.trans ew)
  have hP : va_P g.1 vwCl (w9s a0 g (st_X9_block s9 u) ++ w10s a1 g s10) H := hP
  have hD : va_D (fun q : Nat => s.heap.size ≤ q) (w9s a0 g (st_X9_block s9 u) ++ w10s a1 g s10) := hD
  refine lv_aload_n hx hb dL_law_712 rfl (lv_at hl 3 rfl) ?_
  refine lv_aload_n hx hb dL_law_713 rfl (lv_at hl 1 rfl) ?_
  refine lv_iload_n hx hb dL_law_714 rfl (lv_at hl 0 rfl) ?_
  refine lv_iconst (v := 1) hx hb dL_law_715 (by decide) ?_
  refine lv_iadd hx hb dL_law_716 ?_
  refine nmI (nI_p i 1 (by decide)) ?_
  refine va_sld hx hb hX hbl hbA hS (vp_in_nI (show i + 1 < L by omega) (by omega)) dL_law_717 ?_
  refine nmI (z := xs (i + 1)) (by rw [nI_clamp (by omega)]) ?_
  refine lv_aload_n hx hb dL_law_718 rfl (lv_at hl 1 rfl) ?_
  refine lv_iload_n hx hb dL_law_719 rfl (lv_at hl 0 rfl) ?_
  refine lv_iconst (v := 2) hx hb dL_law_720 (by decide) ?_
  refine lv_iadd hx hb dL_law_721 ?_
  refine nmI (nI_p i 2 (by decide)) ?_
  refine va_sld hx hb hX hbl hbA hS (vp_in_nI (show i + 2 < L by omega) (by omega)) dL_law_722 ?_
  refine nmI (z := xs (i + 2)) (by rw [nI_clamp (by omega)]) ?_
  refine cI hP hD hS hA hE (fun hPc hDc hSc => rV (As := [.int (xs (i + 1)), .int (xs (i + 2))]) (rest := [.int u.1]) hx hb hml hown hts hK (c_X10_block l g a1 (p10_papers s10) (p10_raw s10) (p10_kind s10) (p10_figure s10) (p10_heavy s10) (p10_place s10) (p10_rules s10) (p10_lower s10) (p10_upper s10) (p10_limits s10) (p10_limit s10) (p10_ties s10) (p10_letter s10) (p10_letters s10) (p10_told s10) (p10_tolds s10) (p10_places s10) (p10_cell s10) (p10_refusals s10) (p10_imaged s10) (p10_hasImage s10) (p10_before s10) (p10_up s10) (p10_down s10) (p10_beneath s10) (p10_numberUp s10) (p10_numberDown s10) (p10_block s10) (p10_blocks s10) (p10_merged s10) (p10_valueUp s10) (p10_valueDown s10) (p10_said s10) (p10_saids s10) (p10_at s10) (p10_number s10) (xs (i + 1)) (xs (i + 2)) (by rw [hv]; exact Option.some_ne_none _)) svV_X10_block kw1522 rfl rfl hPc hDc hSc rfl rfl hl.1 (Nat.le_of_ble_eq_true rfl) dL_law_723 ⟨Nat.le_of_ble_eq_true rfl, Nat.le_of_ble_eq_true rfl, rfl, rfl, hcl, hsl⟩) [(132, 22)] rfl rfl rfl (fun _ => rfl) (fun w H locs ew nw hP hD hS => ?_)
  obtain rfl := Option.some.inj (hv.symm.trans ew)
  have hP : va_P g.1 vwCl (w9s a0 g (st_X9_block s9 u) ++ w10s a1 g (st_X10_block s10 v)) H := hP
  have hD : va_D (fun q : Nat => s.heap.size ≤ q) (w9s a0 g (st_X9_block s9 u) ++ w10s a1 g (st_X10_block s10 v)) := hD
  refine lv_icmp_eq (tgt := 1529) hx hb dL_law_726 (by decide) (fun _ => ?_) (fun c => absurd he c)
  refine W.widen (k := cells + 24) (n := slots + 7200) (by omega) (by omega) ?_
  exact kk (st_X9_block s9 u) (st_X10_block s10 v) _ _ hR hP hD hS
