theorem dL_law_408 : decode cL_law 408 = .ok (.aload_n 1, 1) := by decide +kernel
theorem dL_law_409 : decode cL_law 409 = .ok (.invokevirtual 139, 3) := by decide +kernel
theorem dL_law_412 : decode cL_law 412 = .ok (.aload_n 2, 1) := by decide +kernel
theorem dL_law_413 : decode cL_law 413 = .ok (.invokevirtual 142, 3) := by decide +kernel
theorem dL_law_416 : decode cL_law 416 = .ok (.if_icmp .eq 2402, 3) := by decide +kernel
theorem dL_law_421 : decode cL_law 421 = .ok (.aload_n 1, 1) := by decide +kernel
theorem dL_law_422 : decode cL_law 422 = .ok (.invokevirtual 143, 3) := by decide +kernel
theorem dL_law_425 : decode cL_law 425 = .ok (.aload_n 2, 1) := by decide +kernel
theorem dL_law_426 : decode cL_law 426 = .ok (.invokevirtual 146, 3) := by decide +kernel
theorem dL_law_429 : decode cL_law 429 = .ok (.if_icmp .eq 2389, 3) := by decide +kernel
theorem dL_law_434 : decode cL_law 434 = .ok (.aload_n 1, 1) := by decide +kernel
theorem dL_law_435 : decode cL_law 435 = .ok (.invokevirtual 147, 3) := by decide +kernel
theorem dL_law_438 : decode cL_law 438 = .ok (.aload_n 2, 1) := by decide +kernel
theorem dL_law_439 : decode cL_law 439 = .ok (.invokevirtual 150, 3) := by decide +kernel
theorem dL_law_442 : decode cL_law 442 = .ok (.if_icmp .eq 2376, 3) := by decide +kernel
theorem dL_law_447 : decode cL_law 447 = .ok (.aload_n 1, 1) := by decide +kernel
theorem dL_law_448 : decode cL_law 448 = .ok (.invokevirtual 151, 3) := by decide +kernel
theorem dL_law_451 : decode cL_law 451 = .ok (.aload_n 2, 1) := by decide +kernel
theorem dL_law_452 : decode cL_law 452 = .ok (.invokevirtual 154, 3) := by decide +kernel
theorem dL_law_455 : decode cL_law 455 = .ok (.if_icmp .eq 2363, 3) := by decide +kernel
theorem dL_law_460 : decode cL_law 460 = .ok (.aload_n 1, 1) := by decide +kernel
theorem dL_law_461 : decode cL_law 461 = .ok (.aload_n 0, 1) := by decide +kernel
theorem dL_law_462 : decode cL_law 462 = .ok (.iload 4, 2) := by decide +kernel
theorem dL_law_464 : decode cL_law 464 = .ok (.iconst 1, 1) := by decide +kernel
theorem dL_law_465 : decode cL_law 465 = .ok (.iadd, 1) := by decide +kernel
theorem dL_law_466 : decode cL_law 466 = .ok (.iaload, 1) := by decide +kernel
theorem dL_law_467 : decode cL_law 467 = .ok (.aload_n 3, 1) := by decide +kernel
theorem dL_law_468 : decode cL_law 468 = .ok (.invokestatic 155, 3) := by decide +kernel
theorem dL_law_471 : decode cL_law 471 = .ok (.istore 5, 2) := by decide +kernel
theorem dL_law_473 : decode cL_law 473 = .ok (.aload_n 2, 1) := by decide +kernel
theorem dL_law_474 : decode cL_law 474 = .ok (.aload_n 0, 1) := by decide +kernel
theorem dL_law_475 : decode cL_law 475 = .ok (.iload 4, 2) := by decide +kernel
theorem dL_law_477 : decode cL_law 477 = .ok (.iconst 1, 1) := by decide +kernel
theorem dL_law_478 : decode cL_law 478 = .ok (.iadd, 1) := by decide +kernel
theorem dL_law_479 : decode cL_law 479 = .ok (.iaload, 1) := by decide +kernel
theorem dL_law_480 : decode cL_law 480 = .ok (.invokevirtual 157, 3) := by decide +kernel
theorem dL_law_483 : decode cL_law 483 = .ok (.istore 6, 2) := by decide +kernel
theorem dL_law_485 : decode cL_law 485 = .ok (.aload_n 2, 1) := by decide +kernel
theorem dL_law_486 : decode cL_law 486 = .ok (.invokevirtual 131, 3) := by decide +kernel
theorem dL_law_489 : decode cL_law 489 = .ok (.iload 5, 2) := by decide +kernel
theorem dL_law_491 : decode cL_law 491 = .ok (.if_icmp .eq 5, 3) := by decide +kernel
theorem dL_law_496 : decode cL_law 496 = .ok (.iload 5, 2) := by decide +kernel
theorem dL_law_498 : decode cL_law 498 = .ok (.ifCond .ne 15, 3) := by decide +kernel
theorem dL_law_513 : decode cL_law 513 = .ok (.goto 2305, 3) := by decide +kernel
theorem dL_law_516 : decode cL_law 516 = .ok (.aload_n 1, 1) := by decide +kernel
theorem dL_law_517 : decode cL_law 517 = .ok (.aload_n 0, 1) := by decide +kernel
theorem dL_law_518 : decode cL_law 518 = .ok (.iload 4, 2) := by decide +kernel
theorem dL_law_520 : decode cL_law 520 = .ok (.iconst 1, 1) := by decide +kernel
theorem dL_law_521 : decode cL_law 521 = .ok (.iadd, 1) := by decide +kernel
theorem dL_law_522 : decode cL_law 522 = .ok (.iaload, 1) := by decide +kernel
theorem dL_law_523 : decode cL_law 523 = .ok (.aload_n 3, 1) := by decide +kernel
theorem dL_law_524 : decode cL_law 524 = .ok (.invokestatic 158, 3) := by decide +kernel
theorem dL_law_527 : decode cL_law 527 = .ok (.istore 5, 2) := by decide +kernel
theorem dL_law_529 : decode cL_law 529 = .ok (.aload_n 2, 1) := by decide +kernel
theorem dL_law_530 : decode cL_law 530 = .ok (.aload_n 0, 1) := by decide +kernel
theorem dL_law_531 : decode cL_law 531 = .ok (.iload 4, 2) := by decide +kernel
theorem dL_law_533 : decode cL_law 533 = .ok (.iconst 1, 1) := by decide +kernel
theorem dL_law_534 : decode cL_law 534 = .ok (.iadd, 1) := by decide +kernel
theorem dL_law_535 : decode cL_law 535 = .ok (.iaload, 1) := by decide +kernel
theorem dL_law_536 : decode cL_law 536 = .ok (.invokevirtual 160, 3) := by decide +kernel
theorem dL_law_539 : decode cL_law 539 = .ok (.istore 6, 2) := by decide +kernel
theorem dL_law_541 : decode cL_law 541 = .ok (.aload_n 2, 1) := by decide +kernel
theorem dL_law_542 : decode cL_law 542 = .ok (.invokevirtual 131, 3) := by decide +kernel
theorem dL_law_545 : decode cL_law 545 = .ok (.iload 5, 2) := by decide +kernel
theorem dL_law_547 : decode cL_law 547 = .ok (.if_icmp .eq 5, 3) := by decide +kernel
theorem dL_law_552 : decode cL_law 552 = .ok (.iload 5, 2) := by decide +kernel
theorem dL_law_554 : decode cL_law 554 = .ok (.ifCond .ne 15, 3) := by decide +kernel
theorem dL_law_569 : decode cL_law 569 = .ok (.goto 2249, 3) := by decide +kernel
theorem dL_law_572 : decode cL_law 572 = .ok (.aload_n 1, 1) := by decide +kernel
theorem dL_law_573 : decode cL_law 573 = .ok (.aload_n 0, 1) := by decide +kernel
theorem dL_law_574 : decode cL_law 574 = .ok (.iload 4, 2) := by decide +kernel
theorem dL_law_576 : decode cL_law 576 = .ok (.iconst 1, 1) := by decide +kernel
theorem dL_law_577 : decode cL_law 577 = .ok (.iadd, 1) := by decide +kernel
theorem dL_law_578 : decode cL_law 578 = .ok (.iaload, 1) := by decide +kernel
theorem dL_law_579 : decode cL_law 579 = .ok (.aload_n 3, 1) := by decide +kernel
theorem dL_law_580 : decode cL_law 580 = .ok (.invokestatic 161, 3) := by decide +kernel
theorem dL_law_583 : decode cL_law 583 = .ok (.istore 5, 2) := by decide +kernel
theorem dL_law_585 : decode cL_law 585 = .ok (.aload_n 2, 1) := by decide +kernel
theorem dL_law_586 : decode cL_law 586 = .ok (.aload_n 0, 1) := by decide +kernel
theorem dL_law_587 : decode cL_law 587 = .ok (.iload 4, 2) := by decide +kernel
theorem dL_law_589 : decode cL_law 589 = .ok (.iconst 1, 1) := by decide +kernel
theorem dL_law_590 : decode cL_law 590 = .ok (.iadd, 1) := by decide +kernel
theorem dL_law_591 : decode cL_law 591 = .ok (.iaload, 1) := by decide +kernel
theorem dL_law_592 : decode cL_law 592 = .ok (.invokevirtual 163, 3) := by decide +kernel
theorem dL_law_595 : decode cL_law 595 = .ok (.istore 6, 2) := by decide +kernel
theorem dL_law_597 : decode cL_law 597 = .ok (.aload_n 2, 1) := by decide +kernel
theorem dL_law_598 : decode cL_law 598 = .ok (.invokevirtual 131, 3) := by decide +kernel
theorem dL_law_601 : decode cL_law 601 = .ok (.iload 5, 2) := by decide +kernel
theorem dL_law_603 : decode cL_law 603 = .ok (.if_icmp .eq 5, 3) := by decide +kernel
theorem dL_law_608 : decode cL_law 608 = .ok (.iload 5, 2) := by decide +kernel
theorem dL_law_610 : decode cL_law 610 = .ok (.ifCond .ne 15, 3) := by decide +kernel
theorem dL_law_625 : decode cL_law 625 = .ok (.goto 2193, 3) := by decide +kernel
theorem dL_law_628 : decode cL_law 628 = .ok (.aload_n 1, 1) := by decide +kernel
theorem dL_law_629 : decode cL_law 629 = .ok (.aload_n 0, 1) := by decide +kernel
theorem dL_law_630 : decode cL_law 630 = .ok (.iload 4, 2) := by decide +kernel
theorem dL_law_632 : decode cL_law 632 = .ok (.iconst 1, 1) := by decide +kernel
theorem dL_law_633 : decode cL_law 633 = .ok (.iadd, 1) := by decide +kernel
theorem dL_law_634 : decode cL_law 634 = .ok (.iaload, 1) := by decide +kernel
theorem dL_law_635 : decode cL_law 635 = .ok (.aload_n 0, 1) := by decide +kernel
theorem dL_law_636 : decode cL_law 636 = .ok (.iload 4, 2) := by decide +kernel
theorem dL_law_638 : decode cL_law 638 = .ok (.iconst 2, 1) := by decide +kernel
theorem dL_law_639 : decode cL_law 639 = .ok (.iadd, 1) := by decide +kernel
theorem dL_law_640 : decode cL_law 640 = .ok (.iaload, 1) := by decide +kernel
theorem dL_law_641 : decode cL_law 641 = .ok (.aload_n 3, 1) := by decide +kernel
theorem dL_law_642 : decode cL_law 642 = .ok (.invokestatic 164, 3) := by decide +kernel
theorem dL_law_645 : decode cL_law 645 = .ok (.istore 5, 2) := by decide +kernel
theorem dL_law_647 : decode cL_law 647 = .ok (.aload_n 2, 1) := by decide +kernel
theorem dL_law_648 : decode cL_law 648 = .ok (.aload_n 0, 1) := by decide +kernel
theorem dL_law_649 : decode cL_law 649 = .ok (.iload 4, 2) := by decide +kernel
theorem dL_law_651 : decode cL_law 651 = .ok (.iconst 1, 1) := by decide +kernel
theorem dL_law_652 : decode cL_law 652 = .ok (.iadd, 1) := by decide +kernel
theorem dL_law_653 : decode cL_law 653 = .ok (.iaload, 1) := by decide +kernel
theorem dL_law_654 : decode cL_law 654 = .ok (.aload_n 0, 1) := by decide +kernel
theorem dL_law_655 : decode cL_law 655 = .ok (.iload 4, 2) := by decide +kernel
theorem dL_law_657 : decode cL_law 657 = .ok (.iconst 2, 1) := by decide +kernel
theorem dL_law_658 : decode cL_law 658 = .ok (.iadd, 1) := by decide +kernel
theorem dL_law_659 : decode cL_law 659 = .ok (.iaload, 1) := by decide +kernel
theorem dL_law_660 : decode cL_law 660 = .ok (.invokevirtual 167, 3) := by decide +kernel
theorem dL_law_663 : decode cL_law 663 = .ok (.istore 6, 2) := by decide +kernel
theorem dL_law_665 : decode cL_law 665 = .ok (.aload_n 2, 1) := by decide +kernel
theorem dL_law_666 : decode cL_law 666 = .ok (.invokevirtual 131, 3) := by decide +kernel
theorem dL_law_669 : decode cL_law 669 = .ok (.iload 5, 2) := by decide +kernel
theorem dL_law_671 : decode cL_law 671 = .ok (.if_icmp .eq 5, 3) := by decide +kernel
theorem dL_law_676 : decode cL_law 676 = .ok (.iload 5, 2) := by decide +kernel
theorem dL_law_678 : decode cL_law 678 = .ok (.ifCond .ne 15, 3) := by decide +kernel
theorem dL_law_693 : decode cL_law 693 = .ok (.goto 2125, 3) := by decide +kernel
theorem dL_law_696 : decode cL_law 696 = .ok (.aload_n 1, 1) := by decide +kernel
theorem dL_law_697 : decode cL_law 697 = .ok (.aload_n 0, 1) := by decide +kernel
theorem dL_law_698 : decode cL_law 698 = .ok (.iload 4, 2) := by decide +kernel
theorem dL_law_700 : decode cL_law 700 = .ok (.iconst 1, 1) := by decide +kernel
theorem dL_law_701 : decode cL_law 701 = .ok (.iadd, 1) := by decide +kernel
theorem dL_law_702 : decode cL_law 702 = .ok (.iaload, 1) := by decide +kernel
theorem dL_law_703 : decode cL_law 703 = .ok (.aload_n 0, 1) := by decide +kernel
theorem dL_law_704 : decode cL_law 704 = .ok (.iload 4, 2) := by decide +kernel
theorem dL_law_706 : decode cL_law 706 = .ok (.iconst 2, 1) := by decide +kernel
theorem dL_law_707 : decode cL_law 707 = .ok (.iadd, 1) := by decide +kernel
theorem dL_law_708 : decode cL_law 708 = .ok (.iaload, 1) := by decide +kernel
theorem dL_law_709 : decode cL_law 709 = .ok (.aload_n 3, 1) := by decide +kernel
theorem dL_law_710 : decode cL_law 710 = .ok (.invokestatic 168, 3) := by decide +kernel
theorem dL_law_713 : decode cL_law 713 = .ok (.istore 5, 2) := by decide +kernel
theorem dL_law_715 : decode cL_law 715 = .ok (.aload_n 2, 1) := by decide +kernel
theorem dL_law_716 : decode cL_law 716 = .ok (.aload_n 0, 1) := by decide +kernel
theorem dL_law_717 : decode cL_law 717 = .ok (.iload 4, 2) := by decide +kernel
theorem dL_law_719 : decode cL_law 719 = .ok (.iconst 1, 1) := by decide +kernel
theorem dL_law_720 : decode cL_law 720 = .ok (.iadd, 1) := by decide +kernel
theorem dL_law_721 : decode cL_law 721 = .ok (.iaload, 1) := by decide +kernel
theorem dL_law_722 : decode cL_law 722 = .ok (.aload_n 0, 1) := by decide +kernel
theorem dL_law_723 : decode cL_law 723 = .ok (.iload 4, 2) := by decide +kernel
theorem dL_law_725 : decode cL_law 725 = .ok (.iconst 2, 1) := by decide +kernel
theorem dL_law_726 : decode cL_law 726 = .ok (.iadd, 1) := by decide +kernel
theorem dL_law_727 : decode cL_law 727 = .ok (.iaload, 1) := by decide +kernel
theorem dL_law_728 : decode cL_law 728 = .ok (.invokevirtual 170, 3) := by decide +kernel
theorem dL_law_731 : decode cL_law 731 = .ok (.istore 6, 2) := by decide +kernel
theorem dL_law_733 : decode cL_law 733 = .ok (.aload_n 2, 1) := by decide +kernel
theorem dL_law_734 : decode cL_law 734 = .ok (.invokevirtual 131, 3) := by decide +kernel
theorem dL_law_737 : decode cL_law 737 = .ok (.iload 5, 2) := by decide +kernel
theorem dL_law_739 : decode cL_law 739 = .ok (.if_icmp .eq 5, 3) := by decide +kernel
theorem dL_law_744 : decode cL_law 744 = .ok (.iload 5, 2) := by decide +kernel
theorem dL_law_746 : decode cL_law 746 = .ok (.ifCond .ne 15, 3) := by decide +kernel
theorem dL_law_761 : decode cL_law 761 = .ok (.goto 2057, 3) := by decide +kernel
theorem dL_law_764 : decode cL_law 764 = .ok (.aload_n 1, 1) := by decide +kernel
theorem dL_law_765 : decode cL_law 765 = .ok (.aload_n 0, 1) := by decide +kernel
theorem dL_law_766 : decode cL_law 766 = .ok (.iload 4, 2) := by decide +kernel
theorem dL_law_768 : decode cL_law 768 = .ok (.iconst 1, 1) := by decide +kernel
theorem dL_law_769 : decode cL_law 769 = .ok (.iadd, 1) := by decide +kernel
theorem dL_law_770 : decode cL_law 770 = .ok (.iaload, 1) := by decide +kernel
theorem dL_law_771 : decode cL_law 771 = .ok (.aload_n 0, 1) := by decide +kernel
theorem dL_law_772 : decode cL_law 772 = .ok (.iload 4, 2) := by decide +kernel
theorem dL_law_774 : decode cL_law 774 = .ok (.iconst 2, 1) := by decide +kernel
theorem dL_law_775 : decode cL_law 775 = .ok (.iadd, 1) := by decide +kernel
theorem dL_law_776 : decode cL_law 776 = .ok (.iaload, 1) := by decide +kernel
theorem dL_law_777 : decode cL_law 777 = .ok (.aload_n 3, 1) := by decide +kernel
theorem dL_law_778 : decode cL_law 778 = .ok (.invokestatic 171, 3) := by decide +kernel
theorem dL_law_781 : decode cL_law 781 = .ok (.istore 5, 2) := by decide +kernel
theorem dL_law_783 : decode cL_law 783 = .ok (.aload_n 2, 1) := by decide +kernel
theorem dL_law_784 : decode cL_law 784 = .ok (.aload_n 0, 1) := by decide +kernel
theorem dL_law_785 : decode cL_law 785 = .ok (.iload 4, 2) := by decide +kernel
theorem dL_law_787 : decode cL_law 787 = .ok (.iconst 1, 1) := by decide +kernel
theorem dL_law_788 : decode cL_law 788 = .ok (.iadd, 1) := by decide +kernel
theorem dL_law_789 : decode cL_law 789 = .ok (.iaload, 1) := by decide +kernel
theorem dL_law_790 : decode cL_law 790 = .ok (.aload_n 0, 1) := by decide +kernel
theorem dL_law_791 : decode cL_law 791 = .ok (.iload 4, 2) := by decide +kernel
theorem dL_law_793 : decode cL_law 793 = .ok (.iconst 2, 1) := by decide +kernel
theorem dL_law_794 : decode cL_law 794 = .ok (.iadd, 1) := by decide +kernel
theorem dL_law_795 : decode cL_law 795 = .ok (.iaload, 1) := by decide +kernel
theorem dL_law_796 : decode cL_law 796 = .ok (.invokevirtual 173, 3) := by decide +kernel
theorem dL_law_799 : decode cL_law 799 = .ok (.istore 6, 2) := by decide +kernel
theorem dL_law_801 : decode cL_law 801 = .ok (.aload_n 2, 1) := by decide +kernel
theorem dL_law_802 : decode cL_law 802 = .ok (.invokevirtual 131, 3) := by decide +kernel
theorem dL_law_805 : decode cL_law 805 = .ok (.iload 5, 2) := by decide +kernel
theorem dL_law_807 : decode cL_law 807 = .ok (.if_icmp .eq 5, 3) := by decide +kernel
theorem dL_law_812 : decode cL_law 812 = .ok (.iload 5, 2) := by decide +kernel
theorem dL_law_814 : decode cL_law 814 = .ok (.ifCond .ne 15, 3) := by decide +kernel
theorem dL_law_829 : decode cL_law 829 = .ok (.goto 1989, 3) := by decide +kernel
theorem dL_law_832 : decode cL_law 832 = .ok (.aload_n 1, 1) := by decide +kernel
theorem dL_law_833 : decode cL_law 833 = .ok (.aload_n 0, 1) := by decide +kernel
theorem dL_law_834 : decode cL_law 834 = .ok (.iload 4, 2) := by decide +kernel
theorem dL_law_836 : decode cL_law 836 = .ok (.iconst 1, 1) := by decide +kernel
theorem dL_law_837 : decode cL_law 837 = .ok (.iadd, 1) := by decide +kernel
theorem dL_law_838 : decode cL_law 838 = .ok (.iaload, 1) := by decide +kernel
theorem dL_law_839 : decode cL_law 839 = .ok (.aload_n 0, 1) := by decide +kernel
theorem dL_law_840 : decode cL_law 840 = .ok (.iload 4, 2) := by decide +kernel
theorem dL_law_842 : decode cL_law 842 = .ok (.iconst 2, 1) := by decide +kernel
theorem dL_law_843 : decode cL_law 843 = .ok (.iadd, 1) := by decide +kernel
theorem dL_law_844 : decode cL_law 844 = .ok (.iaload, 1) := by decide +kernel
theorem dL_law_845 : decode cL_law 845 = .ok (.aload_n 3, 1) := by decide +kernel
theorem dL_law_846 : decode cL_law 846 = .ok (.invokestatic 174, 3) := by decide +kernel
theorem dL_law_849 : decode cL_law 849 = .ok (.istore 5, 2) := by decide +kernel
theorem dL_law_851 : decode cL_law 851 = .ok (.aload_n 2, 1) := by decide +kernel
theorem dL_law_852 : decode cL_law 852 = .ok (.aload_n 0, 1) := by decide +kernel
theorem dL_law_853 : decode cL_law 853 = .ok (.iload 4, 2) := by decide +kernel
theorem dL_law_855 : decode cL_law 855 = .ok (.iconst 1, 1) := by decide +kernel
theorem dL_law_856 : decode cL_law 856 = .ok (.iadd, 1) := by decide +kernel
theorem dL_law_857 : decode cL_law 857 = .ok (.iaload, 1) := by decide +kernel
theorem dL_law_858 : decode cL_law 858 = .ok (.aload_n 0, 1) := by decide +kernel
theorem dL_law_859 : decode cL_law 859 = .ok (.iload 4, 2) := by decide +kernel
theorem dL_law_861 : decode cL_law 861 = .ok (.iconst 2, 1) := by decide +kernel
theorem dL_law_862 : decode cL_law 862 = .ok (.iadd, 1) := by decide +kernel
theorem dL_law_863 : decode cL_law 863 = .ok (.iaload, 1) := by decide +kernel
theorem dL_law_864 : decode cL_law 864 = .ok (.invokevirtual 176, 3) := by decide +kernel
theorem dL_law_867 : decode cL_law 867 = .ok (.istore 6, 2) := by decide +kernel
theorem dL_law_869 : decode cL_law 869 = .ok (.aload_n 2, 1) := by decide +kernel
theorem dL_law_870 : decode cL_law 870 = .ok (.invokevirtual 131, 3) := by decide +kernel
theorem dL_law_873 : decode cL_law 873 = .ok (.iload 5, 2) := by decide +kernel
theorem dL_law_875 : decode cL_law 875 = .ok (.if_icmp .eq 5, 3) := by decide +kernel
theorem dL_law_880 : decode cL_law 880 = .ok (.iload 5, 2) := by decide +kernel
theorem dL_law_882 : decode cL_law 882 = .ok (.ifCond .ne 15, 3) := by decide +kernel
theorem dL_law_897 : decode cL_law 897 = .ok (.goto 1921, 3) := by decide +kernel
theorem dL_law_900 : decode cL_law 900 = .ok (.aload_n 1, 1) := by decide +kernel
theorem dL_law_901 : decode cL_law 901 = .ok (.aload_n 0, 1) := by decide +kernel
theorem dL_law_902 : decode cL_law 902 = .ok (.iload 4, 2) := by decide +kernel
theorem dL_law_904 : decode cL_law 904 = .ok (.iconst 1, 1) := by decide +kernel
theorem dL_law_905 : decode cL_law 905 = .ok (.iadd, 1) := by decide +kernel
theorem dL_law_906 : decode cL_law 906 = .ok (.iaload, 1) := by decide +kernel
theorem dL_law_907 : decode cL_law 907 = .ok (.aload_n 0, 1) := by decide +kernel
theorem dL_law_908 : decode cL_law 908 = .ok (.iload 4, 2) := by decide +kernel
theorem dL_law_910 : decode cL_law 910 = .ok (.iconst 2, 1) := by decide +kernel
theorem dL_law_911 : decode cL_law 911 = .ok (.iadd, 1) := by decide +kernel
theorem dL_law_912 : decode cL_law 912 = .ok (.iaload, 1) := by decide +kernel
theorem dL_law_913 : decode cL_law 913 = .ok (.aload_n 0, 1) := by decide +kernel
theorem dL_law_914 : decode cL_law 914 = .ok (.iload 4, 2) := by decide +kernel
theorem dL_law_916 : decode cL_law 916 = .ok (.iconst 3, 1) := by decide +kernel
theorem dL_law_917 : decode cL_law 917 = .ok (.iadd, 1) := by decide +kernel
theorem dL_law_918 : decode cL_law 918 = .ok (.iaload, 1) := by decide +kernel
theorem dL_law_919 : decode cL_law 919 = .ok (.aload_n 3, 1) := by decide +kernel
theorem dL_law_920 : decode cL_law 920 = .ok (.invokestatic 177, 3) := by decide +kernel
theorem dL_law_923 : decode cL_law 923 = .ok (.istore 5, 2) := by decide +kernel
theorem dL_law_925 : decode cL_law 925 = .ok (.aload_n 2, 1) := by decide +kernel
theorem dL_law_926 : decode cL_law 926 = .ok (.aload_n 0, 1) := by decide +kernel
theorem dL_law_927 : decode cL_law 927 = .ok (.iload 4, 2) := by decide +kernel
theorem dL_law_929 : decode cL_law 929 = .ok (.iconst 1, 1) := by decide +kernel
theorem dL_law_930 : decode cL_law 930 = .ok (.iadd, 1) := by decide +kernel
theorem dL_law_931 : decode cL_law 931 = .ok (.iaload, 1) := by decide +kernel
theorem dL_law_932 : decode cL_law 932 = .ok (.aload_n 0, 1) := by decide +kernel
theorem dL_law_933 : decode cL_law 933 = .ok (.iload 4, 2) := by decide +kernel
theorem dL_law_935 : decode cL_law 935 = .ok (.iconst 2, 1) := by decide +kernel
theorem dL_law_936 : decode cL_law 936 = .ok (.iadd, 1) := by decide +kernel
theorem dL_law_937 : decode cL_law 937 = .ok (.iaload, 1) := by decide +kernel
theorem dL_law_938 : decode cL_law 938 = .ok (.aload_n 0, 1) := by decide +kernel
theorem dL_law_939 : decode cL_law 939 = .ok (.iload 4, 2) := by decide +kernel
theorem dL_law_941 : decode cL_law 941 = .ok (.iconst 3, 1) := by decide +kernel
theorem dL_law_942 : decode cL_law 942 = .ok (.iadd, 1) := by decide +kernel
theorem dL_law_943 : decode cL_law 943 = .ok (.iaload, 1) := by decide +kernel
theorem dL_law_944 : decode cL_law 944 = .ok (.invokevirtual 180, 3) := by decide +kernel
theorem dL_law_947 : decode cL_law 947 = .ok (.istore 6, 2) := by decide +kernel
theorem dL_law_949 : decode cL_law 949 = .ok (.aload_n 2, 1) := by decide +kernel
theorem dL_law_950 : decode cL_law 950 = .ok (.invokevirtual 131, 3) := by decide +kernel
theorem dL_law_953 : decode cL_law 953 = .ok (.iload 5, 2) := by decide +kernel
theorem dL_law_955 : decode cL_law 955 = .ok (.if_icmp .eq 5, 3) := by decide +kernel
theorem dL_law_960 : decode cL_law 960 = .ok (.iload 5, 2) := by decide +kernel
theorem dL_law_962 : decode cL_law 962 = .ok (.ifCond .ne 15, 3) := by decide +kernel
theorem dL_law_977 : decode cL_law 977 = .ok (.goto 1841, 3) := by decide +kernel
theorem qw674 : Cond.code yX11_load cX11_load 4 (Option.some Jvm.ClassFile.FieldType.int) ∈ gw := mq_4 (i := 97) rfl rfl
theorem qw675 : Cond.methodLink RL 139 yX11_load ∈ gw := mq_4 (i := 94) rfl rfl
theorem qw676 : Cond.instanceMethod yX11_load ∈ gw := mq_4 (i := 95) rfl rfl
theorem qw677 : Cond.selects RX11 yX11_load yX11_load ∈ gw := mq_4 (i := 96) rfl rfl
theorem qw678 : Cond.codeWith yX24_load cX24_load 4 (Option.some Jvm.ClassFile.FieldType.int) [(31, 35, 38, 93)] ∈ gw := mq_12 (i := 162) rfl rfl
theorem qw679 : Cond.methodLink RL 142 yX24_load ∈ gw := mq_12 (i := 159) rfl rfl
theorem qw680 : Cond.instanceMethod yX24_load ∈ gw := mq_12 (i := 160) rfl rfl
theorem qw681 : Cond.selects RX24 yX24_load yX24_load ∈ gw := mq_12 (i := 161) rfl rfl
theorem qw682 : Cond.code yX11_errorAt cX11_errorAt 1 (Option.some Jvm.ClassFile.FieldType.int) ∈ gw := mq_7 (i := 174) rfl rfl
theorem qw683 : Cond.methodLink RL 143 yX11_errorAt ∈ gw := mq_7 (i := 171) rfl rfl
theorem qw684 : Cond.instanceMethod yX11_errorAt ∈ gw := mq_7 (i := 172) rfl rfl
theorem qw685 : Cond.selects RX11 yX11_errorAt yX11_errorAt ∈ gw := mq_7 (i := 173) rfl rfl
theorem qw686 : Cond.code yX24_errorAt cX24_errorAt 1 (Option.some Jvm.ClassFile.FieldType.int) ∈ gw := mq_15 (i := 190) rfl rfl
theorem qw687 : Cond.methodLink RL 146 yX24_errorAt ∈ gw := mq_15 (i := 187) rfl rfl
theorem qw688 : Cond.instanceMethod yX24_errorAt ∈ gw := mq_15 (i := 188) rfl rfl
theorem qw689 : Cond.selects RX24 yX24_errorAt yX24_errorAt ∈ gw := mq_15 (i := 189) rfl rfl
theorem qw690 : Cond.code yX11_restore cX11_restore 3 (Option.some Jvm.ClassFile.FieldType.int) ∈ gw := mq_7 (i := 170) rfl rfl
theorem qw691 : Cond.methodLink RL 147 yX11_restore ∈ gw := mq_7 (i := 175) rfl rfl
theorem qw692 : Cond.instanceMethod yX11_restore ∈ gw := mq_7 (i := 168) rfl rfl
theorem qw693 : Cond.selects RX11 yX11_restore yX11_restore ∈ gw := mq_7 (i := 169) rfl rfl
theorem qw694 : Cond.code yX24_restore cX24_restore 3 (Option.some Jvm.ClassFile.FieldType.int) ∈ gw := mq_15 (i := 198) rfl rfl
theorem qw695 : Cond.methodLink RL 150 yX24_restore ∈ gw := mq_15 (i := 195) rfl rfl
theorem qw696 : Cond.instanceMethod yX24_restore ∈ gw := mq_15 (i := 196) rfl rfl
theorem qw697 : Cond.selects RX24 yX24_restore yX24_restore ∈ gw := mq_15 (i := 197) rfl rfl
theorem qw698 : Cond.code yX11_functions cX11_functions 1 (Option.some Jvm.ClassFile.FieldType.int) ∈ gw := mq_7 (i := 179) rfl rfl
theorem qw699 : Cond.methodLink RL 151 yX11_functions ∈ gw := mq_7 (i := 176) rfl rfl
theorem qw700 : Cond.instanceMethod yX11_functions ∈ gw := mq_7 (i := 177) rfl rfl
theorem qw701 : Cond.selects RX11 yX11_functions yX11_functions ∈ gw := mq_7 (i := 178) rfl rfl
theorem qw702 : Cond.code yX24_functions cX24_functions 1 (Option.some Jvm.ClassFile.FieldType.int) ∈ gw := mq_15 (i := 202) rfl rfl
theorem qw703 : Cond.methodLink RL 154 yX24_functions ∈ gw := mq_15 (i := 199) rfl rfl
theorem qw704 : Cond.instanceMethod yX24_functions ∈ gw := mq_15 (i := 200) rfl rfl
theorem qw705 : Cond.selects RX24 yX24_functions yX24_functions ∈ gw := mq_15 (i := 201) rfl rfl
theorem qw706 : Cond.codeWith yL_parametersOf cL_parametersOf 4 (Option.some Jvm.ClassFile.FieldType.int) [(0, 9, 12, 24)] ∈ gw := mq_9 (i := 26) rfl rfl
theorem qw707 : Cond.methodLink RL 155 yL_parametersOf ∈ gw := mq_9 (i := 24) rfl rfl
theorem qw708 : Cond.static yL_parametersOf ∈ gw := mq_9 (i := 25) rfl rfl
theorem qw709 : Cond.code yX24_parametersOf cX24_parametersOf 2 (Option.some Jvm.ClassFile.FieldType.int) ∈ gw := mq_15 (i := 206) rfl rfl
theorem qw710 : Cond.methodLink RL 157 yX24_parametersOf ∈ gw := mq_15 (i := 203) rfl rfl
theorem qw711 : Cond.instanceMethod yX24_parametersOf ∈ gw := mq_15 (i := 204) rfl rfl
theorem qw712 : Cond.selects RX24 yX24_parametersOf yX24_parametersOf ∈ gw := mq_15 (i := 205) rfl rfl
theorem qw713 : Cond.codeWith yL_blocks cL_blocks 4 (Option.some Jvm.ClassFile.FieldType.int) [(0, 9, 12, 24)] ∈ gw := mq_9 (i := 51) rfl rfl
theorem qw714 : Cond.methodLink RL 158 yL_blocks ∈ gw := mq_9 (i := 49) rfl rfl
theorem qw715 : Cond.static yL_blocks ∈ gw := mq_9 (i := 50) rfl rfl
theorem qw716 : Cond.code yX24_blocks cX24_blocks 2 (Option.some Jvm.ClassFile.FieldType.int) ∈ gw := mq_15 (i := 214) rfl rfl
theorem qw717 : Cond.methodLink RL 160 yX24_blocks ∈ gw := mq_15 (i := 211) rfl rfl
theorem qw718 : Cond.instanceMethod yX24_blocks ∈ gw := mq_15 (i := 212) rfl rfl
theorem qw719 : Cond.selects RX24 yX24_blocks yX24_blocks ∈ gw := mq_15 (i := 213) rfl rfl
theorem qw720 : Cond.codeWith yL_values cL_values 4 (Option.some Jvm.ClassFile.FieldType.int) [(0, 9, 12, 24)] ∈ gw := mq_9 (i := 58) rfl rfl
theorem qw721 : Cond.methodLink RL 161 yL_values ∈ gw := mq_9 (i := 56) rfl rfl
theorem qw722 : Cond.static yL_values ∈ gw := mq_9 (i := 57) rfl rfl
theorem qw723 : Cond.code yX24_values cX24_values 2 (Option.some Jvm.ClassFile.FieldType.int) ∈ gw := mq_15 (i := 218) rfl rfl
theorem qw724 : Cond.methodLink RL 163 yX24_values ∈ gw := mq_15 (i := 215) rfl rfl
theorem qw725 : Cond.instanceMethod yX24_values ∈ gw := mq_15 (i := 216) rfl rfl
theorem qw726 : Cond.selects RX24 yX24_values yX24_values ∈ gw := mq_15 (i := 217) rfl rfl
theorem qw727 : Cond.codeWith yL_blockOf cL_blockOf 5 (Option.some Jvm.ClassFile.FieldType.int) [(0, 10, 13, 24)] ∈ gw := mq_9 (i := 65) rfl rfl
theorem qw728 : Cond.methodLink RL 164 yL_blockOf ∈ gw := mq_9 (i := 63) rfl rfl
theorem qw729 : Cond.static yL_blockOf ∈ gw := mq_9 (i := 64) rfl rfl
theorem qw730 : Cond.code yX24_blockOf cX24_blockOf 3 (Option.some Jvm.ClassFile.FieldType.int) ∈ gw := mq_15 (i := 229) rfl rfl
theorem qw731 : Cond.methodLink RL 167 yX24_blockOf ∈ gw := mq_15 (i := 226) rfl rfl
theorem qw732 : Cond.instanceMethod yX24_blockOf ∈ gw := mq_15 (i := 227) rfl rfl
theorem qw733 : Cond.selects RX24 yX24_blockOf yX24_blockOf ∈ gw := mq_15 (i := 228) rfl rfl
theorem qw734 : Cond.codeWith yL_dominatorOf cL_dominatorOf 5 (Option.some Jvm.ClassFile.FieldType.int) [(0, 10, 13, 24)] ∈ gw := mq_9 (i := 76) rfl rfl
theorem qw735 : Cond.methodLink RL 168 yL_dominatorOf ∈ gw := mq_9 (i := 74) rfl rfl
theorem qw736 : Cond.static yL_dominatorOf ∈ gw := mq_9 (i := 75) rfl rfl
theorem qw737 : Cond.code yX24_dominatorOf cX24_dominatorOf 3 (Option.some Jvm.ClassFile.FieldType.int) ∈ gw := mq_16 (i := 0) rfl rfl
theorem qw738 : Cond.methodLink RL 170 yX24_dominatorOf ∈ gw := mq_15 (i := 237) rfl rfl
theorem qw739 : Cond.instanceMethod yX24_dominatorOf ∈ gw := mq_15 (i := 238) rfl rfl
theorem qw740 : Cond.selects RX24 yX24_dominatorOf yX24_dominatorOf ∈ gw := mq_15 (i := 239) rfl rfl
theorem qw741 : Cond.codeWith yL_depthOf cL_depthOf 5 (Option.some Jvm.ClassFile.FieldType.int) [(0, 10, 13, 24)] ∈ gw := mq_9 (i := 92) rfl rfl
theorem qw742 : Cond.methodLink RL 171 yL_depthOf ∈ gw := mq_9 (i := 90) rfl rfl
theorem qw743 : Cond.static yL_depthOf ∈ gw := mq_9 (i := 91) rfl rfl
theorem qw744 : Cond.code yX24_depthOf cX24_depthOf 3 (Option.some Jvm.ClassFile.FieldType.int) ∈ gw := mq_16 (i := 12) rfl rfl
theorem qw745 : Cond.methodLink RL 173 yX24_depthOf ∈ gw := mq_16 (i := 9) rfl rfl
theorem qw746 : Cond.instanceMethod yX24_depthOf ∈ gw := mq_16 (i := 10) rfl rfl
theorem qw747 : Cond.selects RX24 yX24_depthOf yX24_depthOf ∈ gw := mq_16 (i := 11) rfl rfl
theorem qw748 : Cond.codeWith yL_predecessors cL_predecessors 5 (Option.some Jvm.ClassFile.FieldType.int) [(0, 10, 13, 24)] ∈ gw := mq_9 (i := 99) rfl rfl
theorem qw749 : Cond.methodLink RL 174 yL_predecessors ∈ gw := mq_9 (i := 97) rfl rfl
theorem qw750 : Cond.static yL_predecessors ∈ gw := mq_9 (i := 98) rfl rfl
theorem qw751 : Cond.code yX24_predecessors cX24_predecessors 3 (Option.some Jvm.ClassFile.FieldType.int) ∈ gw := mq_16 (i := 16) rfl rfl
theorem qw752 : Cond.methodLink RL 176 yX24_predecessors ∈ gw := mq_16 (i := 13) rfl rfl
theorem qw753 : Cond.instanceMethod yX24_predecessors ∈ gw := mq_16 (i := 14) rfl rfl
theorem qw754 : Cond.selects RX24 yX24_predecessors yX24_predecessors ∈ gw := mq_16 (i := 15) rfl rfl
theorem qw755 : Cond.codeWith yL_predecessor cL_predecessor 6 (Option.some Jvm.ClassFile.FieldType.int) [(0, 12, 15, 24)] ∈ gw := mq_9 (i := 106) rfl rfl
theorem qw756 : Cond.methodLink RL 177 yL_predecessor ∈ gw := mq_9 (i := 104) rfl rfl
theorem qw757 : Cond.static yL_predecessor ∈ gw := mq_9 (i := 105) rfl rfl
theorem qw758 : Cond.code yX24_predecessor cX24_predecessor 4 (Option.some Jvm.ClassFile.FieldType.int) ∈ gw := mq_16 (i := 20) rfl rfl
theorem qw759 : Cond.methodLink RL 180 yX24_predecessor ∈ gw := mq_16 (i := 17) rfl rfl
theorem qw760 : Cond.instanceMethod yX24_predecessor ∈ gw := mq_16 (i := 18) rfl rfl
theorem qw761 : Cond.selects RX24 yX24_predecessor yX24_predecessor ∈ gw := mq_16 (i := 19) rfl rfl
set_option maxHeartbeats 4000000 in
set_option maxRecDepth 100000 in
theorem law_2 {zs : Nat × Nat} {p : Program} {e : Env} {s : State} {m : MethodId} {below : List Frame} {meth : Method} {c : Code} {l : Launch} {b : Nat} {xs : Nat → Int32} {dC : Nat → ClassId} {dI : Nat → Nat → Nat} {A : Nat → Prop} (C0 : lw_At p s m meth c b 7 xs) (hl9 : l.stackTraces = false) (hA : ∀ q, s.heap.size ≤ q → A q) (hA2 : ∀ q, A q → s.heap.size ≤ q) (hE : ENV zs A s s.heap) {H : Heap} {locs : List Loc} (q1 : Nat) (q2 : Nat) (q3 : Nat) (q5 : Nat) (q6 : Nat) (q7 : Nat) (q8 : Nat) (q9 : Nat) (q10 : Nat) (q11 : Nat) (q12 : Nat) (q13 : Nat) (q14 : Nat) (q15 : Nat) (q16 : Nat) (q17 : Nat) (q29 : Nat) (q40 : Nat) (q41 : Nat) (q42 : Nat) (q43 : Nat) (q44 : Nat) (q45 : Nat) (q46 : Nat) (q47 : Nat) (q48 : Nat) (q49 : Nat) (q50 : Nat) (q51 : Nat) (q63 : Nat) (q64 : Nat) (q65 : Nat) (q67 : Nat) (q68 : Nat) (q70 : Nat) (q72 : Nat) (q86 : Nat) (q87 : Nat) (hP : va_P (dC, dI) cls [(q1, .inr (11, [.ref q2, .ref q5, .ref q14, .ref q15, .ref q16, .ref q17, .ref q51, .ref q63, .ref q29, .ref q40, .int (-1)])), (q2, .inr (0, [.ref q3, .int 0, .int 0, .int 0, .int 0, .long 0, .int 0, .int 0])), (q5, .inr (1, [.int 0, .ref q2, .null, .int 0, .int 0, .int 0, .int 0, .ref q6, .ref q7, .int 0, .ref q8, .ref q9, .int 0, .ref q10, .ref q11, .ref q12, .ref q13, .int 0])), (q40, .inr (2, [.int 0, .ref q41, .ref q42, .ref q43, .ref q44, .ref q45, .ref q46, .int 0, .ref q47, .ref q48, .ref q49, .int 0, .ref q50])), (q64, .inr (15, [.ref q65, .int 0, .int (-1), .int 0, .ref q67, .ref q68, .ref q70, .ref q72, .ref q86]))] H) (hD : va_D A [(q1, .inr (11, [.ref q2, .ref q5, .ref q14, .ref q15, .ref q16, .ref q17, .ref q51, .ref q63, .ref q29, .ref q40, .int (-1)])), (q2, .inr (0, [.ref q3, .int 0, .int 0, .int 0, .int 0, .long 0, .int 0, .int 0])), (q5, .inr (1, [.int 0, .ref q2, .null, .int 0, .int 0, .int 0, .int 0, .ref q6, .ref q7, .int 0, .ref q8, .ref q9, .int 0, .ref q10, .ref q11, .ref q12, .ref q13, .int 0])), (q40, .inr (2, [.int 0, .ref q41, .ref q42, .ref q43, .ref q44, .ref q45, .ref q46, .int 0, .ref q47, .ref q48, .ref q49, .int 0, .ref q50])), (q64, .inr (15, [.ref q65, .int 0, .int (-1), .int 0, .ref q67, .ref q68, .ref q70, .ref q72, .ref q86]))]) (hK : va_K (dC, dI) cls [] s) (hS : va_S A s.heap H locs) {ls : Array Slot} (hl : lv_has ls 9 [(4, .int 0), (3, .ref q87), (2, .ref q64), (1, .ref q1), (0, .ref b)])  : W p l e room_1 s m #[Value.ref b] below meth c H locs 369 122514 (lw_Z below #[Value.ref b] s) (F0 m 408 ls []) := by
  obtain ⟨hx, hb, hr, hml, hown, hts0, hX, hbl, hlocks, hgv⟩ := id C0
  have hts : ∀ w ∈ gw, w.before #[Value.ref b] s = true := fun w h => hts0 w (gw_tbl h)
  have hbA : ¬ A b := fun h => absurd (hA2 b h) (Nat.not_le.mpr hbl)
  refine lv_aload_n hx hb dL_law_408 rfl (lv_at hl 3 rfl) ?_
  have hPc := hP.sub (ws' := [(q1, .inr (11, [.ref q2, .ref q5, .ref q14, .ref q15, .ref q16, .ref q17, .ref q51, .ref q63, .ref q29, .ref q40, .int (-1)])), (q2, .inr (0, [.ref q3, .int 0, .int 0, .int 0, .int 0, .long 0, .int 0, .int 0])), (q5, .inr (1, [.int 0, .ref q2, .null, .int 0, .int 0, .int 0, .int 0, .ref q6, .ref q7, .int 0, .ref q8, .ref q9, .int 0, .ref q10, .ref q11, .ref q12, .ref q13, .int 0])), (q40, .inr (2, [.int 0, .ref q41, .ref q42, .ref q43, .ref q44, .ref q45, .ref q46, .int 0, .ref q47, .ref q48, .ref q49, .int 0, .ref q50]))]) [0, 1, 2, 3] rfl
  have hDc := hD.sub (ws' := [(q1, .inr (11, [.ref q2, .ref q5, .ref q14, .ref q15, .ref q16, .ref q17, .ref q51, .ref q63, .ref q29, .ref q40, .int (-1)])), (q2, .inr (0, [.ref q3, .int 0, .int 0, .int 0, .int 0, .long 0, .int 0, .int 0])), (q5, .inr (1, [.int 0, .ref q2, .null, .int 0, .int 0, .int 0, .int 0, .ref q6, .ref q7, .int 0, .ref q8, .ref q9, .int 0, .ref q10, .ref q11, .ref q12, .ref q13, .int 0])), (q40, .inr (2, [.int 0, .ref q41, .ref q42, .ref q43, .ref q44, .ref q45, .ref q46, .int 0, .ref q47, .ref q48, .ref q49, .int 0, .ref q50]))]) [0, 1, 2, 3] (by decide) rfl
  have hKc := hK.sub (tys' := []) [] rfl
  have hFc := va_free (wc := [(q1, .inr (11, [.ref q2, .ref q5, .ref q14, .ref q15, .ref q16, .ref q17, .ref q51, .ref q63, .ref q29, .ref q40, .int (-1)])), (q2, .inr (0, [.ref q3, .int 0, .int 0, .int 0, .int 0, .long 0, .int 0, .int 0])), (q5, .inr (1, [.int 0, .ref q2, .null, .int 0, .int 0, .int 0, .int 0, .ref q6, .ref q7, .int 0, .ref q8, .ref q9, .int 0, .ref q10, .ref q11, .ref q12, .ref q13, .int 0])), (q40, .inr (2, [.int 0, .ref q41, .ref q42, .ref q43, .ref q44, .ref q45, .ref q46, .int 0, .ref q47, .ref q48, .ref q49, .int 0, .ref q50]))]) hD hS hA [0, 1, 2, 3] rfl
  refine va_calli (va_runV (As := []) (rest := []) ⟨hx, hb, hml, hown, hts⟩ (kX11_load l dC dI (gx := q1) (gq1 := q2) (gq2 := q3) (gq4 := q5) (gq5 := q6) (gq6 := q7) (gq7 := q8) (gq8 := q9) (gq9 := q10) (gq10 := q11) (gq11 := q12) (gq12 := q13) (gq13 := q14) (gq136 := q15) (gq137 := q16) (gq138 := q17) (gq150 := q29) (gq161 := q40) (gq162 := q41) (gq163 := q42) (gq164 := q43) (gq165 := q44) (gq166 := q45) (gq167 := q46) (gq168 := q47) (gq169 := q48) (gq170 := q49) (gq171 := q50) (gq172 := q51) (gq184 := q63) (sz := _) (hl9 := hl9)) (cwV 0 hts (gi_V qw675 qw676 qw677 qw222 (gi_z qw674)) rfl rfl rfl (by decide +kernel) ⟨Nat.le_of_ble_eq_true rfl, Nat.le_of_ble_eq_true rfl⟩) ⟨PRE.blind, va_recv hKc hPc (ci := 11) (q0 := 0) rfl rfl, PRE.of hE hS hFc hPc hKc hDc⟩ rfl rfl hl.1 rfl (lv_room (Nat.le_of_ble_eq_true rfl)) dL_law_409 ⟨Nat.le_of_ble_eq_true rfl, Nat.le_of_ble_eq_true rfl⟩) hS (fun q _ h => hFc q h) hFc (fun r90 u t H locs ht hvm hw hB hz1 hk1 hS => ?_)
  obtain ⟨hP, hD, hK⟩ := JOIN (wr := [(q64, .inr (15, [.ref q65, .int 0, .int (-1), .int 0, .ref q67, .ref q68, .ref q70, .ref q72, .ref q86]))]) hP hD hK [0, 1, 2, 3] [4] [] rfl rfl (by decide) (by decide) rfl hk1 hFc ht hvm hB
  have hP : va_P (dC, dI) cls [(q64, .inr (15, [.ref q65, .int 0, .int (-1), .int 0, .ref q67, .ref q68, .ref q70, .ref q72, .ref q86]))] H := hP
  have hD : va_D A [(q64, .inr (15, [.ref q65, .int 0, .int (-1), .int 0, .ref q67, .ref q68, .ref q70, .ref q72, .ref q86]))] := hD
  have hK : va_K (dC, dI) cls [] s := hK
  refine W.widen (k := 370) (n := 122520) (Nat.le_of_ble_eq_true rfl) (Nat.le_of_ble_eq_true rfl) ?_
  obtain rfl : r90 = 1 := hw
  refine lv_aload_n hx hb dL_law_412 rfl (lv_at hl 2 rfl) ?_
  have hPc := hP.sub (ws' := [(q64, .inr (15, [.ref q65, .int 0, .int (-1), .int 0, .ref q67, .ref q68, .ref q70, .ref q72, .ref q86]))]) [0] rfl
  have hDc := hD.sub (ws' := [(q64, .inr (15, [.ref q65, .int 0, .int (-1), .int 0, .ref q67, .ref q68, .ref q70, .ref q72, .ref q86]))]) [0] (by decide) rfl
  have hKc := hK.sub (tys' := []) [] rfl
  have hFc := va_free (wc := [(q64, .inr (15, [.ref q65, .int 0, .int (-1), .int 0, .ref q67, .ref q68, .ref q70, .ref q72, .ref q86]))]) hD hS hA [0] rfl
  refine va_calli (vx_runVW (As := []) (rest := [.int 1]) ⟨hx, hb, hml, hown, hts⟩ (kX24_load l dC dI (mx := q64) (mq1 := q65) (mq3 := q67) (mq4 := q68) (mq6 := q70) (mq8 := q72) (mq22 := q86) (sz := _) (hl9 := hl9)) (vx_cwVW (C := RX24) 0 hts (gi_V qw679 qw680 qw681 qw434 (gi_h qw678)) rfl rfl rfl (by decide +kernel) ⟨Nat.le_of_ble_eq_true rfl, Nat.le_of_ble_eq_true rfl⟩) ⟨PRE.blind, va_recv hKc hPc (ci := 15) (q0 := 0) rfl rfl, PRE.of hE hS hFc hPc hKc hDc⟩ rfl rfl hl.1 rfl (lv_room (Nat.le_of_ble_eq_true rfl)) dL_law_413 ⟨Nat.le_of_ble_eq_true rfl, Nat.le_of_ble_eq_true rfl⟩) hS (fun q _ h => hFc q h) hFc (fun r91 u t H locs ht hvm hw hB hz1 hk1 hS => ?_)
  obtain ⟨hP, hD, hK⟩ := JOIN (wr := []) hP hD hK [0] [] [] rfl rfl (by decide) (by decide) rfl hk1 hFc ht hvm hB
  have hP : va_P (dC, dI) cls [(q64, .inr (15, [.ref q65, .int 0, .int 0, .int 0, .ref q67, .ref q68, .ref q70, .ref q72, .ref q86]))] H := hP
  have hD : va_D A [(q64, .inr (15, [.ref q65, .int 0, .int 0, .int 0, .ref q67, .ref q68, .ref q70, .ref q72, .ref q86]))] := hD
  have hK : va_K (dC, dI) cls [] s := hK
  refine W.widen (k := 391) (n := 142280) (Nat.le_of_ble_eq_true rfl) (Nat.le_of_ble_eq_true rfl) ?_
  obtain rfl : r91 = 1 := hw
  refine lv_icmp_eq (tgt := 2818) hx hb dL_law_416 (by decide) (fun _ => ?_) (fun c => absurd (by decide) c)
  refine lv_iinc (v := 7) (lv' := [(4, .int 7), (3, .ref q87), (2, .ref q64), (1, .ref q1), (0, .ref b)]) hx hb dL_law_2818 hl (k := 0) rfl (by decide) (by decide) rfl (fun ls hl => ?_)
  refine lv_goto (tgt := 23) hx hb dL_law_2821 (by decide) ?_
  refine lv_iload hx hb dL_law_23 (lv_at hl 0 rfl) ?_
  refine lv_aload_n hx hb dL_law_25 rfl (lv_at hl 4 rfl) ?_
  refine va_slen hx hb hX hbl hbA hS dL_law_26 ?_
  refine lv_topC (y := 7) rfl ?_
  refine lv_bipush (v := 7) hx hb dL_law_27 (by decide) ?_
  refine lv_isub hx hb dL_law_29 ?_
  refine lv_topC (y := 0) (by decide) ?_
  refine lv_icmp_gt (tgt := 2824) hx hb dL_law_30 (by decide) (fun _ => ?_) (fun c => absurd (by decide) c)
  refine lv_iconst (v := 1) hx hb dL_law_2824 (by decide) ?_
  refine va_forget (fun q hq => hA2 _ (hS.2.2 q hq)) ?_
  refine W.widen (k := 600002) (n := 7302232) (Nat.le_of_ble_eq_true rfl) (Nat.le_of_ble_eq_true rfl) ?_
  exact lw_ret (d0 := s.drawn) (Drawn.sameBut.refl s.drawn lw_cs) hx hb hr hlocks dL_law_2825
set_option maxHeartbeats 4000000 in
set_option maxRecDepth 100000 in
theorem law_3 {zs : Nat × Nat} {p : Program} {e : Env} {s : State} {m : MethodId} {below : List Frame} {meth : Method} {c : Code} {l : Launch} {b : Nat} {xs : Nat → Int32} {dC : Nat → ClassId} {dI : Nat → Nat → Nat} {A : Nat → Prop} (C0 : lw_At p s m meth c b 7 xs) (hl9 : l.stackTraces = false) (hA : ∀ q, s.heap.size ≤ q → A q) (hA2 : ∀ q, A q → s.heap.size ≤ q) (hE : ENV zs A s s.heap) {H : Heap} {locs : List Loc} (q1 : Nat) (q2 : Nat) (q5 : Nat) (q14 : Nat) (q15 : Nat) (q16 : Nat) (q17 : Nat) (q29 : Nat) (q40 : Nat) (q51 : Nat) (q63 : Nat) (q64 : Nat) (q65 : Nat) (q67 : Nat) (q68 : Nat) (q70 : Nat) (q72 : Nat) (q86 : Nat) (q87 : Nat) (hP : va_P (dC, dI) cls [(q1, .inr (11, [.ref q2, .ref q5, .ref q14, .ref q15, .ref q16, .ref q17, .ref q51, .ref q63, .ref q29, .ref q40, .int (-1)])), (q64, .inr (15, [.ref q65, .int 0, .int (-1), .int 0, .ref q67, .ref q68, .ref q70, .ref q72, .ref q86]))] H) (hD : va_D A [(q1, .inr (11, [.ref q2, .ref q5, .ref q14, .ref q15, .ref q16, .ref q17, .ref q51, .ref q63, .ref q29, .ref q40, .int (-1)])), (q64, .inr (15, [.ref q65, .int 0, .int (-1), .int 0, .ref q67, .ref q68, .ref q70, .ref q72, .ref q86]))]) (hK : va_K (dC, dI) cls [] s) (hS : va_S A s.heap H locs) {ls : Array Slot} (hl : lv_has ls 9 [(4, .int 0), (3, .ref q87), (2, .ref q64), (1, .ref q1), (0, .ref b)])  : W p l e room_1 s m #[Value.ref b] below meth c H locs 369 122514 (lw_Z below #[Value.ref b] s) (F0 m 421 ls []) := by
  obtain ⟨hx, hb, hr, hml, hown, hts0, hX, hbl, hlocks, hgv⟩ := id C0
  have hts : ∀ w ∈ gw, w.before #[Value.ref b] s = true := fun w h => hts0 w (gw_tbl h)
  have hbA : ¬ A b := fun h => absurd (hA2 b h) (Nat.not_le.mpr hbl)
  refine lv_aload_n hx hb dL_law_421 rfl (lv_at hl 3 rfl) ?_
  have hPc := hP.sub (ws' := [(q1, .inr (11, [.ref q2, .ref q5, .ref q14, .ref q15, .ref q16, .ref q17, .ref q51, .ref q63, .ref q29, .ref q40, .int (-1)]))]) [0] rfl
  have hDc := hD.sub (ws' := [(q1, .inr (11, [.ref q2, .ref q5, .ref q14, .ref q15, .ref q16, .ref q17, .ref q51, .ref q63, .ref q29, .ref q40, .int (-1)]))]) [0] (by decide) rfl
  have hKc := hK.sub (tys' := []) [] rfl
  have hFc := va_free (wc := [(q1, .inr (11, [.ref q2, .ref q5, .ref q14, .ref q15, .ref q16, .ref q17, .ref q51, .ref q63, .ref q29, .ref q40, .int (-1)]))]) hD hS hA [0] rfl
  refine va_calli (va_runV (As := []) (rest := []) ⟨hx, hb, hml, hown, hts⟩ (kX11_errorAt l dC dI (gx := q1) (gq1 := q2) (gq4 := q5) (gq13 := q14) (gq136 := q15) (gq137 := q16) (gq138 := q17) (gq150 := q29) (gq161 := q40) (gq172 := q51) (gq184 := q63) (sz := _)) (cwV 0 hts (gi_V qw683 qw684 qw685 qw222 (gi_z qw682)) rfl rfl rfl (by decide +kernel) ⟨Nat.le_of_ble_eq_true rfl, Nat.le_of_ble_eq_true rfl⟩) ⟨PRE.blind, va_recv hKc hPc (ci := 11) (q0 := 0) rfl rfl, PRE.of hE hS hFc hPc hKc hDc⟩ rfl rfl hl.1 rfl (lv_room (Nat.le_of_ble_eq_true rfl)) dL_law_422 ⟨Nat.le_of_ble_eq_true rfl, Nat.le_of_ble_eq_true rfl⟩) hS (fun q _ h => hFc q h) hFc (fun r90 u t H locs ht hvm hw hB hz1 hk1 hS => ?_)
  obtain ⟨hP, hD, hK⟩ := JOIN (wr := [(q64, .inr (15, [.ref q65, .int 0, .int (-1), .int 0, .ref q67, .ref q68, .ref q70, .ref q72, .ref q86]))]) hP hD hK [0] [1] [] rfl rfl (by decide) (by decide) rfl hk1 hFc ht hvm hB
  have hP : va_P (dC, dI) cls [(q64, .inr (15, [.ref q65, .int 0, .int (-1), .int 0, .ref q67, .ref q68, .ref q70, .ref q72, .ref q86])), (q1, .inr (11, [.ref q2, .ref q5, .ref q14, .ref q15, .ref q16, .ref q17, .ref q51, .ref q63, .ref q29, .ref q40, .int (-1)]))] H := hP
  have hD : va_D A [(q64, .inr (15, [.ref q65, .int 0, .int (-1), .int 0, .ref q67, .ref q68, .ref q70, .ref q72, .ref q86])), (q1, .inr (11, [.ref q2, .ref q5, .ref q14, .ref q15, .ref q16, .ref q17, .ref q51, .ref q63, .ref q29, .ref q40, .int (-1)]))] := hD
  have hK : va_K (dC, dI) cls [] s := hK
  refine W.widen (k := 369) (n := 122514) (Nat.le_of_ble_eq_true rfl) (Nat.le_of_ble_eq_true rfl) ?_
  obtain rfl : r90 = (-1) := hw
  refine lv_aload_n hx hb dL_law_425 rfl (lv_at hl 2 rfl) ?_
  have hPc := hP.sub (ws' := [(q64, .inr (15, [.ref q65, .int 0, .int (-1), .int 0, .ref q67, .ref q68, .ref q70, .ref q72, .ref q86]))]) [0] rfl
  have hDc := hD.sub (ws' := [(q64, .inr (15, [.ref q65, .int 0, .int (-1), .int 0, .ref q67, .ref q68, .ref q70, .ref q72, .ref q86]))]) [0] (by decide) rfl
  have hKc := hK.sub (tys' := []) [] rfl
  have hFc := va_free (wc := [(q64, .inr (15, [.ref q65, .int 0, .int (-1), .int 0, .ref q67, .ref q68, .ref q70, .ref q72, .ref q86]))]) hD hS hA [0] rfl
  refine va_calli (va_runV (As := []) (rest := [.int (-1)]) ⟨hx, hb, hml, hown, hts⟩ (kX24_errorAt l dC dI (mx := q64) (mq1 := q65) (mq3 := q67) (mq4 := q68) (mq6 := q70) (mq8 := q72) (mq22 := q86) (sz := _)) (cwV 0 hts (gi_V qw687 qw688 qw689 qw434 (gi_z qw686)) rfl rfl rfl (by decide +kernel) ⟨Nat.le_of_ble_eq_true rfl, Nat.le_of_ble_eq_true rfl⟩) ⟨PRE.blind, va_recv hKc hPc (ci := 15) (q0 := 0) rfl rfl, PRE.of hE hS hFc hPc hKc hDc⟩ rfl rfl hl.1 rfl (lv_room (Nat.le_of_ble_eq_true rfl)) dL_law_426 ⟨Nat.le_of_ble_eq_true rfl, Nat.le_of_ble_eq_true rfl⟩) hS (fun q _ h => hFc q h) hFc (fun r91 u t H locs ht hvm hw hB hz1 hk1 hS => ?_)
  obtain ⟨hP, hD, hK⟩ := JOIN (wr := [(q1, .inr (11, [.ref q2, .ref q5, .ref q14, .ref q15, .ref q16, .ref q17, .ref q51, .ref q63, .ref q29, .ref q40, .int (-1)]))]) hP hD hK [0] [1] [] rfl rfl (by decide) (by decide) rfl hk1 hFc ht hvm hB
  have hP : va_P (dC, dI) cls [(q1, .inr (11, [.ref q2, .ref q5, .ref q14, .ref q15, .ref q16, .ref q17, .ref q51, .ref q63, .ref q29, .ref q40, .int (-1)])), (q64, .inr (15, [.ref q65, .int 0, .int (-1), .int 0, .ref q67, .ref q68, .ref q70, .ref q72, .ref q86]))] H := hP
  have hD : va_D A [(q1, .inr (11, [.ref q2, .ref q5, .ref q14, .ref q15, .ref q16, .ref q17, .ref q51, .ref q63, .ref q29, .ref q40, .int (-1)])), (q64, .inr (15, [.ref q65, .int 0, .int (-1), .int 0, .ref q67, .ref q68, .ref q70, .ref q72, .ref q86]))] := hD
  have hK : va_K (dC, dI) cls [] s := hK
  refine W.widen (k := 369) (n := 122514) (Nat.le_of_ble_eq_true rfl) (Nat.le_of_ble_eq_true rfl) ?_
  obtain rfl : r91 = (-1) := hw
  refine lv_icmp_eq (tgt := 2818) hx hb dL_law_429 (by decide) (fun _ => ?_) (fun c => absurd (by decide) c)
  refine lv_iinc (v := 7) (lv' := [(4, .int 7), (3, .ref q87), (2, .ref q64), (1, .ref q1), (0, .ref b)]) hx hb dL_law_2818 hl (k := 0) rfl (by decide) (by decide) rfl (fun ls hl => ?_)
  refine lv_goto (tgt := 23) hx hb dL_law_2821 (by decide) ?_
  refine lv_iload hx hb dL_law_23 (lv_at hl 0 rfl) ?_
  refine lv_aload_n hx hb dL_law_25 rfl (lv_at hl 4 rfl) ?_
  refine va_slen hx hb hX hbl hbA hS dL_law_26 ?_
  refine lv_topC (y := 7) rfl ?_
  refine lv_bipush (v := 7) hx hb dL_law_27 (by decide) ?_
  refine lv_isub hx hb dL_law_29 ?_
  refine lv_topC (y := 0) (by decide) ?_
  refine lv_icmp_gt (tgt := 2824) hx hb dL_law_30 (by decide) (fun _ => ?_) (fun c => absurd (by decide) c)
  refine lv_iconst (v := 1) hx hb dL_law_2824 (by decide) ?_
  refine va_forget (fun q hq => hA2 _ (hS.2.2 q hq)) ?_
  refine W.widen (k := 600002) (n := 7302232) (Nat.le_of_ble_eq_true rfl) (Nat.le_of_ble_eq_true rfl) ?_
  exact lw_ret (d0 := s.drawn) (Drawn.sameBut.refl s.drawn lw_cs) hx hb hr hlocks dL_law_2825
set_option maxHeartbeats 4000000 in
set_option maxRecDepth 100000 in
theorem law_4 {zs : Nat × Nat} {p : Program} {e : Env} {s : State} {m : MethodId} {below : List Frame} {meth : Method} {c : Code} {l : Launch} {b : Nat} {xs : Nat → Int32} {dC : Nat → ClassId} {dI : Nat → Nat → Nat} {A : Nat → Prop} (C0 : lw_At p s m meth c b 7 xs) (hl9 : l.stackTraces = false) (hA : ∀ q, s.heap.size ≤ q → A q) (hA2 : ∀ q, A q → s.heap.size ≤ q) (hE : ENV zs A s s.heap) {H : Heap} {locs : List Loc} (q1 : Nat) (q2 : Nat) (q5 : Nat) (q14 : Nat) (q15 : Nat) (q16 : Nat) (q17 : Nat) (q18 : Nat) (q19 : Nat) (q20 : Nat) (q21 : Nat) (q22 : Nat) (q23 : Nat) (q24 : Nat) (q25 : Nat) (q26 : Nat) (q27 : Nat) (q28 : Nat) (q29 : Nat) (q30 : Nat) (q31 : Nat) (q32 : Nat) (q33 : Nat) (q34 : Nat) (q35 : Nat) (q36 : Nat) (q37 : Nat) (q38 : Nat) (q39 : Nat) (q40 : Nat) (q51 : Nat) (q63 : Nat) (q64 : Nat) (q65 : Nat) (q67 : Nat) (q68 : Nat) (c69 : ClassId) (q70 : Nat) (q72 : Nat) (q86 : Nat) (q87 : Nat) (hP : va_P (dC, dI) cls [(q1, .inr (11, [.ref q2, .ref q5, .ref q14, .ref q15, .ref q16, .ref q17, .ref q51, .ref q63, .ref q29, .ref q40, .int (-1)])), (q17, .inr (8, [.ref q18, .ref q19, .ref q20, .ref q21, .ref q22, .int 0, .ref q23, .int 0, .int 0, .int 0, .int 0, .int 0, .ref q24, .ref q25, .ref q26, .ref q27, .ref q28])), (q29, .inr (2, [.int 0, .ref q30, .ref q31, .ref q32, .ref q33, .ref q34, .ref q35, .int 0, .ref q36, .ref q37, .ref q38, .int 0, .ref q39])), (q64, .inr (15, [.ref q65, .int 0, .int (-1), .int 0, .ref q67, .ref q68, .ref q70, .ref q72, .ref q86])), (q68, .inl (c69, 0, .inr (.inr (.inr (.inr (fun _ => none))))))] H) (hD : va_D A [(q1, .inr (11, [.ref q2, .ref q5, .ref q14, .ref q15, .ref q16, .ref q17, .ref q51, .ref q63, .ref q29, .ref q40, .int (-1)])), (q17, .inr (8, [.ref q18, .ref q19, .ref q20, .ref q21, .ref q22, .int 0, .ref q23, .int 0, .int 0, .int 0, .int 0, .int 0, .ref q24, .ref q25, .ref q26, .ref q27, .ref q28])), (q29, .inr (2, [.int 0, .ref q30, .ref q31, .ref q32, .ref q33, .ref q34, .ref q35, .int 0, .ref q36, .ref q37, .ref q38, .int 0, .ref q39])), (q64, .inr (15, [.ref q65, .int 0, .int (-1), .int 0, .ref q67, .ref q68, .ref q70, .ref q72, .ref q86])), (q68, .inl (c69, 0, .inr (.inr (.inr (.inr (fun _ => none))))))]) (hK : va_K (dC, dI) cls [(c69, .object RX14)] s) (hS : va_S A s.heap H locs) {ls : Array Slot} (hl : lv_has ls 9 [(4, .int 0), (3, .ref q87), (2, .ref q64), (1, .ref q1), (0, .ref b)])  : W p l e room_1 s m #[Value.ref b] below meth c H locs 369 122514 (lw_Z below #[Value.ref b] s) (F0 m 434 ls []) := by
  obtain ⟨hx, hb, hr, hml, hown, hts0, hX, hbl, hlocks, hgv⟩ := id C0
  have hts : ∀ w ∈ gw, w.before #[Value.ref b] s = true := fun w h => hts0 w (gw_tbl h)
  have hbA : ¬ A b := fun h => absurd (hA2 b h) (Nat.not_le.mpr hbl)
  refine lv_aload_n hx hb dL_law_434 rfl (lv_at hl 3 rfl) ?_
  have hPc := hP.sub (ws' := [(q1, .inr (11, [.ref q2, .ref q5, .ref q14, .ref q15, .ref q16, .ref q17, .ref q51, .ref q63, .ref q29, .ref q40, .int (-1)])), (q17, .inr (8, [.ref q18, .ref q19, .ref q20, .ref q21, .ref q22, .int 0, .ref q23, .int 0, .int 0, .int 0, .int 0, .int 0, .ref q24, .ref q25, .ref q26, .ref q27, .ref q28])), (q29, .inr (2, [.int 0, .ref q30, .ref q31, .ref q32, .ref q33, .ref q34, .ref q35, .int 0, .ref q36, .ref q37, .ref q38, .int 0, .ref q39]))]) [0, 1, 2] rfl
  have hDc := hD.sub (ws' := [(q1, .inr (11, [.ref q2, .ref q5, .ref q14, .ref q15, .ref q16, .ref q17, .ref q51, .ref q63, .ref q29, .ref q40, .int (-1)])), (q17, .inr (8, [.ref q18, .ref q19, .ref q20, .ref q21, .ref q22, .int 0, .ref q23, .int 0, .int 0, .int 0, .int 0, .int 0, .ref q24, .ref q25, .ref q26, .ref q27, .ref q28])), (q29, .inr (2, [.int 0, .ref q30, .ref q31, .ref q32, .ref q33, .ref q34, .ref q35, .int 0, .ref q36, .ref q37, .ref q38, .int 0, .ref q39]))]) [0, 1, 2] (by decide) rfl
  have hKc := hK.sub (tys' := []) [] rfl
  have hFc := va_free (wc := [(q1, .inr (11, [.ref q2, .ref q5, .ref q14, .ref q15, .ref q16, .ref q17, .ref q51, .ref q63, .ref q29, .ref q40, .int (-1)])), (q17, .inr (8, [.ref q18, .ref q19, .ref q20, .ref q21, .ref q22, .int 0, .ref q23, .int 0, .int 0, .int 0, .int 0, .int 0, .ref q24, .ref q25, .ref q26, .ref q27, .ref q28])), (q29, .inr (2, [.int 0, .ref q30, .ref q31, .ref q32, .ref q33, .ref q34, .ref q35, .int 0, .ref q36, .ref q37, .ref q38, .int 0, .ref q39]))]) hD hS hA [0, 1, 2] rfl
  refine va_calli (va_runV (As := []) (rest := []) ⟨hx, hb, hml, hown, hts⟩ (kX11_restore l dC dI (gx := q1) (gq1 := q2) (gq4 := q5) (gq13 := q14) (gq136 := q15) (gq137 := q16) (gq138 := q17) (gq139 := q18) (gq140 := q19) (gq141 := q20) (gq142 := q21) (gq143 := q22) (gq144 := q23) (gq145 := q24) (gq146 := q25) (gq147 := q26) (gq148 := q27) (gq149 := q28) (gq150 := q29) (gq151 := q30) (gq152 := q31) (gq153 := q32) (gq154 := q33) (gq155 := q34) (gq156 := q35) (gq157 := q36) (gq158 := q37) (gq159 := q38) (gq160 := q39) (gq161 := q40) (gq172 := q51) (gq184 := q63) (sz := _)) (cwV 0 hts (gi_V qw691 qw692 qw693 qw222 (gi_z qw690)) rfl rfl rfl (by decide +kernel) ⟨Nat.le_of_ble_eq_true rfl, Nat.le_of_ble_eq_true rfl⟩) ⟨PRE.blind, va_recv hKc hPc (ci := 11) (q0 := 0) rfl rfl, PRE.of hE hS hFc hPc hKc hDc⟩ rfl rfl hl.1 rfl (lv_room (Nat.le_of_ble_eq_true rfl)) dL_law_435 ⟨Nat.le_of_ble_eq_true rfl, Nat.le_of_ble_eq_true rfl⟩) hS (fun q _ h => hFc q h) hFc (fun r90 u t H locs ht hvm hw hB hz1 hk1 hS => ?_)
  obtain ⟨hP, hD, hK⟩ := JOIN (wr := [(q64, .inr (15, [.ref q65, .int 0, .int (-1), .int 0, .ref q67, .ref q68, .ref q70, .ref q72, .ref q86])), (q68, .inl (c69, 0, .inr (.inr (.inr (.inr (fun _ => none))))))]) hP hD hK [0, 1, 2] [3, 4] [0] rfl rfl (by decide) (by decide) rfl hk1 hFc ht hvm hB
  have hP : va_P (dC, dI) cls [(q64, .inr (15, [.ref q65, .int 0, .int (-1), .int 0, .ref q67, .ref q68, .ref q70, .ref q72, .ref q86])), (q68, .inl (c69, 0, .inr (.inr (.inr (.inr (fun _ => none)))))), (q1, .inr (11, [.ref q2, .ref q5, .ref q14, .ref q15, .ref q16, .ref q17, .ref q51, .ref q63, .ref q29, .ref q40, .int (-1)])), (q17, .inr (8, [.ref q18, .ref q19, .ref q20, .ref q21, .ref q22, .int 0, .ref q23, .int 0, .int 0, .int 0, .int 0, .int 0, .ref q24, .ref q25, .ref q26, .ref q27, .ref q28])), (q29, .inr (2, [.int 0, .ref q30, .ref q31, .ref q32, .ref q33, .ref q34, .ref q35, .int 0, .ref q36, .ref q37, .ref q38, .int 0, .ref q39]))] H := hP
  have hD : va_D A [(q64, .inr (15, [.ref q65, .int 0, .int (-1), .int 0, .ref q67, .ref q68, .ref q70, .ref q72, .ref q86])), (q68, .inl (c69, 0, .inr (.inr (.inr (.inr (fun _ => none)))))), (q1, .inr (11, [.ref q2, .ref q5, .ref q14, .ref q15, .ref q16, .ref q17, .ref q51, .ref q63, .ref q29, .ref q40, .int (-1)])), (q17, .inr (8, [.ref q18, .ref q19, .ref q20, .ref q21, .ref q22, .int 0, .ref q23, .int 0, .int 0, .int 0, .int 0, .int 0, .ref q24, .ref q25, .ref q26, .ref q27, .ref q28])), (q29, .inr (2, [.int 0, .ref q30, .ref q31, .ref q32, .ref q33, .ref q34, .ref q35, .int 0, .ref q36, .ref q37, .ref q38, .int 0, .ref q39]))] := hD
  have hK : va_K (dC, dI) cls [(c69, .object RX14)] s := hK
  refine W.widen (k := 369) (n := 122514) (Nat.le_of_ble_eq_true rfl) (Nat.le_of_ble_eq_true rfl) ?_
  obtain rfl : r90 = 0 := hw
  refine lv_aload_n hx hb dL_law_438 rfl (lv_at hl 2 rfl) ?_
  have hPc := hP.sub (ws' := [(q64, .inr (15, [.ref q65, .int 0, .int (-1), .int 0, .ref q67, .ref q68, .ref q70, .ref q72, .ref q86])), (q68, .inl (c69, 0, .inr (.inr (.inr (.inr (fun _ => none))))))]) [0, 1] rfl
  have hDc := hD.sub (ws' := [(q64, .inr (15, [.ref q65, .int 0, .int (-1), .int 0, .ref q67, .ref q68, .ref q70, .ref q72, .ref q86])), (q68, .inl (c69, 0, .inr (.inr (.inr (.inr (fun _ => none))))))]) [0, 1] (by decide) rfl
  have hKc := hK.sub (tys' := [(c69, .object RX14)]) [0] rfl
  have hFc := va_free (wc := [(q64, .inr (15, [.ref q65, .int 0, .int (-1), .int 0, .ref q67, .ref q68, .ref q70, .ref q72, .ref q86])), (q68, .inl (c69, 0, .inr (.inr (.inr (.inr (fun _ => none))))))]) hD hS hA [0, 1] rfl
  refine va_calli (va_runV (As := []) (rest := [.int 0]) ⟨hx, hb, hml, hown, hts⟩ (kX24_restore l dC dI (mx := q64) (mq1 := q65) (mq3 := q67) (mq4 := q68) (mc5 := c69) (mq6 := q70) (mq8 := q72) (mq22 := q86) (sz := _)) (cwV 0 hts (gi_V qw695 qw696 qw697 qw434 (gi_z qw694)) rfl rfl rfl (by decide +kernel) ⟨Nat.le_of_ble_eq_true rfl, Nat.le_of_ble_eq_true rfl⟩) ⟨PRE.blind, va_recv hKc hPc (ci := 15) (q0 := 0) rfl rfl, PRE.of hE hS hFc hPc hKc hDc⟩ rfl rfl hl.1 rfl (lv_room (Nat.le_of_ble_eq_true rfl)) dL_law_439 ⟨Nat.le_of_ble_eq_true rfl, Nat.le_of_ble_eq_true rfl⟩) hS (fun q _ h => hFc q h) hFc (fun r91 u t H locs ht hvm hw hB hz1 hk1 hS => ?_)
  obtain ⟨q92, hB⟩ := hB
  obtain ⟨hP, hD, hK⟩ := JOIN (wr := [(q1, .inr (11, [.ref q2, .ref q5, .ref q14, .ref q15, .ref q16, .ref q17, .ref q51, .ref q63, .ref q29, .ref q40, .int (-1)])), (q17, .inr (8, [.ref q18, .ref q19, .ref q20, .ref q21, .ref q22, .int 0, .ref q23, .int 0, .int 0, .int 0, .int 0, .int 0, .ref q24, .ref q25, .ref q26, .ref q27, .ref q28])), (q29, .inr (2, [.int 0, .ref q30, .ref q31, .ref q32, .ref q33, .ref q34, .ref q35, .int 0, .ref q36, .ref q37, .ref q38, .int 0, .ref q39]))]) hP hD hK [0, 1] [2, 3, 4] [] rfl rfl (by decide) (by decide) rfl hk1 hFc ht hvm hB
  have hP : va_P (dC, dI) cls [(q1, .inr (11, [.ref q2, .ref q5, .ref q14, .ref q15, .ref q16, .ref q17, .ref q51, .ref q63, .ref q29, .ref q40, .int (-1)])), (q17, .inr (8, [.ref q18, .ref q19, .ref q20, .ref q21, .ref q22, .int 0, .ref q23, .int 0, .int 0, .int 0, .int 0, .int 0, .ref q24, .ref q25, .ref q26, .ref q27, .ref q28])), (q29, .inr (2, [.int 0, .ref q30, .ref q31, .ref q32, .ref q33, .ref q34, .ref q35, .int 0, .ref q36, .ref q37, .ref q38, .int 0, .ref q39])), (q64, .inr (15, [.ref q65, .int 0, .int (-1), .int 0, .ref q67, .ref q68, .ref q92, .ref q72, .ref q86]))] H := hP
  have hD : va_D A [(q1, .inr (11, [.ref q2, .ref q5, .ref q14, .ref q15, .ref q16, .ref q17, .ref q51, .ref q63, .ref q29, .ref q40, .int (-1)])), (q17, .inr (8, [.ref q18, .ref q19, .ref q20, .ref q21, .ref q22, .int 0, .ref q23, .int 0, .int 0, .int 0, .int 0, .int 0, .ref q24, .ref q25, .ref q26, .ref q27, .ref q28])), (q29, .inr (2, [.int 0, .ref q30, .ref q31, .ref q32, .ref q33, .ref q34, .ref q35, .int 0, .ref q36, .ref q37, .ref q38, .int 0, .ref q39])), (q64, .inr (15, [.ref q65, .int 0, .int (-1), .int 0, .ref q67, .ref q68, .ref q92, .ref q72, .ref q86]))] := hD
  have hK : va_K (dC, dI) cls [] s := hK
  refine W.widen (k := 370) (n := 122514) (Nat.le_of_ble_eq_true rfl) (Nat.le_of_ble_eq_true rfl) ?_
  obtain rfl : r91 = 0 := hw
  refine lv_icmp_eq (tgt := 2818) hx hb dL_law_442 (by decide) (fun _ => ?_) (fun c => absurd (by decide) c)
  refine lv_iinc (v := 7) (lv' := [(4, .int 7), (3, .ref q87), (2, .ref q64), (1, .ref q1), (0, .ref b)]) hx hb dL_law_2818 hl (k := 0) rfl (by decide) (by decide) rfl (fun ls hl => ?_)
  refine lv_goto (tgt := 23) hx hb dL_law_2821 (by decide) ?_
  refine lv_iload hx hb dL_law_23 (lv_at hl 0 rfl) ?_
  refine lv_aload_n hx hb dL_law_25 rfl (lv_at hl 4 rfl) ?_
  refine va_slen hx hb hX hbl hbA hS dL_law_26 ?_
  refine lv_topC (y := 7) rfl ?_
  refine lv_bipush (v := 7) hx hb dL_law_27 (by decide) ?_
  refine lv_isub hx hb dL_law_29 ?_
  refine lv_topC (y := 0) (by decide) ?_
  refine lv_icmp_gt (tgt := 2824) hx hb dL_law_30 (by decide) (fun _ => ?_) (fun c => absurd (by decide) c)
  refine lv_iconst (v := 1) hx hb dL_law_2824 (by decide) ?_
  refine va_forget (fun q hq => hA2 _ (hS.2.2 q hq)) ?_
  refine W.widen (k := 600002) (n := 7302232) (Nat.le_of_ble_eq_true rfl) (Nat.le_of_ble_eq_true rfl) ?_
  exact lw_ret (d0 := s.drawn) (Drawn.sameBut.refl s.drawn lw_cs) hx hb hr hlocks dL_law_2825
set_option maxHeartbeats 4000000 in
set_option maxRecDepth 100000 in
theorem law_5 {zs : Nat × Nat} {p : Program} {e : Env} {s : State} {m : MethodId} {below : List Frame} {meth : Method} {c : Code} {l : Launch} {b : Nat} {xs : Nat → Int32} {dC : Nat → ClassId} {dI : Nat → Nat → Nat} {A : Nat → Prop} (C0 : lw_At p s m meth c b 7 xs) (hl9 : l.stackTraces = false) (hA : ∀ q, s.heap.size ≤ q → A q) (hA2 : ∀ q, A q → s.heap.size ≤ q) (hE : ENV zs A s s.heap) {H : Heap} {locs : List Loc} (q1 : Nat) (q2 : Nat) (q5 : Nat) (q14 : Nat) (q15 : Nat) (q16 : Nat) (q17 : Nat) (q29 : Nat) (q30 : Nat) (q31 : Nat) (q32 : Nat) (q33 : Nat) (q34 : Nat) (q35 : Nat) (q36 : Nat) (q37 : Nat) (q38 : Nat) (q39 : Nat) (q40 : Nat) (q51 : Nat) (q63 : Nat) (q64 : Nat) (q65 : Nat) (q67 : Nat) (q68 : Nat) (c69 : ClassId) (q70 : Nat) (q72 : Nat) (q86 : Nat) (q87 : Nat) (hP : va_P (dC, dI) cls [(q1, .inr (11, [.ref q2, .ref q5, .ref q14, .ref q15, .ref q16, .ref q17, .ref q51, .ref q63, .ref q29, .ref q40, .int (-1)])), (q29, .inr (2, [.int 0, .ref q30, .ref q31, .ref q32, .ref q33, .ref q34, .ref q35, .int 0, .ref q36, .ref q37, .ref q38, .int 0, .ref q39])), (q64, .inr (15, [.ref q65, .int 0, .int (-1), .int 0, .ref q67, .ref q68, .ref q70, .ref q72, .ref q86])), (q68, .inl (c69, 0, .inr (.inr (.inr (.inr (fun _ => none))))))] H) (hD : va_D A [(q1, .inr (11, [.ref q2, .ref q5, .ref q14, .ref q15, .ref q16, .ref q17, .ref q51, .ref q63, .ref q29, .ref q40, .int (-1)])), (q29, .inr (2, [.int 0, .ref q30, .ref q31, .ref q32, .ref q33, .ref q34, .ref q35, .int 0, .ref q36, .ref q37, .ref q38, .int 0, .ref q39])), (q64, .inr (15, [.ref q65, .int 0, .int (-1), .int 0, .ref q67, .ref q68, .ref q70, .ref q72, .ref q86])), (q68, .inl (c69, 0, .inr (.inr (.inr (.inr (fun _ => none))))))]) (hK : va_K (dC, dI) cls [(c69, .object RX14)] s) (hS : va_S A s.heap H locs) {ls : Array Slot} (hl : lv_has ls 9 [(4, .int 0), (3, .ref q87), (2, .ref q64), (1, .ref q1), (0, .ref b)])  : W p l e room_1 s m #[Value.ref b] below meth c H locs 369 122514 (lw_Z below #[Value.ref b] s) (F0 m 447 ls []) := by
  obtain ⟨hx, hb, hr, hml, hown, hts0, hX, hbl, hlocks, hgv⟩ := id C0
  have hts : ∀ w ∈ gw, w.before #[Value.ref b] s = true := fun w h => hts0 w (gw_tbl h)
  have hbA : ¬ A b := fun h => absurd (hA2 b h) (Nat.not_le.mpr hbl)
  refine lv_aload_n hx hb dL_law_447 rfl (lv_at hl 3 rfl) ?_
  have hPc := hP.sub (ws' := [(q1, .inr (11, [.ref q2, .ref q5, .ref q14, .ref q15, .ref q16, .ref q17, .ref q51, .ref q63, .ref q29, .ref q40, .int (-1)])), (q29, .inr (2, [.int 0, .ref q30, .ref q31, .ref q32, .ref q33, .ref q34, .ref q35, .int 0, .ref q36, .ref q37, .ref q38, .int 0, .ref q39]))]) [0, 1] rfl
  have hDc := hD.sub (ws' := [(q1, .inr (11, [.ref q2, .ref q5, .ref q14, .ref q15, .ref q16, .ref q17, .ref q51, .ref q63, .ref q29, .ref q40, .int (-1)])), (q29, .inr (2, [.int 0, .ref q30, .ref q31, .ref q32, .ref q33, .ref q34, .ref q35, .int 0, .ref q36, .ref q37, .ref q38, .int 0, .ref q39]))]) [0, 1] (by decide) rfl
  have hKc := hK.sub (tys' := []) [] rfl
  have hFc := va_free (wc := [(q1, .inr (11, [.ref q2, .ref q5, .ref q14, .ref q15, .ref q16, .ref q17, .ref q51, .ref q63, .ref q29, .ref q40, .int (-1)])), (q29, .inr (2, [.int 0, .ref q30, .ref q31, .ref q32, .ref q33, .ref q34, .ref q35, .int 0, .ref q36, .ref q37, .ref q38, .int 0, .ref q39]))]) hD hS hA [0, 1] rfl
  refine va_calli (va_runV (As := []) (rest := []) ⟨hx, hb, hml, hown, hts⟩ (kX11_functions l dC dI (gx := q1) (gq1 := q2) (gq4 := q5) (gq13 := q14) (gq136 := q15) (gq137 := q16) (gq138 := q17) (gq150 := q29) (gq151 := q30) (gq152 := q31) (gq153 := q32) (gq154 := q33) (gq155 := q34) (gq156 := q35) (gq157 := q36) (gq158 := q37) (gq159 := q38) (gq160 := q39) (gq161 := q40) (gq172 := q51) (gq184 := q63) (sz := _)) (cwV 0 hts (gi_V qw699 qw700 qw701 qw222 (gi_z qw698)) rfl rfl rfl (by decide +kernel) ⟨Nat.le_of_ble_eq_true rfl, Nat.le_of_ble_eq_true rfl⟩) ⟨PRE.blind, va_recv hKc hPc (ci := 11) (q0 := 0) rfl rfl, PRE.of hE hS hFc hPc hKc hDc⟩ rfl rfl hl.1 rfl (lv_room (Nat.le_of_ble_eq_true rfl)) dL_law_448 ⟨Nat.le_of_ble_eq_true rfl, Nat.le_of_ble_eq_true rfl⟩) hS (fun q _ h => hFc q h) hFc (fun r90 u t H locs ht hvm hw hB hz1 hk1 hS => ?_)
  obtain ⟨hP, hD, hK⟩ := JOIN (wr := [(q64, .inr (15, [.ref q65, .int 0, .int (-1), .int 0, .ref q67, .ref q68, .ref q70, .ref q72, .ref q86])), (q68, .inl (c69, 0, .inr (.inr (.inr (.inr (fun _ => none))))))]) hP hD hK [0, 1] [2, 3] [0] rfl rfl (by decide) (by decide) rfl hk1 hFc ht hvm hB
  have hP : va_P (dC, dI) cls [(q64, .inr (15, [.ref q65, .int 0, .int (-1), .int 0, .ref q67, .ref q68, .ref q70, .ref q72, .ref q86])), (q68, .inl (c69, 0, .inr (.inr (.inr (.inr (fun _ => none)))))), (q1, .inr (11, [.ref q2, .ref q5, .ref q14, .ref q15, .ref q16, .ref q17, .ref q51, .ref q63, .ref q29, .ref q40, .int (-1)])), (q29, .inr (2, [.int 0, .ref q30, .ref q31, .ref q32, .ref q33, .ref q34, .ref q35, .int 0, .ref q36, .ref q37, .ref q38, .int 0, .ref q39]))] H := hP
  have hD : va_D A [(q64, .inr (15, [.ref q65, .int 0, .int (-1), .int 0, .ref q67, .ref q68, .ref q70, .ref q72, .ref q86])), (q68, .inl (c69, 0, .inr (.inr (.inr (.inr (fun _ => none)))))), (q1, .inr (11, [.ref q2, .ref q5, .ref q14, .ref q15, .ref q16, .ref q17, .ref q51, .ref q63, .ref q29, .ref q40, .int (-1)])), (q29, .inr (2, [.int 0, .ref q30, .ref q31, .ref q32, .ref q33, .ref q34, .ref q35, .int 0, .ref q36, .ref q37, .ref q38, .int 0, .ref q39]))] := hD
  have hK : va_K (dC, dI) cls [(c69, .object RX14)] s := hK
  refine W.widen (k := 369) (n := 122514) (Nat.le_of_ble_eq_true rfl) (Nat.le_of_ble_eq_true rfl) ?_
  obtain rfl : r90 = 0 := hw
  refine lv_aload_n hx hb dL_law_451 rfl (lv_at hl 2 rfl) ?_
  have hPc := hP.sub (ws' := [(q64, .inr (15, [.ref q65, .int 0, .int (-1), .int 0, .ref q67, .ref q68, .ref q70, .ref q72, .ref q86])), (q68, .inl (c69, 0, .inr (.inr (.inr (.inr (fun _ => none))))))]) [0, 1] rfl
  have hDc := hD.sub (ws' := [(q64, .inr (15, [.ref q65, .int 0, .int (-1), .int 0, .ref q67, .ref q68, .ref q70, .ref q72, .ref q86])), (q68, .inl (c69, 0, .inr (.inr (.inr (.inr (fun _ => none))))))]) [0, 1] (by decide) rfl
  have hKc := hK.sub (tys' := [(c69, .object RX14)]) [0] rfl
  have hFc := va_free (wc := [(q64, .inr (15, [.ref q65, .int 0, .int (-1), .int 0, .ref q67, .ref q68, .ref q70, .ref q72, .ref q86])), (q68, .inl (c69, 0, .inr (.inr (.inr (.inr (fun _ => none))))))]) hD hS hA [0, 1] rfl
  refine va_calli (va_runV (As := []) (rest := [.int 0]) ⟨hx, hb, hml, hown, hts⟩ (kX24_functions l dC dI (mx := q64) (mq1 := q65) (mq3 := q67) (mq4 := q68) (mc5 := c69) (mq6 := q70) (mq8 := q72) (mq22 := q86) (sz := _)) (cwV 0 hts (gi_V qw703 qw704 qw705 qw434 (gi_z qw702)) rfl rfl rfl (by decide +kernel) ⟨Nat.le_of_ble_eq_true rfl, Nat.le_of_ble_eq_true rfl⟩) ⟨PRE.blind, va_recv hKc hPc (ci := 15) (q0 := 0) rfl rfl, PRE.of hE hS hFc hPc hKc hDc⟩ rfl rfl hl.1 rfl (lv_room (Nat.le_of_ble_eq_true rfl)) dL_law_452 ⟨Nat.le_of_ble_eq_true rfl, Nat.le_of_ble_eq_true rfl⟩) hS (fun q _ h => hFc q h) hFc (fun r91 u t H locs ht hvm hw hB hz1 hk1 hS => ?_)
  obtain ⟨hP, hD, hK⟩ := JOIN (wr := [(q1, .inr (11, [.ref q2, .ref q5, .ref q14, .ref q15, .ref q16, .ref q17, .ref q51, .ref q63, .ref q29, .ref q40, .int (-1)])), (q29, .inr (2, [.int 0, .ref q30, .ref q31, .ref q32, .ref q33, .ref q34, .ref q35, .int 0, .ref q36, .ref q37, .ref q38, .int 0, .ref q39]))]) hP hD hK [0, 1] [2, 3] [] rfl rfl (by decide) (by decide) rfl hk1 hFc ht hvm hB
  have hP : va_P (dC, dI) cls [(q1, .inr (11, [.ref q2, .ref q5, .ref q14, .ref q15, .ref q16, .ref q17, .ref q51, .ref q63, .ref q29, .ref q40, .int (-1)])), (q29, .inr (2, [.int 0, .ref q30, .ref q31, .ref q32, .ref q33, .ref q34, .ref q35, .int 0, .ref q36, .ref q37, .ref q38, .int 0, .ref q39])), (q64, .inr (15, [.ref q65, .int 0, .int (-1), .int 0, .ref q67, .ref q68, .ref q70, .ref q72, .ref q86]))] H := hP
  have hD : va_D A [(q1, .inr (11, [.ref q2, .ref q5, .ref q14, .ref q15, .ref q16, .ref q17, .ref q51, .ref q63, .ref q29, .ref q40, .int (-1)])), (q29, .inr (2, [.int 0, .ref q30, .ref q31, .ref q32, .ref q33, .ref q34, .ref q35, .int 0, .ref q36, .ref q37, .ref q38, .int 0, .ref q39])), (q64, .inr (15, [.ref q65, .int 0, .int (-1), .int 0, .ref q67, .ref q68, .ref q70, .ref q72, .ref q86]))] := hD
  have hK : va_K (dC, dI) cls [] s := hK
  refine W.widen (k := 369) (n := 122514) (Nat.le_of_ble_eq_true rfl) (Nat.le_of_ble_eq_true rfl) ?_
  obtain rfl : r91 = 0 := hw
  refine lv_icmp_eq (tgt := 2818) hx hb dL_law_455 (by decide) (fun _ => ?_) (fun c => absurd (by decide) c)
  refine lv_iinc (v := 7) (lv' := [(4, .int 7), (3, .ref q87), (2, .ref q64), (1, .ref q1), (0, .ref b)]) hx hb dL_law_2818 hl (k := 0) rfl (by decide) (by decide) rfl (fun ls hl => ?_)
  refine lv_goto (tgt := 23) hx hb dL_law_2821 (by decide) ?_
  refine lv_iload hx hb dL_law_23 (lv_at hl 0 rfl) ?_
  refine lv_aload_n hx hb dL_law_25 rfl (lv_at hl 4 rfl) ?_
  refine va_slen hx hb hX hbl hbA hS dL_law_26 ?_
  refine lv_topC (y := 7) rfl ?_
  refine lv_bipush (v := 7) hx hb dL_law_27 (by decide) ?_
  refine lv_isub hx hb dL_law_29 ?_
  refine lv_topC (y := 0) (by decide) ?_
  refine lv_icmp_gt (tgt := 2824) hx hb dL_law_30 (by decide) (fun _ => ?_) (fun c => absurd (by decide) c)
  refine lv_iconst (v := 1) hx hb dL_law_2824 (by decide) ?_
  refine va_forget (fun q hq => hA2 _ (hS.2.2 q hq)) ?_
  refine W.widen (k := 600002) (n := 7302232) (Nat.le_of_ble_eq_true rfl) (Nat.le_of_ble_eq_true rfl) ?_
  exact lw_ret (d0 := s.drawn) (Drawn.sameBut.refl s.drawn lw_cs) hx hb hr hlocks dL_law_2825
set_option maxHeartbeats 4000000 in
set_option maxRecDepth 100000 in
theorem law_6 {zs : Nat × Nat} {p : Program} {e : Env} {s : State} {m : MethodId} {below : List Frame} {meth : Method} {c : Code} {l : Launch} {b : Nat} {xs : Nat → Int32} {dC : Nat → ClassId} {dI : Nat → Nat → Nat} {A : Nat → Prop} (C0 : lw_At p s m meth c b 7 xs) (hl9 : l.stackTraces = false) (hA : ∀ q, s.heap.size ≤ q → A q) (hA2 : ∀ q, A q → s.heap.size ≤ q) (hE : ENV zs A s s.heap) {H : Heap} {locs : List Loc} (q1 : Nat) (q2 : Nat) (q5 : Nat) (q14 : Nat) (q15 : Nat) (q16 : Nat) (q17 : Nat) (q29 : Nat) (q30 : Nat) (q31 : Nat) (q32 : Nat) (q33 : Nat) (q34 : Nat) (q35 : Nat) (q36 : Nat) (q37 : Nat) (q38 : Nat) (q39 : Nat) (q40 : Nat) (q51 : Nat) (q63 : Nat) (q64 : Nat) (q65 : Nat) (q67 : Nat) (q68 : Nat) (c69 : ClassId) (q70 : Nat) (q72 : Nat) (q86 : Nat) (q87 : Nat) (hP : va_P (dC, dI) cls [(q1, .inr (11, [.ref q2, .ref q5, .ref q14, .ref q15, .ref q16, .ref q17, .ref q51, .ref q63, .ref q29, .ref q40, .int (-1)])), (q29, .inr (2, [.int 0, .ref q30, .ref q31, .ref q32, .ref q33, .ref q34, .ref q35, .int 0, .ref q36, .ref q37, .ref q38, .int 0, .ref q39])), (q64, .inr (15, [.ref q65, .int 0, .int (-1), .int 0, .ref q67, .ref q68, .ref q70, .ref q72, .ref q86])), (q68, .inl (c69, 0, .inr (.inr (.inr (.inr (fun _ => none))))))] H) (hD : va_D A [(q1, .inr (11, [.ref q2, .ref q5, .ref q14, .ref q15, .ref q16, .ref q17, .ref q51, .ref q63, .ref q29, .ref q40, .int (-1)])), (q29, .inr (2, [.int 0, .ref q30, .ref q31, .ref q32, .ref q33, .ref q34, .ref q35, .int 0, .ref q36, .ref q37, .ref q38, .int 0, .ref q39])), (q64, .inr (15, [.ref q65, .int 0, .int (-1), .int 0, .ref q67, .ref q68, .ref q70, .ref q72, .ref q86])), (q68, .inl (c69, 0, .inr (.inr (.inr (.inr (fun _ => none))))))]) (hK : va_K (dC, dI) cls [(c69, .object RX14)] s) (hS : va_S A s.heap H locs) {ls : Array Slot} (hl : lv_has ls 9 [(4, .int 0), (3, .ref q87), (2, .ref q64), (1, .ref q1), (0, .ref b)])  : W p l e room_1 s m #[Value.ref b] below meth c H locs 369 122514 (lw_Z below #[Value.ref b] s) (F0 m 460 ls []) := by
  obtain ⟨hx, hb, hr, hml, hown, hts0, hX, hbl, hlocks, hgv⟩ := id C0
  have hts : ∀ w ∈ gw, w.before #[Value.ref b] s = true := fun w h => hts0 w (gw_tbl h)
  have hbA : ¬ A b := fun h => absurd (hA2 b h) (Nat.not_le.mpr hbl)
  refine lv_aload_n hx hb dL_law_460 rfl (lv_at hl 3 rfl) ?_
  refine lv_aload_n hx hb dL_law_461 rfl (lv_at hl 4 rfl) ?_
  refine lv_iload hx hb dL_law_462 (lv_at hl 0 rfl) ?_
  refine lv_iconst (v := 1) hx hb dL_law_464 (by decide) ?_
  refine lv_iadd hx hb dL_law_465 ?_
  refine lv_topC (y := 1) (by decide) ?_
  refine va_sld hx hb hX hbl hbA hS (by unfold vp_in; decide +kernel) dL_law_466 ?_
  refine lv_topC (y := xs 1) rfl ?_
  refine lv_aload_n hx hb dL_law_467 rfl (lv_at hl 1 rfl) ?_
  have hPc := hP.sub (ws' := [(q1, .inr (11, [.ref q2, .ref q5, .ref q14, .ref q15, .ref q16, .ref q17, .ref q51, .ref q63, .ref q29, .ref q40, .int (-1)])), (q29, .inr (2, [.int 0, .ref q30, .ref q31, .ref q32, .ref q33, .ref q34, .ref q35, .int 0, .ref q36, .ref q37, .ref q38, .int 0, .ref q39]))]) [0, 1] rfl
  have hDc := hD.sub (ws' := [(q1, .inr (11, [.ref q2, .ref q5, .ref q14, .ref q15, .ref q16, .ref q17, .ref q51, .ref q63, .ref q29, .ref q40, .int (-1)])), (q29, .inr (2, [.int 0, .ref q30, .ref q31, .ref q32, .ref q33, .ref q34, .ref q35, .int 0, .ref q36, .ref q37, .ref q38, .int 0, .ref q39]))]) [0, 1] (by decide) rfl
  have hKc := hK.sub (tys' := []) [] rfl
  have hFc := va_free (wc := [(q1, .inr (11, [.ref q2, .ref q5, .ref q14, .ref q15, .ref q16, .ref q17, .ref q51, .ref q63, .ref q29, .ref q40, .int (-1)])), (q29, .inr (2, [.int 0, .ref q30, .ref q31, .ref q32, .ref q33, .ref q34, .ref q35, .int 0, .ref q36, .ref q37, .ref q38, .int 0, .ref q39]))]) hD hS hA [0, 1] rfl
  refine va_calli (vx_runSW (As := [.ref q1, .int (xs 1), .ref q87]) (rest := []) ⟨hx, hb, hml, hown, hts⟩ (kL_parametersOf l dC dI (gx := q1) (gq1 := q2) (gq4 := q5) (gq13 := q14) (gq136 := q15) (gq137 := q16) (gq138 := q17) (gq150 := q29) (gq151 := q30) (gq152 := q31) (gq153 := q32) (gq154 := q33) (gq155 := q34) (gq156 := q35) (gq157 := q36) (gq158 := q37) (gq159 := q38) (gq160 := q39) (gq161 := q40) (gq172 := q51) (gq184 := q63) (go := q87) (p0 := (xs 1)) (sz := _) (hl9 := hl9)) (vx_cwSW 3 hts (gi_S qw707 qw708 qw658 (gi_h qw706)) rfl rfl rfl (by decide +kernel) ⟨Nat.le_of_ble_eq_true rfl, Nat.le_of_ble_eq_true rfl⟩) ⟨PRE.blind, PRE.of hE hS hFc hPc hKc hDc⟩ rfl rfl hl.1 rfl (lv_room (Nat.le_of_ble_eq_true rfl)) dL_law_468 ⟨Nat.le_of_ble_eq_true rfl, Nat.le_of_ble_eq_true rfl⟩) hS (fun q _ h => hFc q h) hFc (fun r90 u t H locs ht hvm hw hB hz1 hk1 hS => ?_)
  obtain ⟨hP, hD, hK⟩ := JOIN (wr := [(q64, .inr (15, [.ref q65, .int 0, .int (-1), .int 0, .ref q67, .ref q68, .ref q70, .ref q72, .ref q86])), (q68, .inl (c69, 0, .inr (.inr (.inr (.inr (fun _ => none))))))]) hP hD hK [0, 1] [2, 3] [0] rfl rfl (by decide) (by decide) rfl hk1 hFc ht hvm hB
  have hP : va_P (dC, dI) cls [(q64, .inr (15, [.ref q65, .int 0, .int (-1), .int 0, .ref q67, .ref q68, .ref q70, .ref q72, .ref q86])), (q68, .inl (c69, 0, .inr (.inr (.inr (.inr (fun _ => none))))))] H := hP
  have hD : va_D A [(q64, .inr (15, [.ref q65, .int 0, .int (-1), .int 0, .ref q67, .ref q68, .ref q70, .ref q72, .ref q86])), (q68, .inl (c69, 0, .inr (.inr (.inr (.inr (fun _ => none))))))] := hD
  have hK : va_K (dC, dI) cls [(c69, .object RX14)] s := hK
  refine W.widen (k := 370) (n := 122520) (Nat.le_of_ble_eq_true rfl) (Nat.le_of_ble_eq_true rfl) ?_
  obtain rfl : r90 = 1 := hw
  refine lv_istore (lv' := [(5, .int 1), (4, .int 0), (3, .ref q87), (2, .ref q64), (1, .ref q1), (0, .ref b)]) hx hb dL_law_471 hl (by decide) rfl (fun ls hl => ?_)
  refine lv_aload_n hx hb dL_law_473 rfl (lv_at hl 3 rfl) ?_
  refine lv_aload_n hx hb dL_law_474 rfl (lv_at hl 5 rfl) ?_
  refine lv_iload hx hb dL_law_475 (lv_at hl 1 rfl) ?_
  refine lv_iconst (v := 1) hx hb dL_law_477 (by decide) ?_
  refine lv_iadd hx hb dL_law_478 ?_
  refine lv_topC (y := 1) (by decide) ?_
  refine va_sld hx hb hX hbl hbA hS (by unfold vp_in; decide +kernel) dL_law_479 ?_
  refine lv_topC (y := xs 1) rfl ?_
  have hPc := hP.sub (ws' := [(q64, .inr (15, [.ref q65, .int 0, .int (-1), .int 0, .ref q67, .ref q68, .ref q70, .ref q72, .ref q86])), (q68, .inl (c69, 0, .inr (.inr (.inr (.inr (fun _ => none))))))]) [0, 1] rfl
  have hDc := hD.sub (ws' := [(q64, .inr (15, [.ref q65, .int 0, .int (-1), .int 0, .ref q67, .ref q68, .ref q70, .ref q72, .ref q86])), (q68, .inl (c69, 0, .inr (.inr (.inr (.inr (fun _ => none))))))]) [0, 1] (by decide) rfl
  have hKc := hK.sub (tys' := [(c69, .object RX14)]) [0] rfl
  have hFc := va_free (wc := [(q64, .inr (15, [.ref q65, .int 0, .int (-1), .int 0, .ref q67, .ref q68, .ref q70, .ref q72, .ref q86])), (q68, .inl (c69, 0, .inr (.inr (.inr (.inr (fun _ => none))))))]) hD hS hA [0, 1] rfl
  refine va_calli (va_runV (As := [.int (xs 1)]) (rest := []) ⟨hx, hb, hml, hown, hts⟩ (kX24_parametersOf l dC dI (mx := q64) (mq1 := q65) (mq3 := q67) (mq4 := q68) (mc5 := c69) (mq6 := q70) (mq8 := q72) (mq22 := q86) (p0 := (xs 1)) (sz := _)) (cwV 1 hts (gi_V qw710 qw711 qw712 qw434 (gi_z qw709)) rfl rfl rfl (by decide +kernel) ⟨Nat.le_of_ble_eq_true rfl, Nat.le_of_ble_eq_true rfl⟩) ⟨PRE.blind, va_recv hKc hPc (ci := 15) (q0 := 0) rfl rfl, PRE.of hE hS hFc hPc hKc hDc⟩ rfl rfl hl.1 rfl (lv_room (Nat.le_of_ble_eq_true rfl)) dL_law_480 ⟨Nat.le_of_ble_eq_true rfl, Nat.le_of_ble_eq_true rfl⟩) hS (fun q _ h => hFc q h) hFc (fun r91 u t H locs ht hvm hw hB hz1 hk1 hS => ?_)
  obtain ⟨hP, hD, hK⟩ := JOIN (wr := []) hP hD hK [0, 1] [] [] rfl rfl (by decide) (by decide) rfl hk1 hFc ht hvm hB
  have hP : va_P (dC, dI) cls [(q64, .inr (15, [.ref q65, .int 0, .int (-1), .int 1, .ref q67, .ref q68, .ref q70, .ref q72, .ref q86]))] H := hP
  have hD : va_D A [(q64, .inr (15, [.ref q65, .int 0, .int (-1), .int 1, .ref q67, .ref q68, .ref q70, .ref q72, .ref q86]))] := hD
  have hK : va_K (dC, dI) cls [] s := hK
  refine W.widen (k := 370) (n := 122520) (Nat.le_of_ble_eq_true rfl) (Nat.le_of_ble_eq_true rfl) ?_
  obtain rfl : r91 = 0 := hw
  refine lv_istore (lv' := [(6, .int 0), (5, .int 1), (4, .int 0), (3, .ref q87), (2, .ref q64), (1, .ref q1), (0, .ref b)]) hx hb dL_law_483 hl (by decide) rfl (fun ls hl => ?_)
  refine lv_aload_n hx hb dL_law_485 rfl (lv_at hl 4 rfl) ?_
  have hPc := hP.sub (ws' := [(q64, .inr (15, [.ref q65, .int 0, .int (-1), .int 1, .ref q67, .ref q68, .ref q70, .ref q72, .ref q86]))]) [0] rfl
  have hDc := hD.sub (ws' := [(q64, .inr (15, [.ref q65, .int 0, .int (-1), .int 1, .ref q67, .ref q68, .ref q70, .ref q72, .ref q86]))]) [0] (by decide) rfl
  have hKc := hK.sub (tys' := []) [] rfl
  have hFc := va_free (wc := [(q64, .inr (15, [.ref q65, .int 0, .int (-1), .int 1, .ref q67, .ref q68, .ref q70, .ref q72, .ref q86]))]) hD hS hA [0] rfl
  refine va_calli (va_runV (As := []) (rest := []) ⟨hx, hb, hml, hown, hts⟩ (kX24_thrown_n64 l dC dI (a0 := q64) (a60 := q65) (a62 := q68) (a64 := q70) (a66 := q72) (a82 := q67) (a83 := q86) (sz := _)) (cwV 0 hts (gi_V qw664 qw665 qw666 qw434 (gi_z qw663)) rfl rfl rfl (by decide +kernel) ⟨Nat.le_of_ble_eq_true rfl, Nat.le_of_ble_eq_true rfl⟩) ⟨PRE.blind, va_recv hKc hPc (ci := 15) (q0 := 0) rfl rfl, PRE.of hE hS hFc hPc hKc hDc⟩ rfl rfl hl.1 rfl (lv_room (Nat.le_of_ble_eq_true rfl)) dL_law_486 ⟨Nat.le_of_ble_eq_true rfl, Nat.le_of_ble_eq_true rfl⟩) hS (fun q _ h => hFc q h) hFc (fun r92 u t H locs ht hvm hw hB hz1 hk1 hS => ?_)
  obtain ⟨hP, hD, hK⟩ := JOIN (wr := []) hP hD hK [0] [] [] rfl rfl (by decide) (by decide) rfl hk1 hFc ht hvm hB
  have hP : va_P (dC, dI) cls [(q64, .inr (15, [.ref q65, .int 0, .int (-1), .int 1, .ref q67, .ref q68, .ref q70, .ref q72, .ref q86]))] H := hP
  have hD : va_D A [(q64, .inr (15, [.ref q65, .int 0, .int (-1), .int 1, .ref q67, .ref q68, .ref q70, .ref q72, .ref q86]))] := hD
  have hK : va_K (dC, dI) cls [] s := hK
  refine W.widen (k := 370) (n := 122520) (Nat.le_of_ble_eq_true rfl) (Nat.le_of_ble_eq_true rfl) ?_
  obtain rfl : r92 = 1 := hw
  refine lv_iload hx hb dL_law_489 (lv_at hl 1 rfl) ?_
  refine lv_icmp_eq (tgt := 496) hx hb dL_law_491 (by decide) (fun _ => ?_) (fun c => absurd (by decide) c)
  refine lv_iload hx hb dL_law_496 (lv_at hl 1 rfl) ?_
  refine lv_if_ne (tgt := 513) hx hb dL_law_498 (by decide) (fun _ => ?_) (fun c => absurd c (by decide))
  refine lv_goto (tgt := 2818) hx hb dL_law_513 (by decide) ?_
  refine lv_iinc (v := 7) (lv' := [(4, .int 7), (6, .int 0), (5, .int 1), (3, .ref q87), (2, .ref q64), (1, .ref q1), (0, .ref b)]) hx hb dL_law_2818 hl (k := 2) rfl (by decide) (by decide) rfl (fun ls hl => ?_)
  refine lv_goto (tgt := 23) hx hb dL_law_2821 (by decide) ?_
  refine lv_iload hx hb dL_law_23 (lv_at hl 0 rfl) ?_
  refine lv_aload_n hx hb dL_law_25 rfl (lv_at hl 6 rfl) ?_
  refine va_slen hx hb hX hbl hbA hS dL_law_26 ?_
  refine lv_topC (y := 7) rfl ?_
  refine lv_bipush (v := 7) hx hb dL_law_27 (by decide) ?_
  refine lv_isub hx hb dL_law_29 ?_
  refine lv_topC (y := 0) (by decide) ?_
  refine lv_icmp_gt (tgt := 2824) hx hb dL_law_30 (by decide) (fun _ => ?_) (fun c => absurd (by decide) c)
  refine lv_iconst (v := 1) hx hb dL_law_2824 (by decide) ?_
  refine va_forget (fun q hq => hA2 _ (hS.2.2 q hq)) ?_
  refine W.widen (k := 600002) (n := 7302232) (Nat.le_of_ble_eq_true rfl) (Nat.le_of_ble_eq_true rfl) ?_
  exact lw_ret (d0 := s.drawn) (Drawn.sameBut.refl s.drawn lw_cs) hx hb hr hlocks dL_law_2825
set_option maxHeartbeats 4000000 in
set_option maxRecDepth 100000 in
theorem law_7 {zs : Nat × Nat} {p : Program} {e : Env} {s : State} {m : MethodId} {below : List Frame} {meth : Method} {c : Code} {l : Launch} {b : Nat} {xs : Nat → Int32} {dC : Nat → ClassId} {dI : Nat → Nat → Nat} {A : Nat → Prop} (C0 : lw_At p s m meth c b 7 xs) (hl9 : l.stackTraces = false) (hA : ∀ q, s.heap.size ≤ q → A q) (hA2 : ∀ q, A q → s.heap.size ≤ q) (hE : ENV zs A s s.heap) {H : Heap} {locs : List Loc} (q1 : Nat) (q2 : Nat) (q5 : Nat) (q14 : Nat) (q15 : Nat) (q16 : Nat) (q17 : Nat) (q29 : Nat) (q30 : Nat) (q31 : Nat) (q32 : Nat) (q33 : Nat) (q34 : Nat) (q35 : Nat) (q36 : Nat) (q37 : Nat) (q38 : Nat) (q39 : Nat) (q40 : Nat) (q51 : Nat) (q63 : Nat) (q64 : Nat) (q65 : Nat) (q67 : Nat) (q68 : Nat) (c69 : ClassId) (q70 : Nat) (q72 : Nat) (q86 : Nat) (q87 : Nat) (hP : va_P (dC, dI) cls [(q1, .inr (11, [.ref q2, .ref q5, .ref q14, .ref q15, .ref q16, .ref q17, .ref q51, .ref q63, .ref q29, .ref q40, .int (-1)])), (q29, .inr (2, [.int 0, .ref q30, .ref q31, .ref q32, .ref q33, .ref q34, .ref q35, .int 0, .ref q36, .ref q37, .ref q38, .int 0, .ref q39])), (q64, .inr (15, [.ref q65, .int 0, .int (-1), .int 0, .ref q67, .ref q68, .ref q70, .ref q72, .ref q86])), (q68, .inl (c69, 0, .inr (.inr (.inr (.inr (fun _ => none))))))] H) (hD : va_D A [(q1, .inr (11, [.ref q2, .ref q5, .ref q14, .ref q15, .ref q16, .ref q17, .ref q51, .ref q63, .ref q29, .ref q40, .int (-1)])), (q29, .inr (2, [.int 0, .ref q30, .ref q31, .ref q32, .ref q33, .ref q34, .ref q35, .int 0, .ref q36, .ref q37, .ref q38, .int 0, .ref q39])), (q64, .inr (15, [.ref q65, .int 0, .int (-1), .int 0, .ref q67, .ref q68, .ref q70, .ref q72, .ref q86])), (q68, .inl (c69, 0, .inr (.inr (.inr (.inr (fun _ => none))))))]) (hK : va_K (dC, dI) cls [(c69, .object RX14)] s) (hS : va_S A s.heap H locs) {ls : Array Slot} (hl : lv_has ls 9 [(4, .int 0), (3, .ref q87), (2, .ref q64), (1, .ref q1), (0, .ref b)])  : W p l e room_1 s m #[Value.ref b] below meth c H locs 369 122514 (lw_Z below #[Value.ref b] s) (F0 m 516 ls []) := by
  obtain ⟨hx, hb, hr, hml, hown, hts0, hX, hbl, hlocks, hgv⟩ := id C0
  have hts : ∀ w ∈ gw, w.before #[Value.ref b] s = true := fun w h => hts0 w (gw_tbl h)
  have hbA : ¬ A b := fun h => absurd (hA2 b h) (Nat.not_le.mpr hbl)
  refine lv_aload_n hx hb dL_law_516 rfl (lv_at hl 3 rfl) ?_
  refine lv_aload_n hx hb dL_law_517 rfl (lv_at hl 4 rfl) ?_
  refine lv_iload hx hb dL_law_518 (lv_at hl 0 rfl) ?_
  refine lv_iconst (v := 1) hx hb dL_law_520 (by decide) ?_
  refine lv_iadd hx hb dL_law_521 ?_
  refine lv_topC (y := 1) (by decide) ?_
  refine va_sld hx hb hX hbl hbA hS (by unfold vp_in; decide +kernel) dL_law_522 ?_
  refine lv_topC (y := xs 1) rfl ?_
  refine lv_aload_n hx hb dL_law_523 rfl (lv_at hl 1 rfl) ?_
  have hPc := hP.sub (ws' := [(q1, .inr (11, [.ref q2, .ref q5, .ref q14, .ref q15, .ref q16, .ref q17, .ref q51, .ref q63, .ref q29, .ref q40, .int (-1)])), (q29, .inr (2, [.int 0, .ref q30, .ref q31, .ref q32, .ref q33, .ref q34, .ref q35, .int 0, .ref q36, .ref q37, .ref q38, .int 0, .ref q39]))]) [0, 1] rfl
  have hDc := hD.sub (ws' := [(q1, .inr (11, [.ref q2, .ref q5, .ref q14, .ref q15, .ref q16, .ref q17, .ref q51, .ref q63, .ref q29, .ref q40, .int (-1)])), (q29, .inr (2, [.int 0, .ref q30, .ref q31, .ref q32, .ref q33, .ref q34, .ref q35, .int 0, .ref q36, .ref q37, .ref q38, .int 0, .ref q39]))]) [0, 1] (by decide) rfl
  have hKc := hK.sub (tys' := []) [] rfl
  have hFc := va_free (wc := [(q1, .inr (11, [.ref q2, .ref q5, .ref q14, .ref q15, .ref q16, .ref q17, .ref q51, .ref q63, .ref q29, .ref q40, .int (-1)])), (q29, .inr (2, [.int 0, .ref q30, .ref q31, .ref q32, .ref q33, .ref q34, .ref q35, .int 0, .ref q36, .ref q37, .ref q38, .int 0, .ref q39]))]) hD hS hA [0, 1] rfl
  refine va_calli (vx_runSW (As := [.ref q1, .int (xs 1), .ref q87]) (rest := []) ⟨hx, hb, hml, hown, hts⟩ (kL_blocks l dC dI (gx := q1) (gq1 := q2) (gq4 := q5) (gq13 := q14) (gq136 := q15) (gq137 := q16) (gq138 := q17) (gq150 := q29) (gq151 := q30) (gq152 := q31) (gq153 := q32) (gq154 := q33) (gq155 := q34) (gq156 := q35) (gq157 := q36) (gq158 := q37) (gq159 := q38) (gq160 := q39) (gq161 := q40) (gq172 := q51) (gq184 := q63) (go := q87) (p0 := (xs 1)) (sz := _) (hl9 := hl9)) (vx_cwSW 3 hts (gi_S qw714 qw715 qw658 (gi_h qw713)) rfl rfl rfl (by decide +kernel) ⟨Nat.le_of_ble_eq_true rfl, Nat.le_of_ble_eq_true rfl⟩) ⟨PRE.blind, PRE.of hE hS hFc hPc hKc hDc⟩ rfl rfl hl.1 rfl (lv_room (Nat.le_of_ble_eq_true rfl)) dL_law_524 ⟨Nat.le_of_ble_eq_true rfl, Nat.le_of_ble_eq_true rfl⟩) hS (fun q _ h => hFc q h) hFc (fun r90 u t H locs ht hvm hw hB hz1 hk1 hS => ?_)
  obtain ⟨hP, hD, hK⟩ := JOIN (wr := [(q64, .inr (15, [.ref q65, .int 0, .int (-1), .int 0, .ref q67, .ref q68, .ref q70, .ref q72, .ref q86])), (q68, .inl (c69, 0, .inr (.inr (.inr (.inr (fun _ => none))))))]) hP hD hK [0, 1] [2, 3] [0] rfl rfl (by decide) (by decide) rfl hk1 hFc ht hvm hB
  have hP : va_P (dC, dI) cls [(q64, .inr (15, [.ref q65, .int 0, .int (-1), .int 0, .ref q67, .ref q68, .ref q70, .ref q72, .ref q86])), (q68, .inl (c69, 0, .inr (.inr (.inr (.inr (fun _ => none))))))] H := hP
  have hD : va_D A [(q64, .inr (15, [.ref q65, .int 0, .int (-1), .int 0, .ref q67, .ref q68, .ref q70, .ref q72, .ref q86])), (q68, .inl (c69, 0, .inr (.inr (.inr (.inr (fun _ => none))))))] := hD
  have hK : va_K (dC, dI) cls [(c69, .object RX14)] s := hK
  refine W.widen (k := 370) (n := 122520) (Nat.le_of_ble_eq_true rfl) (Nat.le_of_ble_eq_true rfl) ?_
  obtain rfl : r90 = 1 := hw
  refine lv_istore (lv' := [(5, .int 1), (4, .int 0), (3, .ref q87), (2, .ref q64), (1, .ref q1), (0, .ref b)]) hx hb dL_law_527 hl (by decide) rfl (fun ls hl => ?_)
  refine lv_aload_n hx hb dL_law_529 rfl (lv_at hl 3 rfl) ?_
  refine lv_aload_n hx hb dL_law_530 rfl (lv_at hl 5 rfl) ?_
  refine lv_iload hx hb dL_law_531 (lv_at hl 1 rfl) ?_
  refine lv_iconst (v := 1) hx hb dL_law_533 (by decide) ?_
  refine lv_iadd hx hb dL_law_534 ?_
  refine lv_topC (y := 1) (by decide) ?_
  refine va_sld hx hb hX hbl hbA hS (by unfold vp_in; decide +kernel) dL_law_535 ?_
  refine lv_topC (y := xs 1) rfl ?_
  have hPc := hP.sub (ws' := [(q64, .inr (15, [.ref q65, .int 0, .int (-1), .int 0, .ref q67, .ref q68, .ref q70, .ref q72, .ref q86])), (q68, .inl (c69, 0, .inr (.inr (.inr (.inr (fun _ => none))))))]) [0, 1] rfl
  have hDc := hD.sub (ws' := [(q64, .inr (15, [.ref q65, .int 0, .int (-1), .int 0, .ref q67, .ref q68, .ref q70, .ref q72, .ref q86])), (q68, .inl (c69, 0, .inr (.inr (.inr (.inr (fun _ => none))))))]) [0, 1] (by decide) rfl
  have hKc := hK.sub (tys' := [(c69, .object RX14)]) [0] rfl
  have hFc := va_free (wc := [(q64, .inr (15, [.ref q65, .int 0, .int (-1), .int 0, .ref q67, .ref q68, .ref q70, .ref q72, .ref q86])), (q68, .inl (c69, 0, .inr (.inr (.inr (.inr (fun _ => none))))))]) hD hS hA [0, 1] rfl
  refine va_calli (va_runV (As := [.int (xs 1)]) (rest := []) ⟨hx, hb, hml, hown, hts⟩ (kX24_blocks l dC dI (mx := q64) (mq1 := q65) (mq3 := q67) (mq4 := q68) (mc5 := c69) (mq6 := q70) (mq8 := q72) (mq22 := q86) (p0 := (xs 1)) (sz := _)) (cwV 1 hts (gi_V qw717 qw718 qw719 qw434 (gi_z qw716)) rfl rfl rfl (by decide +kernel) ⟨Nat.le_of_ble_eq_true rfl, Nat.le_of_ble_eq_true rfl⟩) ⟨PRE.blind, va_recv hKc hPc (ci := 15) (q0 := 0) rfl rfl, PRE.of hE hS hFc hPc hKc hDc⟩ rfl rfl hl.1 rfl (lv_room (Nat.le_of_ble_eq_true rfl)) dL_law_536 ⟨Nat.le_of_ble_eq_true rfl, Nat.le_of_ble_eq_true rfl⟩) hS (fun q _ h => hFc q h) hFc (fun r91 u t H locs ht hvm hw hB hz1 hk1 hS => ?_)
  obtain ⟨hP, hD, hK⟩ := JOIN (wr := []) hP hD hK [0, 1] [] [] rfl rfl (by decide) (by decide) rfl hk1 hFc ht hvm hB
  have hP : va_P (dC, dI) cls [(q64, .inr (15, [.ref q65, .int 0, .int (-1), .int 1, .ref q67, .ref q68, .ref q70, .ref q72, .ref q86]))] H := hP
  have hD : va_D A [(q64, .inr (15, [.ref q65, .int 0, .int (-1), .int 1, .ref q67, .ref q68, .ref q70, .ref q72, .ref q86]))] := hD
  have hK : va_K (dC, dI) cls [] s := hK
  refine W.widen (k := 370) (n := 122520) (Nat.le_of_ble_eq_true rfl) (Nat.le_of_ble_eq_true rfl) ?_
  obtain rfl : r91 = 0 := hw
  refine lv_istore (lv' := [(6, .int 0), (5, .int 1), (4, .int 0), (3, .ref q87), (2, .ref q64), (1, .ref q1), (0, .ref b)]) hx hb dL_law_539 hl (by decide) rfl (fun ls hl => ?_)
  refine lv_aload_n hx hb dL_law_541 rfl (lv_at hl 4 rfl) ?_
  have hPc := hP.sub (ws' := [(q64, .inr (15, [.ref q65, .int 0, .int (-1), .int 1, .ref q67, .ref q68, .ref q70, .ref q72, .ref q86]))]) [0] rfl
  have hDc := hD.sub (ws' := [(q64, .inr (15, [.ref q65, .int 0, .int (-1), .int 1, .ref q67, .ref q68, .ref q70, .ref q72, .ref q86]))]) [0] (by decide) rfl
  have hKc := hK.sub (tys' := []) [] rfl
  have hFc := va_free (wc := [(q64, .inr (15, [.ref q65, .int 0, .int (-1), .int 1, .ref q67, .ref q68, .ref q70, .ref q72, .ref q86]))]) hD hS hA [0] rfl
  refine va_calli (va_runV (As := []) (rest := []) ⟨hx, hb, hml, hown, hts⟩ (kX24_thrown_n64 l dC dI (a0 := q64) (a60 := q65) (a62 := q68) (a64 := q70) (a66 := q72) (a82 := q67) (a83 := q86) (sz := _)) (cwV 0 hts (gi_V qw664 qw665 qw666 qw434 (gi_z qw663)) rfl rfl rfl (by decide +kernel) ⟨Nat.le_of_ble_eq_true rfl, Nat.le_of_ble_eq_true rfl⟩) ⟨PRE.blind, va_recv hKc hPc (ci := 15) (q0 := 0) rfl rfl, PRE.of hE hS hFc hPc hKc hDc⟩ rfl rfl hl.1 rfl (lv_room (Nat.le_of_ble_eq_true rfl)) dL_law_542 ⟨Nat.le_of_ble_eq_true rfl, Nat.le_of_ble_eq_true rfl⟩) hS (fun q _ h => hFc q h) hFc (fun r92 u t H locs ht hvm hw hB hz1 hk1 hS => ?_)
  obtain ⟨hP, hD, hK⟩ := JOIN (wr := []) hP hD hK [0] [] [] rfl rfl (by decide) (by decide) rfl hk1 hFc ht hvm hB
  have hP : va_P (dC, dI) cls [(q64, .inr (15, [.ref q65, .int 0, .int (-1), .int 1, .ref q67, .ref q68, .ref q70, .ref q72, .ref q86]))] H := hP
  have hD : va_D A [(q64, .inr (15, [.ref q65, .int 0, .int (-1), .int 1, .ref q67, .ref q68, .ref q70, .ref q72, .ref q86]))] := hD
  have hK : va_K (dC, dI) cls [] s := hK
  refine W.widen (k := 370) (n := 122520) (Nat.le_of_ble_eq_true rfl) (Nat.le_of_ble_eq_true rfl) ?_
  obtain rfl : r92 = 1 := hw
  refine lv_iload hx hb dL_law_545 (lv_at hl 1 rfl) ?_
  refine lv_icmp_eq (tgt := 552) hx hb dL_law_547 (by decide) (fun _ => ?_) (fun c => absurd (by decide) c)
  refine lv_iload hx hb dL_law_552 (lv_at hl 1 rfl) ?_
  refine lv_if_ne (tgt := 569) hx hb dL_law_554 (by decide) (fun _ => ?_) (fun c => absurd c (by decide))
  refine lv_goto (tgt := 2818) hx hb dL_law_569 (by decide) ?_
  refine lv_iinc (v := 7) (lv' := [(4, .int 7), (6, .int 0), (5, .int 1), (3, .ref q87), (2, .ref q64), (1, .ref q1), (0, .ref b)]) hx hb dL_law_2818 hl (k := 2) rfl (by decide) (by decide) rfl (fun ls hl => ?_)
  refine lv_goto (tgt := 23) hx hb dL_law_2821 (by decide) ?_
  refine lv_iload hx hb dL_law_23 (lv_at hl 0 rfl) ?_
  refine lv_aload_n hx hb dL_law_25 rfl (lv_at hl 6 rfl) ?_
  refine va_slen hx hb hX hbl hbA hS dL_law_26 ?_
  refine lv_topC (y := 7) rfl ?_
  refine lv_bipush (v := 7) hx hb dL_law_27 (by decide) ?_
  refine lv_isub hx hb dL_law_29 ?_
  refine lv_topC (y := 0) (by decide) ?_
  refine lv_icmp_gt (tgt := 2824) hx hb dL_law_30 (by decide) (fun _ => ?_) (fun c => absurd (by decide) c)
  refine lv_iconst (v := 1) hx hb dL_law_2824 (by decide) ?_
  refine va_forget (fun q hq => hA2 _ (hS.2.2 q hq)) ?_
  refine W.widen (k := 600002) (n := 7302232) (Nat.le_of_ble_eq_true rfl) (Nat.le_of_ble_eq_true rfl) ?_
  exact lw_ret (d0 := s.drawn) (Drawn.sameBut.refl s.drawn lw_cs) hx hb hr hlocks dL_law_2825
set_option maxHeartbeats 4000000 in
set_option maxRecDepth 100000 in
theorem law_8 {zs : Nat × Nat} {p : Program} {e : Env} {s : State} {m : MethodId} {below : List Frame} {meth : Method} {c : Code} {l : Launch} {b : Nat} {xs : Nat → Int32} {dC : Nat → ClassId} {dI : Nat → Nat → Nat} {A : Nat → Prop} (C0 : lw_At p s m meth c b 7 xs) (hl9 : l.stackTraces = false) (hA : ∀ q, s.heap.size ≤ q → A q) (hA2 : ∀ q, A q → s.heap.size ≤ q) (hE : ENV zs A s s.heap) {H : Heap} {locs : List Loc} (q1 : Nat) (q2 : Nat) (q5 : Nat) (q14 : Nat) (q15 : Nat) (q16 : Nat) (q17 : Nat) (q29 : Nat) (q30 : Nat) (q31 : Nat) (q32 : Nat) (q33 : Nat) (q34 : Nat) (q35 : Nat) (q36 : Nat) (q37 : Nat) (q38 : Nat) (q39 : Nat) (q40 : Nat) (q51 : Nat) (q63 : Nat) (q64 : Nat) (q65 : Nat) (q67 : Nat) (q68 : Nat) (c69 : ClassId) (q70 : Nat) (q72 : Nat) (q86 : Nat) (q87 : Nat) (hP : va_P (dC, dI) cls [(q1, .inr (11, [.ref q2, .ref q5, .ref q14, .ref q15, .ref q16, .ref q17, .ref q51, .ref q63, .ref q29, .ref q40, .int (-1)])), (q29, .inr (2, [.int 0, .ref q30, .ref q31, .ref q32, .ref q33, .ref q34, .ref q35, .int 0, .ref q36, .ref q37, .ref q38, .int 0, .ref q39])), (q64, .inr (15, [.ref q65, .int 0, .int (-1), .int 0, .ref q67, .ref q68, .ref q70, .ref q72, .ref q86])), (q68, .inl (c69, 0, .inr (.inr (.inr (.inr (fun _ => none))))))] H) (hD : va_D A [(q1, .inr (11, [.ref q2, .ref q5, .ref q14, .ref q15, .ref q16, .ref q17, .ref q51, .ref q63, .ref q29, .ref q40, .int (-1)])), (q29, .inr (2, [.int 0, .ref q30, .ref q31, .ref q32, .ref q33, .ref q34, .ref q35, .int 0, .ref q36, .ref q37, .ref q38, .int 0, .ref q39])), (q64, .inr (15, [.ref q65, .int 0, .int (-1), .int 0, .ref q67, .ref q68, .ref q70, .ref q72, .ref q86])), (q68, .inl (c69, 0, .inr (.inr (.inr (.inr (fun _ => none))))))]) (hK : va_K (dC, dI) cls [(c69, .object RX14)] s) (hS : va_S A s.heap H locs) {ls : Array Slot} (hl : lv_has ls 9 [(4, .int 0), (3, .ref q87), (2, .ref q64), (1, .ref q1), (0, .ref b)])  : W p l e room_1 s m #[Value.ref b] below meth c H locs 369 122514 (lw_Z below #[Value.ref b] s) (F0 m 572 ls []) := by
  obtain ⟨hx, hb, hr, hml, hown, hts0, hX, hbl, hlocks, hgv⟩ := id C0
  have hts : ∀ w ∈ gw, w.before #[Value.ref b] s = true := fun w h => hts0 w (gw_tbl h)
  have hbA : ¬ A b := fun h => absurd (hA2 b h) (Nat.not_le.mpr hbl)
  refine lv_aload_n hx hb dL_law_572 rfl (lv_at hl 3 rfl) ?_
  refine lv_aload_n hx hb dL_law_573 rfl (lv_at hl 4 rfl) ?_
  refine lv_iload hx hb dL_law_574 (lv_at hl 0 rfl) ?_
  refine lv_iconst (v := 1) hx hb dL_law_576 (by decide) ?_
  refine lv_iadd hx hb dL_law_577 ?_
  refine lv_topC (y := 1) (by decide) ?_
  refine va_sld hx hb hX hbl hbA hS (by unfold vp_in; decide +kernel) dL_law_578 ?_
  refine lv_topC (y := xs 1) rfl ?_
  refine lv_aload_n hx hb dL_law_579 rfl (lv_at hl 1 rfl) ?_
  have hPc := hP.sub (ws' := [(q1, .inr (11, [.ref q2, .ref q5, .ref q14, .ref q15, .ref q16, .ref q17, .ref q51, .ref q63, .ref q29, .ref q40, .int (-1)])), (q29, .inr (2, [.int 0, .ref q30, .ref q31, .ref q32, .ref q33, .ref q34, .ref q35, .int 0, .ref q36, .ref q37, .ref q38, .int 0, .ref q39]))]) [0, 1] rfl
  have hDc := hD.sub (ws' := [(q1, .inr (11, [.ref q2, .ref q5, .ref q14, .ref q15, .ref q16, .ref q17, .ref q51, .ref q63, .ref q29, .ref q40, .int (-1)])), (q29, .inr (2, [.int 0, .ref q30, .ref q31, .ref q32, .ref q33, .ref q34, .ref q35, .int 0, .ref q36, .ref q37, .ref q38, .int 0, .ref q39]))]) [0, 1] (by decide) rfl
  have hKc := hK.sub (tys' := []) [] rfl
  have hFc := va_free (wc := [(q1, .inr (11, [.ref q2, .ref q5, .ref q14, .ref q15, .ref q16, .ref q17, .ref q51, .ref q63, .ref q29, .ref q40, .int (-1)])), (q29, .inr (2, [.int 0, .ref q30, .ref q31, .ref q32, .ref q33, .ref q34, .ref q35, .int 0, .ref q36, .ref q37, .ref q38, .int 0, .ref q39]))]) hD hS hA [0, 1] rfl
  refine va_calli (vx_runSW (As := [.ref q1, .int (xs 1), .ref q87]) (rest := []) ⟨hx, hb, hml, hown, hts⟩ (kL_values l dC dI (gx := q1) (gq1 := q2) (gq4 := q5) (gq13 := q14) (gq136 := q15) (gq137 := q16) (gq138 := q17) (gq150 := q29) (gq151 := q30) (gq152 := q31) (gq153 := q32) (gq154 := q33) (gq155 := q34) (gq156 := q35) (gq157 := q36) (gq158 := q37) (gq159 := q38) (gq160 := q39) (gq161 := q40) (gq172 := q51) (gq184 := q63) (go := q87) (p0 := (xs 1)) (sz := _) (hl9 := hl9)) (vx_cwSW 3 hts (gi_S qw721 qw722 qw658 (gi_h qw720)) rfl rfl rfl (by decide +kernel) ⟨Nat.le_of_ble_eq_true rfl, Nat.le_of_ble_eq_true rfl⟩) ⟨PRE.blind, PRE.of hE hS hFc hPc hKc hDc⟩ rfl rfl hl.1 rfl (lv_room (Nat.le_of_ble_eq_true rfl)) dL_law_580 ⟨Nat.le_of_ble_eq_true rfl, Nat.le_of_ble_eq_true rfl⟩) hS (fun q _ h => hFc q h) hFc (fun r90 u t H locs ht hvm hw hB hz1 hk1 hS => ?_)
  obtain ⟨hP, hD, hK⟩ := JOIN (wr := [(q64, .inr (15, [.ref q65, .int 0, .int (-1), .int 0, .ref q67, .ref q68, .ref q70, .ref q72, .ref q86])), (q68, .inl (c69, 0, .inr (.inr (.inr (.inr (fun _ => none))))))]) hP hD hK [0, 1] [2, 3] [0] rfl rfl (by decide) (by decide) rfl hk1 hFc ht hvm hB
  have hP : va_P (dC, dI) cls [(q64, .inr (15, [.ref q65, .int 0, .int (-1), .int 0, .ref q67, .ref q68, .ref q70, .ref q72, .ref q86])), (q68, .inl (c69, 0, .inr (.inr (.inr (.inr (fun _ => none))))))] H := hP
  have hD : va_D A [(q64, .inr (15, [.ref q65, .int 0, .int (-1), .int 0, .ref q67, .ref q68, .ref q70, .ref q72, .ref q86])), (q68, .inl (c69, 0, .inr (.inr (.inr (.inr (fun _ => none))))))] := hD
  have hK : va_K (dC, dI) cls [(c69, .object RX14)] s := hK
  refine W.widen (k := 370) (n := 122520) (Nat.le_of_ble_eq_true rfl) (Nat.le_of_ble_eq_true rfl) ?_
  obtain rfl : r90 = 1 := hw
  refine lv_istore (lv' := [(5, .int 1), (4, .int 0), (3, .ref q87), (2, .ref q64), (1, .ref q1), (0, .ref b)]) hx hb dL_law_583 hl (by decide) rfl (fun ls hl => ?_)
  refine lv_aload_n hx hb dL_law_585 rfl (lv_at hl 3 rfl) ?_
  refine lv_aload_n hx hb dL_law_586 rfl (lv_at hl 5 rfl) ?_
  refine lv_iload hx hb dL_law_587 (lv_at hl 1 rfl) ?_
  refine lv_iconst (v := 1) hx hb dL_law_589 (by decide) ?_
  refine lv_iadd hx hb dL_law_590 ?_
  refine lv_topC (y := 1) (by decide) ?_
  refine va_sld hx hb hX hbl hbA hS (by unfold vp_in; decide +kernel) dL_law_591 ?_
  refine lv_topC (y := xs 1) rfl ?_
  have hPc := hP.sub (ws' := [(q64, .inr (15, [.ref q65, .int 0, .int (-1), .int 0, .ref q67, .ref q68, .ref q70, .ref q72, .ref q86])), (q68, .inl (c69, 0, .inr (.inr (.inr (.inr (fun _ => none))))))]) [0, 1] rfl
  have hDc := hD.sub (ws' := [(q64, .inr (15, [.ref q65, .int 0, .int (-1), .int 0, .ref q67, .ref q68, .ref q70, .ref q72, .ref q86])), (q68, .inl (c69, 0, .inr (.inr (.inr (.inr (fun _ => none))))))]) [0, 1] (by decide) rfl
  have hKc := hK.sub (tys' := [(c69, .object RX14)]) [0] rfl
  have hFc := va_free (wc := [(q64, .inr (15, [.ref q65, .int 0, .int (-1), .int 0, .ref q67, .ref q68, .ref q70, .ref q72, .ref q86])), (q68, .inl (c69, 0, .inr (.inr (.inr (.inr (fun _ => none))))))]) hD hS hA [0, 1] rfl
  refine va_calli (va_runV (As := [.int (xs 1)]) (rest := []) ⟨hx, hb, hml, hown, hts⟩ (kX24_values l dC dI (mx := q64) (mq1 := q65) (mq3 := q67) (mq4 := q68) (mc5 := c69) (mq6 := q70) (mq8 := q72) (mq22 := q86) (p0 := (xs 1)) (sz := _)) (cwV 1 hts (gi_V qw724 qw725 qw726 qw434 (gi_z qw723)) rfl rfl rfl (by decide +kernel) ⟨Nat.le_of_ble_eq_true rfl, Nat.le_of_ble_eq_true rfl⟩) ⟨PRE.blind, va_recv hKc hPc (ci := 15) (q0 := 0) rfl rfl, PRE.of hE hS hFc hPc hKc hDc⟩ rfl rfl hl.1 rfl (lv_room (Nat.le_of_ble_eq_true rfl)) dL_law_592 ⟨Nat.le_of_ble_eq_true rfl, Nat.le_of_ble_eq_true rfl⟩) hS (fun q _ h => hFc q h) hFc (fun r91 u t H locs ht hvm hw hB hz1 hk1 hS => ?_)
  obtain ⟨hP, hD, hK⟩ := JOIN (wr := []) hP hD hK [0, 1] [] [] rfl rfl (by decide) (by decide) rfl hk1 hFc ht hvm hB
  have hP : va_P (dC, dI) cls [(q64, .inr (15, [.ref q65, .int 0, .int (-1), .int 1, .ref q67, .ref q68, .ref q70, .ref q72, .ref q86]))] H := hP
  have hD : va_D A [(q64, .inr (15, [.ref q65, .int 0, .int (-1), .int 1, .ref q67, .ref q68, .ref q70, .ref q72, .ref q86]))] := hD
  have hK : va_K (dC, dI) cls [] s := hK
  refine W.widen (k := 370) (n := 122520) (Nat.le_of_ble_eq_true rfl) (Nat.le_of_ble_eq_true rfl) ?_
  obtain rfl : r91 = 0 := hw
  refine lv_istore (lv' := [(6, .int 0), (5, .int 1), (4, .int 0), (3, .ref q87), (2, .ref q64), (1, .ref q1), (0, .ref b)]) hx hb dL_law_595 hl (by decide) rfl (fun ls hl => ?_)
  refine lv_aload_n hx hb dL_law_597 rfl (lv_at hl 4 rfl) ?_
  have hPc := hP.sub (ws' := [(q64, .inr (15, [.ref q65, .int 0, .int (-1), .int 1, .ref q67, .ref q68, .ref q70, .ref q72, .ref q86]))]) [0] rfl
  have hDc := hD.sub (ws' := [(q64, .inr (15, [.ref q65, .int 0, .int (-1), .int 1, .ref q67, .ref q68, .ref q70, .ref q72, .ref q86]))]) [0] (by decide) rfl
  have hKc := hK.sub (tys' := []) [] rfl
  have hFc := va_free (wc := [(q64, .inr (15, [.ref q65, .int 0, .int (-1), .int 1, .ref q67, .ref q68, .ref q70, .ref q72, .ref q86]))]) hD hS hA [0] rfl
  refine va_calli (va_runV (As := []) (rest := []) ⟨hx, hb, hml, hown, hts⟩ (kX24_thrown_n64 l dC dI (a0 := q64) (a60 := q65) (a62 := q68) (a64 := q70) (a66 := q72) (a82 := q67) (a83 := q86) (sz := _)) (cwV 0 hts (gi_V qw664 qw665 qw666 qw434 (gi_z qw663)) rfl rfl rfl (by decide +kernel) ⟨Nat.le_of_ble_eq_true rfl, Nat.le_of_ble_eq_true rfl⟩) ⟨PRE.blind, va_recv hKc hPc (ci := 15) (q0 := 0) rfl rfl, PRE.of hE hS hFc hPc hKc hDc⟩ rfl rfl hl.1 rfl (lv_room (Nat.le_of_ble_eq_true rfl)) dL_law_598 ⟨Nat.le_of_ble_eq_true rfl, Nat.le_of_ble_eq_true rfl⟩) hS (fun q _ h => hFc q h) hFc (fun r92 u t H locs ht hvm hw hB hz1 hk1 hS => ?_)
  obtain ⟨hP, hD, hK⟩ := JOIN (wr := []) hP hD hK [0] [] [] rfl rfl (by decide) (by decide) rfl hk1 hFc ht hvm hB
  have hP : va_P (dC, dI) cls [(q64, .inr (15, [.ref q65, .int 0, .int (-1), .int 1, .ref q67, .ref q68, .ref q70, .ref q72, .ref q86]))] H := hP
  have hD : va_D A [(q64, .inr (15, [.ref q65, .int 0, .int (-1), .int 1, .ref q67, .ref q68, .ref q70, .ref q72, .ref q86]))] := hD
  have hK : va_K (dC, dI) cls [] s := hK
  refine W.widen (k := 370) (n := 122520) (Nat.le_of_ble_eq_true rfl) (Nat.le_of_ble_eq_true rfl) ?_
  obtain rfl : r92 = 1 := hw
  refine lv_iload hx hb dL_law_601 (lv_at hl 1 rfl) ?_
  refine lv_icmp_eq (tgt := 608) hx hb dL_law_603 (by decide) (fun _ => ?_) (fun c => absurd (by decide) c)
  refine lv_iload hx hb dL_law_608 (lv_at hl 1 rfl) ?_
  refine lv_if_ne (tgt := 625) hx hb dL_law_610 (by decide) (fun _ => ?_) (fun c => absurd c (by decide))
  refine lv_goto (tgt := 2818) hx hb dL_law_625 (by decide) ?_
  refine lv_iinc (v := 7) (lv' := [(4, .int 7), (6, .int 0), (5, .int 1), (3, .ref q87), (2, .ref q64), (1, .ref q1), (0, .ref b)]) hx hb dL_law_2818 hl (k := 2) rfl (by decide) (by decide) rfl (fun ls hl => ?_)
  refine lv_goto (tgt := 23) hx hb dL_law_2821 (by decide) ?_
  refine lv_iload hx hb dL_law_23 (lv_at hl 0 rfl) ?_
  refine lv_aload_n hx hb dL_law_25 rfl (lv_at hl 6 rfl) ?_
  refine va_slen hx hb hX hbl hbA hS dL_law_26 ?_
  refine lv_topC (y := 7) rfl ?_
  refine lv_bipush (v := 7) hx hb dL_law_27 (by decide) ?_
  refine lv_isub hx hb dL_law_29 ?_
  refine lv_topC (y := 0) (by decide) ?_
  refine lv_icmp_gt (tgt := 2824) hx hb dL_law_30 (by decide) (fun _ => ?_) (fun c => absurd (by decide) c)
  refine lv_iconst (v := 1) hx hb dL_law_2824 (by decide) ?_
  refine va_forget (fun q hq => hA2 _ (hS.2.2 q hq)) ?_
  refine W.widen (k := 600002) (n := 7302232) (Nat.le_of_ble_eq_true rfl) (Nat.le_of_ble_eq_true rfl) ?_
  exact lw_ret (d0 := s.drawn) (Drawn.sameBut.refl s.drawn lw_cs) hx hb hr hlocks dL_law_2825
set_option maxHeartbeats 4000000 in
set_option maxRecDepth 100000 in
theorem law_9 {zs : Nat × Nat} {p : Program} {e : Env} {s : State} {m : MethodId} {below : List Frame} {meth : Method} {c : Code} {l : Launch} {b : Nat} {xs : Nat → Int32} {dC : Nat → ClassId} {dI : Nat → Nat → Nat} {A : Nat → Prop} (C0 : lw_At p s m meth c b 7 xs) (hl9 : l.stackTraces = false) (hA : ∀ q, s.heap.size ≤ q → A q) (hA2 : ∀ q, A q → s.heap.size ≤ q) (hE : ENV zs A s s.heap) {H : Heap} {locs : List Loc} (q1 : Nat) (q2 : Nat) (q5 : Nat) (q14 : Nat) (q15 : Nat) (q16 : Nat) (q17 : Nat) (q29 : Nat) (q30 : Nat) (q31 : Nat) (q32 : Nat) (q33 : Nat) (q34 : Nat) (q35 : Nat) (q36 : Nat) (q37 : Nat) (q38 : Nat) (q39 : Nat) (q40 : Nat) (q51 : Nat) (q63 : Nat) (q64 : Nat) (q65 : Nat) (q67 : Nat) (q68 : Nat) (c69 : ClassId) (q70 : Nat) (q72 : Nat) (q86 : Nat) (q87 : Nat) (hP : va_P (dC, dI) cls [(q1, .inr (11, [.ref q2, .ref q5, .ref q14, .ref q15, .ref q16, .ref q17, .ref q51, .ref q63, .ref q29, .ref q40, .int (-1)])), (q29, .inr (2, [.int 0, .ref q30, .ref q31, .ref q32, .ref q33, .ref q34, .ref q35, .int 0, .ref q36, .ref q37, .ref q38, .int 0, .ref q39])), (q64, .inr (15, [.ref q65, .int 0, .int (-1), .int 0, .ref q67, .ref q68, .ref q70, .ref q72, .ref q86])), (q68, .inl (c69, 0, .inr (.inr (.inr (.inr (fun _ => none))))))] H) (hD : va_D A [(q1, .inr (11, [.ref q2, .ref q5, .ref q14, .ref q15, .ref q16, .ref q17, .ref q51, .ref q63, .ref q29, .ref q40, .int (-1)])), (q29, .inr (2, [.int 0, .ref q30, .ref q31, .ref q32, .ref q33, .ref q34, .ref q35, .int 0, .ref q36, .ref q37, .ref q38, .int 0, .ref q39])), (q64, .inr (15, [.ref q65, .int 0, .int (-1), .int 0, .ref q67, .ref q68, .ref q70, .ref q72, .ref q86])), (q68, .inl (c69, 0, .inr (.inr (.inr (.inr (fun _ => none))))))]) (hK : va_K (dC, dI) cls [(c69, .object RX14)] s) (hS : va_S A s.heap H locs) {ls : Array Slot} (hl : lv_has ls 9 [(4, .int 0), (3, .ref q87), (2, .ref q64), (1, .ref q1), (0, .ref b)])  : W p l e room_1 s m #[Value.ref b] below meth c H locs 369 122514 (lw_Z below #[Value.ref b] s) (F0 m 628 ls []) := by
  obtain ⟨hx, hb, hr, hml, hown, hts0, hX, hbl, hlocks, hgv⟩ := id C0
  have hts : ∀ w ∈ gw, w.before #[Value.ref b] s = true := fun w h => hts0 w (gw_tbl h)
  have hbA : ¬ A b := fun h => absurd (hA2 b h) (Nat.not_le.mpr hbl)
  refine lv_aload_n hx hb dL_law_628 rfl (lv_at hl 3 rfl) ?_
  refine lv_aload_n hx hb dL_law_629 rfl (lv_at hl 4 rfl) ?_
  refine lv_iload hx hb dL_law_630 (lv_at hl 0 rfl) ?_
  refine lv_iconst (v := 1) hx hb dL_law_632 (by decide) ?_
  refine lv_iadd hx hb dL_law_633 ?_
  refine lv_topC (y := 1) (by decide) ?_
  refine va_sld hx hb hX hbl hbA hS (by unfold vp_in; decide +kernel) dL_law_634 ?_
  refine lv_topC (y := xs 1) rfl ?_
  refine lv_aload_n hx hb dL_law_635 rfl (lv_at hl 4 rfl) ?_
  refine lv_iload hx hb dL_law_636 (lv_at hl 0 rfl) ?_
  refine lv_iconst (v := 2) hx hb dL_law_638 (by decide) ?_
  refine lv_iadd hx hb dL_law_639 ?_
  refine lv_topC (y := 2) (by decide) ?_
  refine va_sld hx hb hX hbl hbA hS (by unfold vp_in; decide +kernel) dL_law_640 ?_
  refine lv_topC (y := xs 2) rfl ?_
  refine lv_aload_n hx hb dL_law_641 rfl (lv_at hl 1 rfl) ?_
  have hPc := hP.sub (ws' := [(q1, .inr (11, [.ref q2, .ref q5, .ref q14, .ref q15, .ref q16, .ref q17, .ref q51, .ref q63, .ref q29, .ref q40, .int (-1)])), (q29, .inr (2, [.int 0, .ref q30, .ref q31, .ref q32, .ref q33, .ref q34, .ref q35, .int 0, .ref q36, .ref q37, .ref q38, .int 0, .ref q39]))]) [0, 1] rfl
  have hDc := hD.sub (ws' := [(q1, .inr (11, [.ref q2, .ref q5, .ref q14, .ref q15, .ref q16, .ref q17, .ref q51, .ref q63, .ref q29, .ref q40, .int (-1)])), (q29, .inr (2, [.int 0, .ref q30, .ref q31, .ref q32, .ref q33, .ref q34, .ref q35, .int 0, .ref q36, .ref q37, .ref q38, .int 0, .ref q39]))]) [0, 1] (by decide) rfl
  have hKc := hK.sub (tys' := []) [] rfl
  have hFc := va_free (wc := [(q1, .inr (11, [.ref q2, .ref q5, .ref q14, .ref q15, .ref q16, .ref q17, .ref q51, .ref q63, .ref q29, .ref q40, .int (-1)])), (q29, .inr (2, [.int 0, .ref q30, .ref q31, .ref q32, .ref q33, .ref q34, .ref q35, .int 0, .ref q36, .ref q37, .ref q38, .int 0, .ref q39]))]) hD hS hA [0, 1] rfl
  refine va_calli (vx_runSW (As := [.ref q1, .int (xs 1), .int (xs 2), .ref q87]) (rest := []) ⟨hx, hb, hml, hown, hts⟩ (kL_blockOf l dC dI (gx := q1) (gq1 := q2) (gq4 := q5) (gq13 := q14) (gq136 := q15) (gq137 := q16) (gq138 := q17) (gq150 := q29) (gq151 := q30) (gq152 := q31) (gq153 := q32) (gq154 := q33) (gq155 := q34) (gq156 := q35) (gq157 := q36) (gq158 := q37) (gq159 := q38) (gq160 := q39) (gq161 := q40) (gq172 := q51) (gq184 := q63) (go := q87) (p0 := (xs 1)) (p1 := (xs 2)) (sz := _) (hl9 := hl9)) (vx_cwSW 4 hts (gi_S qw728 qw729 qw658 (gi_h qw727)) rfl rfl rfl (by decide +kernel) ⟨Nat.le_of_ble_eq_true rfl, Nat.le_of_ble_eq_true rfl⟩) ⟨PRE.blind, PRE.of hE hS hFc hPc hKc hDc⟩ rfl rfl hl.1 rfl (lv_room (Nat.le_of_ble_eq_true rfl)) dL_law_642 ⟨Nat.le_of_ble_eq_true rfl, Nat.le_of_ble_eq_true rfl⟩) hS (fun q _ h => hFc q h) hFc (fun r90 u t H locs ht hvm hw hB hz1 hk1 hS => ?_)
  obtain ⟨hP, hD, hK⟩ := JOIN (wr := [(q64, .inr (15, [.ref q65, .int 0, .int (-1), .int 0, .ref q67, .ref q68, .ref q70, .ref q72, .ref q86])), (q68, .inl (c69, 0, .inr (.inr (.inr (.inr (fun _ => none))))))]) hP hD hK [0, 1] [2, 3] [0] rfl rfl (by decide) (by decide) rfl hk1 hFc ht hvm hB
  have hP : va_P (dC, dI) cls [(q64, .inr (15, [.ref q65, .int 0, .int (-1), .int 0, .ref q67, .ref q68, .ref q70, .ref q72, .ref q86])), (q68, .inl (c69, 0, .inr (.inr (.inr (.inr (fun _ => none))))))] H := hP
  have hD : va_D A [(q64, .inr (15, [.ref q65, .int 0, .int (-1), .int 0, .ref q67, .ref q68, .ref q70, .ref q72, .ref q86])), (q68, .inl (c69, 0, .inr (.inr (.inr (.inr (fun _ => none))))))] := hD
  have hK : va_K (dC, dI) cls [(c69, .object RX14)] s := hK
  refine W.widen (k := 370) (n := 122520) (Nat.le_of_ble_eq_true rfl) (Nat.le_of_ble_eq_true rfl) ?_
  obtain rfl : r90 = 1 := hw
  refine lv_istore (lv' := [(5, .int 1), (4, .int 0), (3, .ref q87), (2, .ref q64), (1, .ref q1), (0, .ref b)]) hx hb dL_law_645 hl (by decide) rfl (fun ls hl => ?_)
  refine lv_aload_n hx hb dL_law_647 rfl (lv_at hl 3 rfl) ?_
  refine lv_aload_n hx hb dL_law_648 rfl (lv_at hl 5 rfl) ?_
  refine lv_iload hx hb dL_law_649 (lv_at hl 1 rfl) ?_
  refine lv_iconst (v := 1) hx hb dL_law_651 (by decide) ?_
  refine lv_iadd hx hb dL_law_652 ?_
  refine lv_topC (y := 1) (by decide) ?_
  refine va_sld hx hb hX hbl hbA hS (by unfold vp_in; decide +kernel) dL_law_653 ?_
  refine lv_topC (y := xs 1) rfl ?_
  refine lv_aload_n hx hb dL_law_654 rfl (lv_at hl 5 rfl) ?_
  refine lv_iload hx hb dL_law_655 (lv_at hl 1 rfl) ?_
  refine lv_iconst (v := 2) hx hb dL_law_657 (by decide) ?_
  refine lv_iadd hx hb dL_law_658 ?_
  refine lv_topC (y := 2) (by decide) ?_
  refine va_sld hx hb hX hbl hbA hS (by unfold vp_in; decide +kernel) dL_law_659 ?_
  refine lv_topC (y := xs 2) rfl ?_
  have hPc := hP.sub (ws' := [(q64, .inr (15, [.ref q65, .int 0, .int (-1), .int 0, .ref q67, .ref q68, .ref q70, .ref q72, .ref q86])), (q68, .inl (c69, 0, .inr (.inr (.inr (.inr (fun _ => none))))))]) [0, 1] rfl
  have hDc := hD.sub (ws' := [(q64, .inr (15, [.ref q65, .int 0, .int (-1), .int 0, .ref q67, .ref q68, .ref q70, .ref q72, .ref q86])), (q68, .inl (c69, 0, .inr (.inr (.inr (.inr (fun _ => none))))))]) [0, 1] (by decide) rfl
  have hKc := hK.sub (tys' := [(c69, .object RX14)]) [0] rfl
  have hFc := va_free (wc := [(q64, .inr (15, [.ref q65, .int 0, .int (-1), .int 0, .ref q67, .ref q68, .ref q70, .ref q72, .ref q86])), (q68, .inl (c69, 0, .inr (.inr (.inr (.inr (fun _ => none))))))]) hD hS hA [0, 1] rfl
  refine va_calli (va_runV (As := [.int (xs 1), .int (xs 2)]) (rest := []) ⟨hx, hb, hml, hown, hts⟩ (kX24_blockOf l dC dI (mx := q64) (mq1 := q65) (mq3 := q67) (mq4 := q68) (mc5 := c69) (mq6 := q70) (mq8 := q72) (mq22 := q86) (p0 := (xs 1)) (p1 := (xs 2)) (sz := _)) (cwV 2 hts (gi_V qw731 qw732 qw733 qw434 (gi_z qw730)) rfl rfl rfl (by decide +kernel) ⟨Nat.le_of_ble_eq_true rfl, Nat.le_of_ble_eq_true rfl⟩) ⟨PRE.blind, va_recv hKc hPc (ci := 15) (q0 := 0) rfl rfl, PRE.of hE hS hFc hPc hKc hDc⟩ rfl rfl hl.1 rfl (lv_room (Nat.le_of_ble_eq_true rfl)) dL_law_660 ⟨Nat.le_of_ble_eq_true rfl, Nat.le_of_ble_eq_true rfl⟩) hS (fun q _ h => hFc q h) hFc (fun r91 u t H locs ht hvm hw hB hz1 hk1 hS => ?_)
  obtain ⟨hP, hD, hK⟩ := JOIN (wr := []) hP hD hK [0, 1] [] [] rfl rfl (by decide) (by decide) rfl hk1 hFc ht hvm hB
  have hP : va_P (dC, dI) cls [(q64, .inr (15, [.ref q65, .int 0, .int (-1), .int 1, .ref q67, .ref q68, .ref q70, .ref q72, .ref q86]))] H := hP
  have hD : va_D A [(q64, .inr (15, [.ref q65, .int 0, .int (-1), .int 1, .ref q67, .ref q68, .ref q70, .ref q72, .ref q86]))] := hD
  have hK : va_K (dC, dI) cls [] s := hK
  refine W.widen (k := 370) (n := 122520) (Nat.le_of_ble_eq_true rfl) (Nat.le_of_ble_eq_true rfl) ?_
  obtain rfl : r91 = 0 := hw
  refine lv_istore (lv' := [(6, .int 0), (5, .int 1), (4, .int 0), (3, .ref q87), (2, .ref q64), (1, .ref q1), (0, .ref b)]) hx hb dL_law_663 hl (by decide) rfl (fun ls hl => ?_)
  refine lv_aload_n hx hb dL_law_665 rfl (lv_at hl 4 rfl) ?_
  have hPc := hP.sub (ws' := [(q64, .inr (15, [.ref q65, .int 0, .int (-1), .int 1, .ref q67, .ref q68, .ref q70, .ref q72, .ref q86]))]) [0] rfl
  have hDc := hD.sub (ws' := [(q64, .inr (15, [.ref q65, .int 0, .int (-1), .int 1, .ref q67, .ref q68, .ref q70, .ref q72, .ref q86]))]) [0] (by decide) rfl
  have hKc := hK.sub (tys' := []) [] rfl
  have hFc := va_free (wc := [(q64, .inr (15, [.ref q65, .int 0, .int (-1), .int 1, .ref q67, .ref q68, .ref q70, .ref q72, .ref q86]))]) hD hS hA [0] rfl
  refine va_calli (va_runV (As := []) (rest := []) ⟨hx, hb, hml, hown, hts⟩ (kX24_thrown_n64 l dC dI (a0 := q64) (a60 := q65) (a62 := q68) (a64 := q70) (a66 := q72) (a82 := q67) (a83 := q86) (sz := _)) (cwV 0 hts (gi_V qw664 qw665 qw666 qw434 (gi_z qw663)) rfl rfl rfl (by decide +kernel) ⟨Nat.le_of_ble_eq_true rfl, Nat.le_of_ble_eq_true rfl⟩) ⟨PRE.blind, va_recv hKc hPc (ci := 15) (q0 := 0) rfl rfl, PRE.of hE hS hFc hPc hKc hDc⟩ rfl rfl hl.1 rfl (lv_room (Nat.le_of_ble_eq_true rfl)) dL_law_666 ⟨Nat.le_of_ble_eq_true rfl, Nat.le_of_ble_eq_true rfl⟩) hS (fun q _ h => hFc q h) hFc (fun r92 u t H locs ht hvm hw hB hz1 hk1 hS => ?_)
  obtain ⟨hP, hD, hK⟩ := JOIN (wr := []) hP hD hK [0] [] [] rfl rfl (by decide) (by decide) rfl hk1 hFc ht hvm hB
  have hP : va_P (dC, dI) cls [(q64, .inr (15, [.ref q65, .int 0, .int (-1), .int 1, .ref q67, .ref q68, .ref q70, .ref q72, .ref q86]))] H := hP
  have hD : va_D A [(q64, .inr (15, [.ref q65, .int 0, .int (-1), .int 1, .ref q67, .ref q68, .ref q70, .ref q72, .ref q86]))] := hD
  have hK : va_K (dC, dI) cls [] s := hK
  refine W.widen (k := 370) (n := 122520) (Nat.le_of_ble_eq_true rfl) (Nat.le_of_ble_eq_true rfl) ?_
  obtain rfl : r92 = 1 := hw
  refine lv_iload hx hb dL_law_669 (lv_at hl 1 rfl) ?_
  refine lv_icmp_eq (tgt := 676) hx hb dL_law_671 (by decide) (fun _ => ?_) (fun c => absurd (by decide) c)
  refine lv_iload hx hb dL_law_676 (lv_at hl 1 rfl) ?_
  refine lv_if_ne (tgt := 693) hx hb dL_law_678 (by decide) (fun _ => ?_) (fun c => absurd c (by decide))
  refine lv_goto (tgt := 2818) hx hb dL_law_693 (by decide) ?_
  refine lv_iinc (v := 7) (lv' := [(4, .int 7), (6, .int 0), (5, .int 1), (3, .ref q87), (2, .ref q64), (1, .ref q1), (0, .ref b)]) hx hb dL_law_2818 hl (k := 2) rfl (by decide) (by decide) rfl (fun ls hl => ?_)
  refine lv_goto (tgt := 23) hx hb dL_law_2821 (by decide) ?_
  refine lv_iload hx hb dL_law_23 (lv_at hl 0 rfl) ?_
  refine lv_aload_n hx hb dL_law_25 rfl (lv_at hl 6 rfl) ?_
  refine va_slen hx hb hX hbl hbA hS dL_law_26 ?_
  refine lv_topC (y := 7) rfl ?_
  refine lv_bipush (v := 7) hx hb dL_law_27 (by decide) ?_
  refine lv_isub hx hb dL_law_29 ?_
  refine lv_topC (y := 0) (by decide) ?_
  refine lv_icmp_gt (tgt := 2824) hx hb dL_law_30 (by decide) (fun _ => ?_) (fun c => absurd (by decide) c)
  refine lv_iconst (v := 1) hx hb dL_law_2824 (by decide) ?_
  refine va_forget (fun q hq => hA2 _ (hS.2.2 q hq)) ?_
  refine W.widen (k := 600002) (n := 7302232) (Nat.le_of_ble_eq_true rfl) (Nat.le_of_ble_eq_true rfl) ?_
  exact lw_ret (d0 := s.drawn) (Drawn.sameBut.refl s.drawn lw_cs) hx hb hr hlocks dL_law_2825
set_option maxHeartbeats 4000000 in
set_option maxRecDepth 100000 in
theorem law_10 {zs : Nat × Nat} {p : Program} {e : Env} {s : State} {m : MethodId} {below : List Frame} {meth : Method} {c : Code} {l : Launch} {b : Nat} {xs : Nat → Int32} {dC : Nat → ClassId} {dI : Nat → Nat → Nat} {A : Nat → Prop} (C0 : lw_At p s m meth c b 7 xs) (hl9 : l.stackTraces = false) (hA : ∀ q, s.heap.size ≤ q → A q) (hA2 : ∀ q, A q → s.heap.size ≤ q) (hE : ENV zs A s s.heap) {H : Heap} {locs : List Loc} (q1 : Nat) (q2 : Nat) (q5 : Nat) (q14 : Nat) (q15 : Nat) (q16 : Nat) (q17 : Nat) (q29 : Nat) (q30 : Nat) (q31 : Nat) (q32 : Nat) (q33 : Nat) (q34 : Nat) (q35 : Nat) (q36 : Nat) (q37 : Nat) (q38 : Nat) (q39 : Nat) (q40 : Nat) (q51 : Nat) (q63 : Nat) (q64 : Nat) (q65 : Nat) (q67 : Nat) (q68 : Nat) (c69 : ClassId) (q70 : Nat) (q72 : Nat) (q86 : Nat) (q87 : Nat) (hP : va_P (dC, dI) cls [(q1, .inr (11, [.ref q2, .ref q5, .ref q14, .ref q15, .ref q16, .ref q17, .ref q51, .ref q63, .ref q29, .ref q40, .int (-1)])), (q29, .inr (2, [.int 0, .ref q30, .ref q31, .ref q32, .ref q33, .ref q34, .ref q35, .int 0, .ref q36, .ref q37, .ref q38, .int 0, .ref q39])), (q64, .inr (15, [.ref q65, .int 0, .int (-1), .int 0, .ref q67, .ref q68, .ref q70, .ref q72, .ref q86])), (q68, .inl (c69, 0, .inr (.inr (.inr (.inr (fun _ => none))))))] H) (hD : va_D A [(q1, .inr (11, [.ref q2, .ref q5, .ref q14, .ref q15, .ref q16, .ref q17, .ref q51, .ref q63, .ref q29, .ref q40, .int (-1)])), (q29, .inr (2, [.int 0, .ref q30, .ref q31, .ref q32, .ref q33, .ref q34, .ref q35, .int 0, .ref q36, .ref q37, .ref q38, .int 0, .ref q39])), (q64, .inr (15, [.ref q65, .int 0, .int (-1), .int 0, .ref q67, .ref q68, .ref q70, .ref q72, .ref q86])), (q68, .inl (c69, 0, .inr (.inr (.inr (.inr (fun _ => none))))))]) (hK : va_K (dC, dI) cls [(c69, .object RX14)] s) (hS : va_S A s.heap H locs) {ls : Array Slot} (hl : lv_has ls 9 [(4, .int 0), (3, .ref q87), (2, .ref q64), (1, .ref q1), (0, .ref b)])  : W p l e room_1 s m #[Value.ref b] below meth c H locs 369 122514 (lw_Z below #[Value.ref b] s) (F0 m 696 ls []) := by
  obtain ⟨hx, hb, hr, hml, hown, hts0, hX, hbl, hlocks, hgv⟩ := id C0
  have hts : ∀ w ∈ gw, w.before #[Value.ref b] s = true := fun w h => hts0 w (gw_tbl h)
  have hbA : ¬ A b := fun h => absurd (hA2 b h) (Nat.not_le.mpr hbl)
  refine lv_aload_n hx hb dL_law_696 rfl (lv_at hl 3 rfl) ?_
  refine lv_aload_n hx hb dL_law_697 rfl (lv_at hl 4 rfl) ?_
  refine lv_iload hx hb dL_law_698 (lv_at hl 0 rfl) ?_
  refine lv_iconst (v := 1) hx hb dL_law_700 (by decide) ?_
  refine lv_iadd hx hb dL_law_701 ?_
  refine lv_topC (y := 1) (by decide) ?_
  refine va_sld hx hb hX hbl hbA hS (by unfold vp_in; decide +kernel) dL_law_702 ?_
  refine lv_topC (y := xs 1) rfl ?_
  refine lv_aload_n hx hb dL_law_703 rfl (lv_at hl 4 rfl) ?_
  refine lv_iload hx hb dL_law_704 (lv_at hl 0 rfl) ?_
  refine lv_iconst (v := 2) hx hb dL_law_706 (by decide) ?_
  refine lv_iadd hx hb dL_law_707 ?_
  refine lv_topC (y := 2) (by decide) ?_
  refine va_sld hx hb hX hbl hbA hS (by unfold vp_in; decide +kernel) dL_law_708 ?_
  refine lv_topC (y := xs 2) rfl ?_
  refine lv_aload_n hx hb dL_law_709 rfl (lv_at hl 1 rfl) ?_
  have hPc := hP.sub (ws' := [(q1, .inr (11, [.ref q2, .ref q5, .ref q14, .ref q15, .ref q16, .ref q17, .ref q51, .ref q63, .ref q29, .ref q40, .int (-1)])), (q29, .inr (2, [.int 0, .ref q30, .ref q31, .ref q32, .ref q33, .ref q34, .ref q35, .int 0, .ref q36, .ref q37, .ref q38, .int 0, .ref q39]))]) [0, 1] rfl
  have hDc := hD.sub (ws' := [(q1, .inr (11, [.ref q2, .ref q5, .ref q14, .ref q15, .ref q16, .ref q17, .ref q51, .ref q63, .ref q29, .ref q40, .int (-1)])), (q29, .inr (2, [.int 0, .ref q30, .ref q31, .ref q32, .ref q33, .ref q34, .ref q35, .int 0, .ref q36, .ref q37, .ref q38, .int 0, .ref q39]))]) [0, 1] (by decide) rfl
  have hKc := hK.sub (tys' := []) [] rfl
  have hFc := va_free (wc := [(q1, .inr (11, [.ref q2, .ref q5, .ref q14, .ref q15, .ref q16, .ref q17, .ref q51, .ref q63, .ref q29, .ref q40, .int (-1)])), (q29, .inr (2, [.int 0, .ref q30, .ref q31, .ref q32, .ref q33, .ref q34, .ref q35, .int 0, .ref q36, .ref q37, .ref q38, .int 0, .ref q39]))]) hD hS hA [0, 1] rfl
  refine va_calli (vx_runSW (As := [.ref q1, .int (xs 1), .int (xs 2), .ref q87]) (rest := []) ⟨hx, hb, hml, hown, hts⟩ (kL_dominatorOf l dC dI (gx := q1) (gq1 := q2) (gq4 := q5) (gq13 := q14) (gq136 := q15) (gq137 := q16) (gq138 := q17) (gq150 := q29) (gq151 := q30) (gq152 := q31) (gq153 := q32) (gq154 := q33) (gq155 := q34) (gq156 := q35) (gq157 := q36) (gq158 := q37) (gq159 := q38) (gq160 := q39) (gq161 := q40) (gq172 := q51) (gq184 := q63) (go := q87) (p0 := (xs 1)) (p1 := (xs 2)) (sz := _) (hl9 := hl9)) (vx_cwSW 4 hts (gi_S qw735 qw736 qw658 (gi_h qw734)) rfl rfl rfl (by decide +kernel) ⟨Nat.le_of_ble_eq_true rfl, Nat.le_of_ble_eq_true rfl⟩) ⟨PRE.blind, PRE.of hE hS hFc hPc hKc hDc⟩ rfl rfl hl.1 rfl (lv_room (Nat.le_of_ble_eq_true rfl)) dL_law_710 ⟨Nat.le_of_ble_eq_true rfl, Nat.le_of_ble_eq_true rfl⟩) hS (fun q _ h => hFc q h) hFc (fun r90 u t H locs ht hvm hw hB hz1 hk1 hS => ?_)
  obtain ⟨hP, hD, hK⟩ := JOIN (wr := [(q64, .inr (15, [.ref q65, .int 0, .int (-1), .int 0, .ref q67, .ref q68, .ref q70, .ref q72, .ref q86])), (q68, .inl (c69, 0, .inr (.inr (.inr (.inr (fun _ => none))))))]) hP hD hK [0, 1] [2, 3] [0] rfl rfl (by decide) (by decide) rfl hk1 hFc ht hvm hB
  have hP : va_P (dC, dI) cls [(q64, .inr (15, [.ref q65, .int 0, .int (-1), .int 0, .ref q67, .ref q68, .ref q70, .ref q72, .ref q86])), (q68, .inl (c69, 0, .inr (.inr (.inr (.inr (fun _ => none))))))] H := hP
  have hD : va_D A [(q64, .inr (15, [.ref q65, .int 0, .int (-1), .int 0, .ref q67, .ref q68, .ref q70, .ref q72, .ref q86])), (q68, .inl (c69, 0, .inr (.inr (.inr (.inr (fun _ => none))))))] := hD
  have hK : va_K (dC, dI) cls [(c69, .object RX14)] s := hK
  refine W.widen (k := 370) (n := 122520) (Nat.le_of_ble_eq_true rfl) (Nat.le_of_ble_eq_true rfl) ?_
  obtain rfl : r90 = 1 := hw
  refine lv_istore (lv' := [(5, .int 1), (4, .int 0), (3, .ref q87), (2, .ref q64), (1, .ref q1), (0, .ref b)]) hx hb dL_law_713 hl (by decide) rfl (fun ls hl => ?_)
  refine lv_aload_n hx hb dL_law_715 rfl (lv_at hl 3 rfl) ?_
  refine lv_aload_n hx hb dL_law_716 rfl (lv_at hl 5 rfl) ?_
  refine lv_iload hx hb dL_law_717 (lv_at hl 1 rfl) ?_
  refine lv_iconst (v := 1) hx hb dL_law_719 (by decide) ?_
  refine lv_iadd hx hb dL_law_720 ?_
  refine lv_topC (y := 1) (by decide) ?_
  refine va_sld hx hb hX hbl hbA hS (by unfold vp_in; decide +kernel) dL_law_721 ?_
  refine lv_topC (y := xs 1) rfl ?_
  refine lv_aload_n hx hb dL_law_722 rfl (lv_at hl 5 rfl) ?_
  refine lv_iload hx hb dL_law_723 (lv_at hl 1 rfl) ?_
  refine lv_iconst (v := 2) hx hb dL_law_725 (by decide) ?_
  refine lv_iadd hx hb dL_law_726 ?_
  refine lv_topC (y := 2) (by decide) ?_
  refine va_sld hx hb hX hbl hbA hS (by unfold vp_in; decide +kernel) dL_law_727 ?_
  refine lv_topC (y := xs 2) rfl ?_
  have hPc := hP.sub (ws' := [(q64, .inr (15, [.ref q65, .int 0, .int (-1), .int 0, .ref q67, .ref q68, .ref q70, .ref q72, .ref q86])), (q68, .inl (c69, 0, .inr (.inr (.inr (.inr (fun _ => none))))))]) [0, 1] rfl
  have hDc := hD.sub (ws' := [(q64, .inr (15, [.ref q65, .int 0, .int (-1), .int 0, .ref q67, .ref q68, .ref q70, .ref q72, .ref q86])), (q68, .inl (c69, 0, .inr (.inr (.inr (.inr (fun _ => none))))))]) [0, 1] (by decide) rfl
  have hKc := hK.sub (tys' := [(c69, .object RX14)]) [0] rfl
  have hFc := va_free (wc := [(q64, .inr (15, [.ref q65, .int 0, .int (-1), .int 0, .ref q67, .ref q68, .ref q70, .ref q72, .ref q86])), (q68, .inl (c69, 0, .inr (.inr (.inr (.inr (fun _ => none))))))]) hD hS hA [0, 1] rfl
  refine va_calli (va_runV (As := [.int (xs 1), .int (xs 2)]) (rest := []) ⟨hx, hb, hml, hown, hts⟩ (kX24_dominatorOf l dC dI (mx := q64) (mq1 := q65) (mq3 := q67) (mq4 := q68) (mc5 := c69) (mq6 := q70) (mq8 := q72) (mq22 := q86) (p0 := (xs 1)) (p1 := (xs 2)) (sz := _)) (cwV 2 hts (gi_V qw738 qw739 qw740 qw434 (gi_z qw737)) rfl rfl rfl (by decide +kernel) ⟨Nat.le_of_ble_eq_true rfl, Nat.le_of_ble_eq_true rfl⟩) ⟨PRE.blind, va_recv hKc hPc (ci := 15) (q0 := 0) rfl rfl, PRE.of hE hS hFc hPc hKc hDc⟩ rfl rfl hl.1 rfl (lv_room (Nat.le_of_ble_eq_true rfl)) dL_law_728 ⟨Nat.le_of_ble_eq_true rfl, Nat.le_of_ble_eq_true rfl⟩) hS (fun q _ h => hFc q h) hFc (fun r91 u t H locs ht hvm hw hB hz1 hk1 hS => ?_)
  obtain ⟨hP, hD, hK⟩ := JOIN (wr := []) hP hD hK [0, 1] [] [] rfl rfl (by decide) (by decide) rfl hk1 hFc ht hvm hB
  have hP : va_P (dC, dI) cls [(q64, .inr (15, [.ref q65, .int 0, .int (-1), .int 1, .ref q67, .ref q68, .ref q70, .ref q72, .ref q86]))] H := hP
  have hD : va_D A [(q64, .inr (15, [.ref q65, .int 0, .int (-1), .int 1, .ref q67, .ref q68, .ref q70, .ref q72, .ref q86]))] := hD
  have hK : va_K (dC, dI) cls [] s := hK
  refine W.widen (k := 370) (n := 122520) (Nat.le_of_ble_eq_true rfl) (Nat.le_of_ble_eq_true rfl) ?_
  obtain rfl : r91 = 0 := hw
  refine lv_istore (lv' := [(6, .int 0), (5, .int 1), (4, .int 0), (3, .ref q87), (2, .ref q64), (1, .ref q1), (0, .ref b)]) hx hb dL_law_731 hl (by decide) rfl (fun ls hl => ?_)
  refine lv_aload_n hx hb dL_law_733 rfl (lv_at hl 4 rfl) ?_
  have hPc := hP.sub (ws' := [(q64, .inr (15, [.ref q65, .int 0, .int (-1), .int 1, .ref q67, .ref q68, .ref q70, .ref q72, .ref q86]))]) [0] rfl
  have hDc := hD.sub (ws' := [(q64, .inr (15, [.ref q65, .int 0, .int (-1), .int 1, .ref q67, .ref q68, .ref q70, .ref q72, .ref q86]))]) [0] (by decide) rfl
  have hKc := hK.sub (tys' := []) [] rfl
  have hFc := va_free (wc := [(q64, .inr (15, [.ref q65, .int 0, .int (-1), .int 1, .ref q67, .ref q68, .ref q70, .ref q72, .ref q86]))]) hD hS hA [0] rfl
  refine va_calli (va_runV (As := []) (rest := []) ⟨hx, hb, hml, hown, hts⟩ (kX24_thrown_n64 l dC dI (a0 := q64) (a60 := q65) (a62 := q68) (a64 := q70) (a66 := q72) (a82 := q67) (a83 := q86) (sz := _)) (cwV 0 hts (gi_V qw664 qw665 qw666 qw434 (gi_z qw663)) rfl rfl rfl (by decide +kernel) ⟨Nat.le_of_ble_eq_true rfl, Nat.le_of_ble_eq_true rfl⟩) ⟨PRE.blind, va_recv hKc hPc (ci := 15) (q0 := 0) rfl rfl, PRE.of hE hS hFc hPc hKc hDc⟩ rfl rfl hl.1 rfl (lv_room (Nat.le_of_ble_eq_true rfl)) dL_law_734 ⟨Nat.le_of_ble_eq_true rfl, Nat.le_of_ble_eq_true rfl⟩) hS (fun q _ h => hFc q h) hFc (fun r92 u t H locs ht hvm hw hB hz1 hk1 hS => ?_)
  obtain ⟨hP, hD, hK⟩ := JOIN (wr := []) hP hD hK [0] [] [] rfl rfl (by decide) (by decide) rfl hk1 hFc ht hvm hB
  have hP : va_P (dC, dI) cls [(q64, .inr (15, [.ref q65, .int 0, .int (-1), .int 1, .ref q67, .ref q68, .ref q70, .ref q72, .ref q86]))] H := hP
  have hD : va_D A [(q64, .inr (15, [.ref q65, .int 0, .int (-1), .int 1, .ref q67, .ref q68, .ref q70, .ref q72, .ref q86]))] := hD
  have hK : va_K (dC, dI) cls [] s := hK
  refine W.widen (k := 370) (n := 122520) (Nat.le_of_ble_eq_true rfl) (Nat.le_of_ble_eq_true rfl) ?_
  obtain rfl : r92 = 1 := hw
  refine lv_iload hx hb dL_law_737 (lv_at hl 1 rfl) ?_
  refine lv_icmp_eq (tgt := 744) hx hb dL_law_739 (by decide) (fun _ => ?_) (fun c => absurd (by decide) c)
  refine lv_iload hx hb dL_law_744 (lv_at hl 1 rfl) ?_
  refine lv_if_ne (tgt := 761) hx hb dL_law_746 (by decide) (fun _ => ?_) (fun c => absurd c (by decide))
  refine lv_goto (tgt := 2818) hx hb dL_law_761 (by decide) ?_
  refine lv_iinc (v := 7) (lv' := [(4, .int 7), (6, .int 0), (5, .int 1), (3, .ref q87), (2, .ref q64), (1, .ref q1), (0, .ref b)]) hx hb dL_law_2818 hl (k := 2) rfl (by decide) (by decide) rfl (fun ls hl => ?_)
  refine lv_goto (tgt := 23) hx hb dL_law_2821 (by decide) ?_
  refine lv_iload hx hb dL_law_23 (lv_at hl 0 rfl) ?_
  refine lv_aload_n hx hb dL_law_25 rfl (lv_at hl 6 rfl) ?_
  refine va_slen hx hb hX hbl hbA hS dL_law_26 ?_
  refine lv_topC (y := 7) rfl ?_
  refine lv_bipush (v := 7) hx hb dL_law_27 (by decide) ?_
  refine lv_isub hx hb dL_law_29 ?_
  refine lv_topC (y := 0) (by decide) ?_
  refine lv_icmp_gt (tgt := 2824) hx hb dL_law_30 (by decide) (fun _ => ?_) (fun c => absurd (by decide) c)
  refine lv_iconst (v := 1) hx hb dL_law_2824 (by decide) ?_
  refine va_forget (fun q hq => hA2 _ (hS.2.2 q hq)) ?_
  refine W.widen (k := 600002) (n := 7302232) (Nat.le_of_ble_eq_true rfl) (Nat.le_of_ble_eq_true rfl) ?_
  exact lw_ret (d0 := s.drawn) (Drawn.sameBut.refl s.drawn lw_cs) hx hb hr hlocks dL_law_2825
set_option maxHeartbeats 4000000 in
set_option maxRecDepth 100000 in
theorem law_11 {zs : Nat × Nat} {p : Program} {e : Env} {s : State} {m : MethodId} {below : List Frame} {meth : Method} {c : Code} {l : Launch} {b : Nat} {xs : Nat → Int32} {dC : Nat → ClassId} {dI : Nat → Nat → Nat} {A : Nat → Prop} (C0 : lw_At p s m meth c b 7 xs) (hl9 : l.stackTraces = false) (hA : ∀ q, s.heap.size ≤ q → A q) (hA2 : ∀ q, A q → s.heap.size ≤ q) (hE : ENV zs A s s.heap) {H : Heap} {locs : List Loc} (q1 : Nat) (q2 : Nat) (q5 : Nat) (q14 : Nat) (q15 : Nat) (q16 : Nat) (q17 : Nat) (q29 : Nat) (q30 : Nat) (q31 : Nat) (q32 : Nat) (q33 : Nat) (q34 : Nat) (q35 : Nat) (q36 : Nat) (q37 : Nat) (q38 : Nat) (q39 : Nat) (q40 : Nat) (q51 : Nat) (q63 : Nat) (q64 : Nat) (q65 : Nat) (q67 : Nat) (q68 : Nat) (c69 : ClassId) (q70 : Nat) (q72 : Nat) (q86 : Nat) (q87 : Nat) (hP : va_P (dC, dI) cls [(q1, .inr (11, [.ref q2, .ref q5, .ref q14, .ref q15, .ref q16, .ref q17, .ref q51, .ref q63, .ref q29, .ref q40, .int (-1)])), (q29, .inr (2, [.int 0, .ref q30, .ref q31, .ref q32, .ref q33, .ref q34, .ref q35, .int 0, .ref q36, .ref q37, .ref q38, .int 0, .ref q39])), (q64, .inr (15, [.ref q65, .int 0, .int (-1), .int 0, .ref q67, .ref q68, .ref q70, .ref q72, .ref q86])), (q68, .inl (c69, 0, .inr (.inr (.inr (.inr (fun _ => none))))))] H) (hD : va_D A [(q1, .inr (11, [.ref q2, .ref q5, .ref q14, .ref q15, .ref q16, .ref q17, .ref q51, .ref q63, .ref q29, .ref q40, .int (-1)])), (q29, .inr (2, [.int 0, .ref q30, .ref q31, .ref q32, .ref q33, .ref q34, .ref q35, .int 0, .ref q36, .ref q37, .ref q38, .int 0, .ref q39])), (q64, .inr (15, [.ref q65, .int 0, .int (-1), .int 0, .ref q67, .ref q68, .ref q70, .ref q72, .ref q86])), (q68, .inl (c69, 0, .inr (.inr (.inr (.inr (fun _ => none))))))]) (hK : va_K (dC, dI) cls [(c69, .object RX14)] s) (hS : va_S A s.heap H locs) {ls : Array Slot} (hl : lv_has ls 9 [(4, .int 0), (3, .ref q87), (2, .ref q64), (1, .ref q1), (0, .ref b)])  : W p l e room_1 s m #[Value.ref b] below meth c H locs 369 122514 (lw_Z below #[Value.ref b] s) (F0 m 764 ls []) := by
  obtain ⟨hx, hb, hr, hml, hown, hts0, hX, hbl, hlocks, hgv⟩ := id C0
  have hts : ∀ w ∈ gw, w.before #[Value.ref b] s = true := fun w h => hts0 w (gw_tbl h)
  have hbA : ¬ A b := fun h => absurd (hA2 b h) (Nat.not_le.mpr hbl)
  refine lv_aload_n hx hb dL_law_764 rfl (lv_at hl 3 rfl) ?_
  refine lv_aload_n hx hb dL_law_765 rfl (lv_at hl 4 rfl) ?_
  refine lv_iload hx hb dL_law_766 (lv_at hl 0 rfl) ?_
  refine lv_iconst (v := 1) hx hb dL_law_768 (by decide) ?_
  refine lv_iadd hx hb dL_law_769 ?_
  refine lv_topC (y := 1) (by decide) ?_
  refine va_sld hx hb hX hbl hbA hS (by unfold vp_in; decide +kernel) dL_law_770 ?_
  refine lv_topC (y := xs 1) rfl ?_
  refine lv_aload_n hx hb dL_law_771 rfl (lv_at hl 4 rfl) ?_
  refine lv_iload hx hb dL_law_772 (lv_at hl 0 rfl) ?_
  refine lv_iconst (v := 2) hx hb dL_law_774 (by decide) ?_
  refine lv_iadd hx hb dL_law_775 ?_
  refine lv_topC (y := 2) (by decide) ?_
  refine va_sld hx hb hX hbl hbA hS (by unfold vp_in; decide +kernel) dL_law_776 ?_
  refine lv_topC (y := xs 2) rfl ?_
  refine lv_aload_n hx hb dL_law_777 rfl (lv_at hl 1 rfl) ?_
  have hPc := hP.sub (ws' := [(q1, .inr (11, [.ref q2, .ref q5, .ref q14, .ref q15, .ref q16, .ref q17, .ref q51, .ref q63, .ref q29, .ref q40, .int (-1)])), (q29, .inr (2, [.int 0, .ref q30, .ref q31, .ref q32, .ref q33, .ref q34, .ref q35, .int 0, .ref q36, .ref q37, .ref q38, .int 0, .ref q39]))]) [0, 1] rfl
  have hDc := hD.sub (ws' := [(q1, .inr (11, [.ref q2, .ref q5, .ref q14, .ref q15, .ref q16, .ref q17, .ref q51, .ref q63, .ref q29, .ref q40, .int (-1)])), (q29, .inr (2, [.int 0, .ref q30, .ref q31, .ref q32, .ref q33, .ref q34, .ref q35, .int 0, .ref q36, .ref q37, .ref q38, .int 0, .ref q39]))]) [0, 1] (by decide) rfl
  have hKc := hK.sub (tys' := []) [] rfl
  have hFc := va_free (wc := [(q1, .inr (11, [.ref q2, .ref q5, .ref q14, .ref q15, .ref q16, .ref q17, .ref q51, .ref q63, .ref q29, .ref q40, .int (-1)])), (q29, .inr (2, [.int 0, .ref q30, .ref q31, .ref q32, .ref q33, .ref q34, .ref q35, .int 0, .ref q36, .ref q37, .ref q38, .int 0, .ref q39]))]) hD hS hA [0, 1] rfl
  refine va_calli (vx_runSW (As := [.ref q1, .int (xs 1), .int (xs 2), .ref q87]) (rest := []) ⟨hx, hb, hml, hown, hts⟩ (kL_depthOf l dC dI (gx := q1) (gq1 := q2) (gq4 := q5) (gq13 := q14) (gq136 := q15) (gq137 := q16) (gq138 := q17) (gq150 := q29) (gq151 := q30) (gq152 := q31) (gq153 := q32) (gq154 := q33) (gq155 := q34) (gq156 := q35) (gq157 := q36) (gq158 := q37) (gq159 := q38) (gq160 := q39) (gq161 := q40) (gq172 := q51) (gq184 := q63) (go := q87) (p0 := (xs 1)) (p1 := (xs 2)) (sz := _) (hl9 := hl9)) (vx_cwSW 4 hts (gi_S qw742 qw743 qw658 (gi_h qw741)) rfl rfl rfl (by decide +kernel) ⟨Nat.le_of_ble_eq_true rfl, Nat.le_of_ble_eq_true rfl⟩) ⟨PRE.blind, PRE.of hE hS hFc hPc hKc hDc⟩ rfl rfl hl.1 rfl (lv_room (Nat.le_of_ble_eq_true rfl)) dL_law_778 ⟨Nat.le_of_ble_eq_true rfl, Nat.le_of_ble_eq_true rfl⟩) hS (fun q _ h => hFc q h) hFc (fun r90 u t H locs ht hvm hw hB hz1 hk1 hS => ?_)
  obtain ⟨hP, hD, hK⟩ := JOIN (wr := [(q64, .inr (15, [.ref q65, .int 0, .int (-1), .int 0, .ref q67, .ref q68, .ref q70, .ref q72, .ref q86])), (q68, .inl (c69, 0, .inr (.inr (.inr (.inr (fun _ => none))))))]) hP hD hK [0, 1] [2, 3] [0] rfl rfl (by decide) (by decide) rfl hk1 hFc ht hvm hB
  have hP : va_P (dC, dI) cls [(q64, .inr (15, [.ref q65, .int 0, .int (-1), .int 0, .ref q67, .ref q68, .ref q70, .ref q72, .ref q86])), (q68, .inl (c69, 0, .inr (.inr (.inr (.inr (fun _ => none))))))] H := hP
  have hD : va_D A [(q64, .inr (15, [.ref q65, .int 0, .int (-1), .int 0, .ref q67, .ref q68, .ref q70, .ref q72, .ref q86])), (q68, .inl (c69, 0, .inr (.inr (.inr (.inr (fun _ => none))))))] := hD
  have hK : va_K (dC, dI) cls [(c69, .object RX14)] s := hK
  refine W.widen (k := 370) (n := 122520) (Nat.le_of_ble_eq_true rfl) (Nat.le_of_ble_eq_true rfl) ?_
  obtain rfl : r90 = 1 := hw
  refine lv_istore (lv' := [(5, .int 1), (4, .int 0), (3, .ref q87), (2, .ref q64), (1, .ref q1), (0, .ref b)]) hx hb dL_law_781 hl (by decide) rfl (fun ls hl => ?_)
  refine lv_aload_n hx hb dL_law_783 rfl (lv_at hl 3 rfl) ?_
  refine lv_aload_n hx hb dL_law_784 rfl (lv_at hl 5 rfl) ?_
  refine lv_iload hx hb dL_law_785 (lv_at hl 1 rfl) ?_
  refine lv_iconst (v := 1) hx hb dL_law_787 (by decide) ?_
  refine lv_iadd hx hb dL_law_788 ?_
  refine lv_topC (y := 1) (by decide) ?_
  refine va_sld hx hb hX hbl hbA hS (by unfold vp_in; decide +kernel) dL_law_789 ?_
  refine lv_topC (y := xs 1) rfl ?_
  refine lv_aload_n hx hb dL_law_790 rfl (lv_at hl 5 rfl) ?_
  refine lv_iload hx hb dL_law_791 (lv_at hl 1 rfl) ?_
  refine lv_iconst (v := 2) hx hb dL_law_793 (by decide) ?_
  refine lv_iadd hx hb dL_law_794 ?_
  refine lv_topC (y := 2) (by decide) ?_
  refine va_sld hx hb hX hbl hbA hS (by unfold vp_in; decide +kernel) dL_law_795 ?_
  refine lv_topC (y := xs 2) rfl ?_
  have hPc := hP.sub (ws' := [(q64, .inr (15, [.ref q65, .int 0, .int (-1), .int 0, .ref q67, .ref q68, .ref q70, .ref q72, .ref q86])), (q68, .inl (c69, 0, .inr (.inr (.inr (.inr (fun _ => none))))))]) [0, 1] rfl
  have hDc := hD.sub (ws' := [(q64, .inr (15, [.ref q65, .int 0, .int (-1), .int 0, .ref q67, .ref q68, .ref q70, .ref q72, .ref q86])), (q68, .inl (c69, 0, .inr (.inr (.inr (.inr (fun _ => none))))))]) [0, 1] (by decide) rfl
  have hKc := hK.sub (tys' := [(c69, .object RX14)]) [0] rfl
  have hFc := va_free (wc := [(q64, .inr (15, [.ref q65, .int 0, .int (-1), .int 0, .ref q67, .ref q68, .ref q70, .ref q72, .ref q86])), (q68, .inl (c69, 0, .inr (.inr (.inr (.inr (fun _ => none))))))]) hD hS hA [0, 1] rfl
  refine va_calli (va_runV (As := [.int (xs 1), .int (xs 2)]) (rest := []) ⟨hx, hb, hml, hown, hts⟩ (kX24_depthOf l dC dI (mx := q64) (mq1 := q65) (mq3 := q67) (mq4 := q68) (mc5 := c69) (mq6 := q70) (mq8 := q72) (mq22 := q86) (p0 := (xs 1)) (p1 := (xs 2)) (sz := _)) (cwV 2 hts (gi_V qw745 qw746 qw747 qw434 (gi_z qw744)) rfl rfl rfl (by decide +kernel) ⟨Nat.le_of_ble_eq_true rfl, Nat.le_of_ble_eq_true rfl⟩) ⟨PRE.blind, va_recv hKc hPc (ci := 15) (q0 := 0) rfl rfl, PRE.of hE hS hFc hPc hKc hDc⟩ rfl rfl hl.1 rfl (lv_room (Nat.le_of_ble_eq_true rfl)) dL_law_796 ⟨Nat.le_of_ble_eq_true rfl, Nat.le_of_ble_eq_true rfl⟩) hS (fun q _ h => hFc q h) hFc (fun r91 u t H locs ht hvm hw hB hz1 hk1 hS => ?_)
  obtain ⟨hP, hD, hK⟩ := JOIN (wr := []) hP hD hK [0, 1] [] [] rfl rfl (by decide) (by decide) rfl hk1 hFc ht hvm hB
  have hP : va_P (dC, dI) cls [(q64, .inr (15, [.ref q65, .int 0, .int (-1), .int 1, .ref q67, .ref q68, .ref q70, .ref q72, .ref q86]))] H := hP
  have hD : va_D A [(q64, .inr (15, [.ref q65, .int 0, .int (-1), .int 1, .ref q67, .ref q68, .ref q70, .ref q72, .ref q86]))] := hD
  have hK : va_K (dC, dI) cls [] s := hK
  refine W.widen (k := 370) (n := 122520) (Nat.le_of_ble_eq_true rfl) (Nat.le_of_ble_eq_true rfl) ?_
  obtain rfl : r91 = 0 := hw
  refine lv_istore (lv' := [(6, .int 0), (5, .int 1), (4, .int 0), (3, .ref q87), (2, .ref q64), (1, .ref q1), (0, .ref b)]) hx hb dL_law_799 hl (by decide) rfl (fun ls hl => ?_)
  refine lv_aload_n hx hb dL_law_801 rfl (lv_at hl 4 rfl) ?_
  have hPc := hP.sub (ws' := [(q64, .inr (15, [.ref q65, .int 0, .int (-1), .int 1, .ref q67, .ref q68, .ref q70, .ref q72, .ref q86]))]) [0] rfl
  have hDc := hD.sub (ws' := [(q64, .inr (15, [.ref q65, .int 0, .int (-1), .int 1, .ref q67, .ref q68, .ref q70, .ref q72, .ref q86]))]) [0] (by decide) rfl
  have hKc := hK.sub (tys' := []) [] rfl
  have hFc := va_free (wc := [(q64, .inr (15, [.ref q65, .int 0, .int (-1), .int 1, .ref q67, .ref q68, .ref q70, .ref q72, .ref q86]))]) hD hS hA [0] rfl
  refine va_calli (va_runV (As := []) (rest := []) ⟨hx, hb, hml, hown, hts⟩ (kX24_thrown_n64 l dC dI (a0 := q64) (a60 := q65) (a62 := q68) (a64 := q70) (a66 := q72) (a82 := q67) (a83 := q86) (sz := _)) (cwV 0 hts (gi_V qw664 qw665 qw666 qw434 (gi_z qw663)) rfl rfl rfl (by decide +kernel) ⟨Nat.le_of_ble_eq_true rfl, Nat.le_of_ble_eq_true rfl⟩) ⟨PRE.blind, va_recv hKc hPc (ci := 15) (q0 := 0) rfl rfl, PRE.of hE hS hFc hPc hKc hDc⟩ rfl rfl hl.1 rfl (lv_room (Nat.le_of_ble_eq_true rfl)) dL_law_802 ⟨Nat.le_of_ble_eq_true rfl, Nat.le_of_ble_eq_true rfl⟩) hS (fun q _ h => hFc q h) hFc (fun r92 u t H locs ht hvm hw hB hz1 hk1 hS => ?_)
  obtain ⟨hP, hD, hK⟩ := JOIN (wr := []) hP hD hK [0] [] [] rfl rfl (by decide) (by decide) rfl hk1 hFc ht hvm hB
  have hP : va_P (dC, dI) cls [(q64, .inr (15, [.ref q65, .int 0, .int (-1), .int 1, .ref q67, .ref q68, .ref q70, .ref q72, .ref q86]))] H := hP
  have hD : va_D A [(q64, .inr (15, [.ref q65, .int 0, .int (-1), .int 1, .ref q67, .ref q68, .ref q70, .ref q72, .ref q86]))] := hD
  have hK : va_K (dC, dI) cls [] s := hK
  refine W.widen (k := 370) (n := 122520) (Nat.le_of_ble_eq_true rfl) (Nat.le_of_ble_eq_true rfl) ?_
  obtain rfl : r92 = 1 := hw
  refine lv_iload hx hb dL_law_805 (lv_at hl 1 rfl) ?_
  refine lv_icmp_eq (tgt := 812) hx hb dL_law_807 (by decide) (fun _ => ?_) (fun c => absurd (by decide) c)
  refine lv_iload hx hb dL_law_812 (lv_at hl 1 rfl) ?_
  refine lv_if_ne (tgt := 829) hx hb dL_law_814 (by decide) (fun _ => ?_) (fun c => absurd c (by decide))
  refine lv_goto (tgt := 2818) hx hb dL_law_829 (by decide) ?_
  refine lv_iinc (v := 7) (lv' := [(4, .int 7), (6, .int 0), (5, .int 1), (3, .ref q87), (2, .ref q64), (1, .ref q1), (0, .ref b)]) hx hb dL_law_2818 hl (k := 2) rfl (by decide) (by decide) rfl (fun ls hl => ?_)
  refine lv_goto (tgt := 23) hx hb dL_law_2821 (by decide) ?_
  refine lv_iload hx hb dL_law_23 (lv_at hl 0 rfl) ?_
  refine lv_aload_n hx hb dL_law_25 rfl (lv_at hl 6 rfl) ?_
  refine va_slen hx hb hX hbl hbA hS dL_law_26 ?_
  refine lv_topC (y := 7) rfl ?_
  refine lv_bipush (v := 7) hx hb dL_law_27 (by decide) ?_
  refine lv_isub hx hb dL_law_29 ?_
  refine lv_topC (y := 0) (by decide) ?_
  refine lv_icmp_gt (tgt := 2824) hx hb dL_law_30 (by decide) (fun _ => ?_) (fun c => absurd (by decide) c)
  refine lv_iconst (v := 1) hx hb dL_law_2824 (by decide) ?_
  refine va_forget (fun q hq => hA2 _ (hS.2.2 q hq)) ?_
  refine W.widen (k := 600002) (n := 7302232) (Nat.le_of_ble_eq_true rfl) (Nat.le_of_ble_eq_true rfl) ?_
  exact lw_ret (d0 := s.drawn) (Drawn.sameBut.refl s.drawn lw_cs) hx hb hr hlocks dL_law_2825
set_option maxHeartbeats 4000000 in
set_option maxRecDepth 100000 in
theorem law_12 {zs : Nat × Nat} {p : Program} {e : Env} {s : State} {m : MethodId} {below : List Frame} {meth : Method} {c : Code} {l : Launch} {b : Nat} {xs : Nat → Int32} {dC : Nat → ClassId} {dI : Nat → Nat → Nat} {A : Nat → Prop} (C0 : lw_At p s m meth c b 7 xs) (hl9 : l.stackTraces = false) (hA : ∀ q, s.heap.size ≤ q → A q) (hA2 : ∀ q, A q → s.heap.size ≤ q) (hE : ENV zs A s s.heap) {H : Heap} {locs : List Loc} (q1 : Nat) (q2 : Nat) (q5 : Nat) (q14 : Nat) (q15 : Nat) (q16 : Nat) (q17 : Nat) (q29 : Nat) (q30 : Nat) (q31 : Nat) (q32 : Nat) (q33 : Nat) (q34 : Nat) (q35 : Nat) (q36 : Nat) (q37 : Nat) (q38 : Nat) (q39 : Nat) (q40 : Nat) (q51 : Nat) (q63 : Nat) (q64 : Nat) (q65 : Nat) (q67 : Nat) (q68 : Nat) (c69 : ClassId) (q70 : Nat) (q72 : Nat) (q86 : Nat) (q87 : Nat) (hP : va_P (dC, dI) cls [(q1, .inr (11, [.ref q2, .ref q5, .ref q14, .ref q15, .ref q16, .ref q17, .ref q51, .ref q63, .ref q29, .ref q40, .int (-1)])), (q29, .inr (2, [.int 0, .ref q30, .ref q31, .ref q32, .ref q33, .ref q34, .ref q35, .int 0, .ref q36, .ref q37, .ref q38, .int 0, .ref q39])), (q64, .inr (15, [.ref q65, .int 0, .int (-1), .int 0, .ref q67, .ref q68, .ref q70, .ref q72, .ref q86])), (q68, .inl (c69, 0, .inr (.inr (.inr (.inr (fun _ => none))))))] H) (hD : va_D A [(q1, .inr (11, [.ref q2, .ref q5, .ref q14, .ref q15, .ref q16, .ref q17, .ref q51, .ref q63, .ref q29, .ref q40, .int (-1)])), (q29, .inr (2, [.int 0, .ref q30, .ref q31, .ref q32, .ref q33, .ref q34, .ref q35, .int 0, .ref q36, .ref q37, .ref q38, .int 0, .ref q39])), (q64, .inr (15, [.ref q65, .int 0, .int (-1), .int 0, .ref q67, .ref q68, .ref q70, .ref q72, .ref q86])), (q68, .inl (c69, 0, .inr (.inr (.inr (.inr (fun _ => none))))))]) (hK : va_K (dC, dI) cls [(c69, .object RX14)] s) (hS : va_S A s.heap H locs) {ls : Array Slot} (hl : lv_has ls 9 [(4, .int 0), (3, .ref q87), (2, .ref q64), (1, .ref q1), (0, .ref b)])  : W p l e room_1 s m #[Value.ref b] below meth c H locs 369 122514 (lw_Z below #[Value.ref b] s) (F0 m 832 ls []) := by
  obtain ⟨hx, hb, hr, hml, hown, hts0, hX, hbl, hlocks, hgv⟩ := id C0
  have hts : ∀ w ∈ gw, w.before #[Value.ref b] s = true := fun w h => hts0 w (gw_tbl h)
  have hbA : ¬ A b := fun h => absurd (hA2 b h) (Nat.not_le.mpr hbl)
  refine lv_aload_n hx hb dL_law_832 rfl (lv_at hl 3 rfl) ?_
  refine lv_aload_n hx hb dL_law_833 rfl (lv_at hl 4 rfl) ?_
  refine lv_iload hx hb dL_law_834 (lv_at hl 0 rfl) ?_
  refine lv_iconst (v := 1) hx hb dL_law_836 (by decide) ?_
  refine lv_iadd hx hb dL_law_837 ?_
  refine lv_topC (y := 1) (by decide) ?_
  refine va_sld hx hb hX hbl hbA hS (by unfold vp_in; decide +kernel) dL_law_838 ?_
  refine lv_topC (y := xs 1) rfl ?_
  refine lv_aload_n hx hb dL_law_839 rfl (lv_at hl 4 rfl) ?_
  refine lv_iload hx hb dL_law_840 (lv_at hl 0 rfl) ?_
  refine lv_iconst (v := 2) hx hb dL_law_842 (by decide) ?_
  refine lv_iadd hx hb dL_law_843 ?_
  refine lv_topC (y := 2) (by decide) ?_
  refine va_sld hx hb hX hbl hbA hS (by unfold vp_in; decide +kernel) dL_law_844 ?_
  refine lv_topC (y := xs 2) rfl ?_
  refine lv_aload_n hx hb dL_law_845 rfl (lv_at hl 1 rfl) ?_
  have hPc := hP.sub (ws' := [(q1, .inr (11, [.ref q2, .ref q5, .ref q14, .ref q15, .ref q16, .ref q17, .ref q51, .ref q63, .ref q29, .ref q40, .int (-1)])), (q29, .inr (2, [.int 0, .ref q30, .ref q31, .ref q32, .ref q33, .ref q34, .ref q35, .int 0, .ref q36, .ref q37, .ref q38, .int 0, .ref q39]))]) [0, 1] rfl
  have hDc := hD.sub (ws' := [(q1, .inr (11, [.ref q2, .ref q5, .ref q14, .ref q15, .ref q16, .ref q17, .ref q51, .ref q63, .ref q29, .ref q40, .int (-1)])), (q29, .inr (2, [.int 0, .ref q30, .ref q31, .ref q32, .ref q33, .ref q34, .ref q35, .int 0, .ref q36, .ref q37, .ref q38, .int 0, .ref q39]))]) [0, 1] (by decide) rfl
  have hKc := hK.sub (tys' := []) [] rfl
  have hFc := va_free (wc := [(q1, .inr (11, [.ref q2, .ref q5, .ref q14, .ref q15, .ref q16, .ref q17, .ref q51, .ref q63, .ref q29, .ref q40, .int (-1)])), (q29, .inr (2, [.int 0, .ref q30, .ref q31, .ref q32, .ref q33, .ref q34, .ref q35, .int 0, .ref q36, .ref q37, .ref q38, .int 0, .ref q39]))]) hD hS hA [0, 1] rfl
  refine va_calli (vx_runSW (As := [.ref q1, .int (xs 1), .int (xs 2), .ref q87]) (rest := []) ⟨hx, hb, hml, hown, hts⟩ (kL_predecessors l dC dI (gx := q1) (gq1 := q2) (gq4 := q5) (gq13 := q14) (gq136 := q15) (gq137 := q16) (gq138 := q17) (gq150 := q29) (gq151 := q30) (gq152 := q31) (gq153 := q32) (gq154 := q33) (gq155 := q34) (gq156 := q35) (gq157 := q36) (gq158 := q37) (gq159 := q38) (gq160 := q39) (gq161 := q40) (gq172 := q51) (gq184 := q63) (go := q87) (p0 := (xs 1)) (p1 := (xs 2)) (sz := _) (hl9 := hl9)) (vx_cwSW 4 hts (gi_S qw749 qw750 qw658 (gi_h qw748)) rfl rfl rfl (by decide +kernel) ⟨Nat.le_of_ble_eq_true rfl, Nat.le_of_ble_eq_true rfl⟩) ⟨PRE.blind, PRE.of hE hS hFc hPc hKc hDc⟩ rfl rfl hl.1 rfl (lv_room (Nat.le_of_ble_eq_true rfl)) dL_law_846 ⟨Nat.le_of_ble_eq_true rfl, Nat.le_of_ble_eq_true rfl⟩) hS (fun q _ h => hFc q h) hFc (fun r90 u t H locs ht hvm hw hB hz1 hk1 hS => ?_)
  obtain ⟨hP, hD, hK⟩ := JOIN (wr := [(q64, .inr (15, [.ref q65, .int 0, .int (-1), .int 0, .ref q67, .ref q68, .ref q70, .ref q72, .ref q86])), (q68, .inl (c69, 0, .inr (.inr (.inr (.inr (fun _ => none))))))]) hP hD hK [0, 1] [2, 3] [0] rfl rfl (by decide) (by decide) rfl hk1 hFc ht hvm hB
  have hP : va_P (dC, dI) cls [(q64, .inr (15, [.ref q65, .int 0, .int (-1), .int 0, .ref q67, .ref q68, .ref q70, .ref q72, .ref q86])), (q68, .inl (c69, 0, .inr (.inr (.inr (.inr (fun _ => none))))))] H := hP
  have hD : va_D A [(q64, .inr (15, [.ref q65, .int 0, .int (-1), .int 0, .ref q67, .ref q68, .ref q70, .ref q72, .ref q86])), (q68, .inl (c69, 0, .inr (.inr (.inr (.inr (fun _ => none))))))] := hD
  have hK : va_K (dC, dI) cls [(c69, .object RX14)] s := hK
  refine W.widen (k := 370) (n := 122520) (Nat.le_of_ble_eq_true rfl) (Nat.le_of_ble_eq_true rfl) ?_
  obtain rfl : r90 = 1 := hw
  refine lv_istore (lv' := [(5, .int 1), (4, .int 0), (3, .ref q87), (2, .ref q64), (1, .ref q1), (0, .ref b)]) hx hb dL_law_849 hl (by decide) rfl (fun ls hl => ?_)
  refine lv_aload_n hx hb dL_law_851 rfl (lv_at hl 3 rfl) ?_
  refine lv_aload_n hx hb dL_law_852 rfl (lv_at hl 5 rfl) ?_
  refine lv_iload hx hb dL_law_853 (lv_at hl 1 rfl) ?_
  refine lv_iconst (v := 1) hx hb dL_law_855 (by decide) ?_
  refine lv_iadd hx hb dL_law_856 ?_
  refine lv_topC (y := 1) (by decide) ?_
  refine va_sld hx hb hX hbl hbA hS (by unfold vp_in; decide +kernel) dL_law_857 ?_
  refine lv_topC (y := xs 1) rfl ?_
  refine lv_aload_n hx hb dL_law_858 rfl (lv_at hl 5 rfl) ?_
  refine lv_iload hx hb dL_law_859 (lv_at hl 1 rfl) ?_
  refine lv_iconst (v := 2) hx hb dL_law_861 (by decide) ?_
  refine lv_iadd hx hb dL_law_862 ?_
  refine lv_topC (y := 2) (by decide) ?_
  refine va_sld hx hb hX hbl hbA hS (by unfold vp_in; decide +kernel) dL_law_863 ?_
  refine lv_topC (y := xs 2) rfl ?_
  have hPc := hP.sub (ws' := [(q64, .inr (15, [.ref q65, .int 0, .int (-1), .int 0, .ref q67, .ref q68, .ref q70, .ref q72, .ref q86])), (q68, .inl (c69, 0, .inr (.inr (.inr (.inr (fun _ => none))))))]) [0, 1] rfl
  have hDc := hD.sub (ws' := [(q64, .inr (15, [.ref q65, .int 0, .int (-1), .int 0, .ref q67, .ref q68, .ref q70, .ref q72, .ref q86])), (q68, .inl (c69, 0, .inr (.inr (.inr (.inr (fun _ => none))))))]) [0, 1] (by decide) rfl
  have hKc := hK.sub (tys' := [(c69, .object RX14)]) [0] rfl
  have hFc := va_free (wc := [(q64, .inr (15, [.ref q65, .int 0, .int (-1), .int 0, .ref q67, .ref q68, .ref q70, .ref q72, .ref q86])), (q68, .inl (c69, 0, .inr (.inr (.inr (.inr (fun _ => none))))))]) hD hS hA [0, 1] rfl
  refine va_calli (va_runV (As := [.int (xs 1), .int (xs 2)]) (rest := []) ⟨hx, hb, hml, hown, hts⟩ (kX24_predecessors l dC dI (mx := q64) (mq1 := q65) (mq3 := q67) (mq4 := q68) (mc5 := c69) (mq6 := q70) (mq8 := q72) (mq22 := q86) (p0 := (xs 1)) (p1 := (xs 2)) (sz := _)) (cwV 2 hts (gi_V qw752 qw753 qw754 qw434 (gi_z qw751)) rfl rfl rfl (by decide +kernel) ⟨Nat.le_of_ble_eq_true rfl, Nat.le_of_ble_eq_true rfl⟩) ⟨PRE.blind, va_recv hKc hPc (ci := 15) (q0 := 0) rfl rfl, PRE.of hE hS hFc hPc hKc hDc⟩ rfl rfl hl.1 rfl (lv_room (Nat.le_of_ble_eq_true rfl)) dL_law_864 ⟨Nat.le_of_ble_eq_true rfl, Nat.le_of_ble_eq_true rfl⟩) hS (fun q _ h => hFc q h) hFc (fun r91 u t H locs ht hvm hw hB hz1 hk1 hS => ?_)
  obtain ⟨hP, hD, hK⟩ := JOIN (wr := []) hP hD hK [0, 1] [] [] rfl rfl (by decide) (by decide) rfl hk1 hFc ht hvm hB
  have hP : va_P (dC, dI) cls [(q64, .inr (15, [.ref q65, .int 0, .int (-1), .int 1, .ref q67, .ref q68, .ref q70, .ref q72, .ref q86]))] H := hP
  have hD : va_D A [(q64, .inr (15, [.ref q65, .int 0, .int (-1), .int 1, .ref q67, .ref q68, .ref q70, .ref q72, .ref q86]))] := hD
  have hK : va_K (dC, dI) cls [] s := hK
  refine W.widen (k := 370) (n := 122520) (Nat.le_of_ble_eq_true rfl) (Nat.le_of_ble_eq_true rfl) ?_
  obtain rfl : r91 = 0 := hw
  refine lv_istore (lv' := [(6, .int 0), (5, .int 1), (4, .int 0), (3, .ref q87), (2, .ref q64), (1, .ref q1), (0, .ref b)]) hx hb dL_law_867 hl (by decide) rfl (fun ls hl => ?_)
  refine lv_aload_n hx hb dL_law_869 rfl (lv_at hl 4 rfl) ?_
  have hPc := hP.sub (ws' := [(q64, .inr (15, [.ref q65, .int 0, .int (-1), .int 1, .ref q67, .ref q68, .ref q70, .ref q72, .ref q86]))]) [0] rfl
  have hDc := hD.sub (ws' := [(q64, .inr (15, [.ref q65, .int 0, .int (-1), .int 1, .ref q67, .ref q68, .ref q70, .ref q72, .ref q86]))]) [0] (by decide) rfl
  have hKc := hK.sub (tys' := []) [] rfl
  have hFc := va_free (wc := [(q64, .inr (15, [.ref q65, .int 0, .int (-1), .int 1, .ref q67, .ref q68, .ref q70, .ref q72, .ref q86]))]) hD hS hA [0] rfl
  refine va_calli (va_runV (As := []) (rest := []) ⟨hx, hb, hml, hown, hts⟩ (kX24_thrown_n64 l dC dI (a0 := q64) (a60 := q65) (a62 := q68) (a64 := q70) (a66 := q72) (a82 := q67) (a83 := q86) (sz := _)) (cwV 0 hts (gi_V qw664 qw665 qw666 qw434 (gi_z qw663)) rfl rfl rfl (by decide +kernel) ⟨Nat.le_of_ble_eq_true rfl, Nat.le_of_ble_eq_true rfl⟩) ⟨PRE.blind, va_recv hKc hPc (ci := 15) (q0 := 0) rfl rfl, PRE.of hE hS hFc hPc hKc hDc⟩ rfl rfl hl.1 rfl (lv_room (Nat.le_of_ble_eq_true rfl)) dL_law_870 ⟨Nat.le_of_ble_eq_true rfl, Nat.le_of_ble_eq_true rfl⟩) hS (fun q _ h => hFc q h) hFc (fun r92 u t H locs ht hvm hw hB hz1 hk1 hS => ?_)
  obtain ⟨hP, hD, hK⟩ := JOIN (wr := []) hP hD hK [0] [] [] rfl rfl (by decide) (by decide) rfl hk1 hFc ht hvm hB
  have hP : va_P (dC, dI) cls [(q64, .inr (15, [.ref q65, .int 0, .int (-1), .int 1, .ref q67, .ref q68, .ref q70, .ref q72, .ref q86]))] H := hP
  have hD : va_D A [(q64, .inr (15, [.ref q65, .int 0, .int (-1), .int 1, .ref q67, .ref q68, .ref q70, .ref q72, .ref q86]))] := hD
  have hK : va_K (dC, dI) cls [] s := hK
  refine W.widen (k := 370) (n := 122520) (Nat.le_of_ble_eq_true rfl) (Nat.le_of_ble_eq_true rfl) ?_
  obtain rfl : r92 = 1 := hw
  refine lv_iload hx hb dL_law_873 (lv_at hl 1 rfl) ?_
  refine lv_icmp_eq (tgt := 880) hx hb dL_law_875 (by decide) (fun _ => ?_) (fun c => absurd (by decide) c)
  refine lv_iload hx hb dL_law_880 (lv_at hl 1 rfl) ?_
  refine lv_if_ne (tgt := 897) hx hb dL_law_882 (by decide) (fun _ => ?_) (fun c => absurd c (by decide))
  refine lv_goto (tgt := 2818) hx hb dL_law_897 (by decide) ?_
  refine lv_iinc (v := 7) (lv' := [(4, .int 7), (6, .int 0), (5, .int 1), (3, .ref q87), (2, .ref q64), (1, .ref q1), (0, .ref b)]) hx hb dL_law_2818 hl (k := 2) rfl (by decide) (by decide) rfl (fun ls hl => ?_)
  refine lv_goto (tgt := 23) hx hb dL_law_2821 (by decide) ?_
  refine lv_iload hx hb dL_law_23 (lv_at hl 0 rfl) ?_
  refine lv_aload_n hx hb dL_law_25 rfl (lv_at hl 6 rfl) ?_
  refine va_slen hx hb hX hbl hbA hS dL_law_26 ?_
  refine lv_topC (y := 7) rfl ?_
  refine lv_bipush (v := 7) hx hb dL_law_27 (by decide) ?_
  refine lv_isub hx hb dL_law_29 ?_
  refine lv_topC (y := 0) (by decide) ?_
  refine lv_icmp_gt (tgt := 2824) hx hb dL_law_30 (by decide) (fun _ => ?_) (fun c => absurd (by decide) c)
  refine lv_iconst (v := 1) hx hb dL_law_2824 (by decide) ?_
  refine va_forget (fun q hq => hA2 _ (hS.2.2 q hq)) ?_
  refine W.widen (k := 600002) (n := 7302232) (Nat.le_of_ble_eq_true rfl) (Nat.le_of_ble_eq_true rfl) ?_
  exact lw_ret (d0 := s.drawn) (Drawn.sameBut.refl s.drawn lw_cs) hx hb hr hlocks dL_law_2825
set_option maxHeartbeats 4000000 in
set_option maxRecDepth 100000 in
theorem law_13 {zs : Nat × Nat} {p : Program} {e : Env} {s : State} {m : MethodId} {below : List Frame} {meth : Method} {c : Code} {l : Launch} {b : Nat} {xs : Nat → Int32} {dC : Nat → ClassId} {dI : Nat → Nat → Nat} {A : Nat → Prop} (C0 : lw_At p s m meth c b 7 xs) (hl9 : l.stackTraces = false) (hA : ∀ q, s.heap.size ≤ q → A q) (hA2 : ∀ q, A q → s.heap.size ≤ q) (hE : ENV zs A s s.heap) {H : Heap} {locs : List Loc} (q1 : Nat) (q2 : Nat) (q5 : Nat) (q14 : Nat) (q15 : Nat) (q16 : Nat) (q17 : Nat) (q29 : Nat) (q30 : Nat) (q31 : Nat) (q32 : Nat) (q33 : Nat) (q34 : Nat) (q35 : Nat) (q36 : Nat) (q37 : Nat) (q38 : Nat) (q39 : Nat) (q40 : Nat) (q51 : Nat) (q63 : Nat) (q64 : Nat) (q65 : Nat) (q67 : Nat) (q68 : Nat) (c69 : ClassId) (q70 : Nat) (q72 : Nat) (q86 : Nat) (q87 : Nat) (hP : va_P (dC, dI) cls [(q1, .inr (11, [.ref q2, .ref q5, .ref q14, .ref q15, .ref q16, .ref q17, .ref q51, .ref q63, .ref q29, .ref q40, .int (-1)])), (q29, .inr (2, [.int 0, .ref q30, .ref q31, .ref q32, .ref q33, .ref q34, .ref q35, .int 0, .ref q36, .ref q37, .ref q38, .int 0, .ref q39])), (q64, .inr (15, [.ref q65, .int 0, .int (-1), .int 0, .ref q67, .ref q68, .ref q70, .ref q72, .ref q86])), (q68, .inl (c69, 0, .inr (.inr (.inr (.inr (fun _ => none))))))] H) (hD : va_D A [(q1, .inr (11, [.ref q2, .ref q5, .ref q14, .ref q15, .ref q16, .ref q17, .ref q51, .ref q63, .ref q29, .ref q40, .int (-1)])), (q29, .inr (2, [.int 0, .ref q30, .ref q31, .ref q32, .ref q33, .ref q34, .ref q35, .int 0, .ref q36, .ref q37, .ref q38, .int 0, .ref q39])), (q64, .inr (15, [.ref q65, .int 0, .int (-1), .int 0, .ref q67, .ref q68, .ref q70, .ref q72, .ref q86])), (q68, .inl (c69, 0, .inr (.inr (.inr (.inr (fun _ => none))))))]) (hK : va_K (dC, dI) cls [(c69, .object RX14)] s) (hS : va_S A s.heap H locs) {ls : Array Slot} (hl : lv_has ls 9 [(4, .int 0), (3, .ref q87), (2, .ref q64), (1, .ref q1), (0, .ref b)])  : W p l e room_1 s m #[Value.ref b] below meth c H locs 369 122514 (lw_Z below #[Value.ref b] s) (F0 m 900 ls []) := by
  obtain ⟨hx, hb, hr, hml, hown, hts0, hX, hbl, hlocks, hgv⟩ := id C0
  have hts : ∀ w ∈ gw, w.before #[Value.ref b] s = true := fun w h => hts0 w (gw_tbl h)
  have hbA : ¬ A b := fun h => absurd (hA2 b h) (Nat.not_le.mpr hbl)
  refine lv_aload_n hx hb dL_law_900 rfl (lv_at hl 3 rfl) ?_
  refine lv_aload_n hx hb dL_law_901 rfl (lv_at hl 4 rfl) ?_
  refine lv_iload hx hb dL_law_902 (lv_at hl 0 rfl) ?_
  refine lv_iconst (v := 1) hx hb dL_law_904 (by decide) ?_
  refine lv_iadd hx hb dL_law_905 ?_
  refine lv_topC (y := 1) (by decide) ?_
  refine va_sld hx hb hX hbl hbA hS (by unfold vp_in; decide +kernel) dL_law_906 ?_
  refine lv_topC (y := xs 1) rfl ?_
  refine lv_aload_n hx hb dL_law_907 rfl (lv_at hl 4 rfl) ?_
  refine lv_iload hx hb dL_law_908 (lv_at hl 0 rfl) ?_
  refine lv_iconst (v := 2) hx hb dL_law_910 (by decide) ?_
  refine lv_iadd hx hb dL_law_911 ?_
  refine lv_topC (y := 2) (by decide) ?_
  refine va_sld hx hb hX hbl hbA hS (by unfold vp_in; decide +kernel) dL_law_912 ?_
  refine lv_topC (y := xs 2) rfl ?_
  refine lv_aload_n hx hb dL_law_913 rfl (lv_at hl 4 rfl) ?_
  refine lv_iload hx hb dL_law_914 (lv_at hl 0 rfl) ?_
  refine lv_iconst (v := 3) hx hb dL_law_916 (by decide) ?_
  refine lv_iadd hx hb dL_law_917 ?_
  refine lv_topC (y := 3) (by decide) ?_
  refine va_sld hx hb hX hbl hbA hS (by unfold vp_in; decide +kernel) dL_law_918 ?_
  refine lv_topC (y := xs 3) rfl ?_
  refine lv_aload_n hx hb dL_law_919 rfl (lv_at hl 1 rfl) ?_
  have hPc := hP.sub (ws' := [(q1, .inr (11, [.ref q2, .ref q5, .ref q14, .ref q15, .ref q16, .ref q17, .ref q51, .ref q63, .ref q29, .ref q40, .int (-1)])), (q29, .inr (2, [.int 0, .ref q30, .ref q31, .ref q32, .ref q33, .ref q34, .ref q35, .int 0, .ref q36, .ref q37, .ref q38, .int 0, .ref q39]))]) [0, 1] rfl
  have hDc := hD.sub (ws' := [(q1, .inr (11, [.ref q2, .ref q5, .ref q14, .ref q15, .ref q16, .ref q17, .ref q51, .ref q63, .ref q29, .ref q40, .int (-1)])), (q29, .inr (2, [.int 0, .ref q30, .ref q31, .ref q32, .ref q33, .ref q34, .ref q35, .int 0, .ref q36, .ref q37, .ref q38, .int 0, .ref q39]))]) [0, 1] (by decide) rfl
  have hKc := hK.sub (tys' := []) [] rfl
  have hFc := va_free (wc := [(q1, .inr (11, [.ref q2, .ref q5, .ref q14, .ref q15, .ref q16, .ref q17, .ref q51, .ref q63, .ref q29, .ref q40, .int (-1)])), (q29, .inr (2, [.int 0, .ref q30, .ref q31, .ref q32, .ref q33, .ref q34, .ref q35, .int 0, .ref q36, .ref q37, .ref q38, .int 0, .ref q39]))]) hD hS hA [0, 1] rfl
  refine va_calli (vx_runSW (As := [.ref q1, .int (xs 1), .int (xs 2), .int (xs 3), .ref q87]) (rest := []) ⟨hx, hb, hml, hown, hts⟩ (kL_predecessor l dC dI (gx := q1) (gq1 := q2) (gq4 := q5) (gq13 := q14) (gq136 := q15) (gq137 := q16) (gq138 := q17) (gq150 := q29) (gq151 := q30) (gq152 := q31) (gq153 := q32) (gq154 := q33) (gq155 := q34) (gq156 := q35) (gq157 := q36) (gq158 := q37) (gq159 := q38) (gq160 := q39) (gq161 := q40) (gq172 := q51) (gq184 := q63) (go := q87) (p0 := (xs 1)) (p1 := (xs 2)) (p2 := (xs 3)) (sz := _) (hl9 := hl9)) (vx_cwSW 5 hts (gi_S qw756 qw757 qw658 (gi_h qw755)) rfl rfl rfl (by decide +kernel) ⟨Nat.le_of_ble_eq_true rfl, Nat.le_of_ble_eq_true rfl⟩) ⟨PRE.blind, PRE.of hE hS hFc hPc hKc hDc⟩ rfl rfl hl.1 rfl (lv_room (Nat.le_of_ble_eq_true rfl)) dL_law_920 ⟨Nat.le_of_ble_eq_true rfl, Nat.le_of_ble_eq_true rfl⟩) hS (fun q _ h => hFc q h) hFc (fun r90 u t H locs ht hvm hw hB hz1 hk1 hS => ?_)
  obtain ⟨hP, hD, hK⟩ := JOIN (wr := [(q64, .inr (15, [.ref q65, .int 0, .int (-1), .int 0, .ref q67, .ref q68, .ref q70, .ref q72, .ref q86])), (q68, .inl (c69, 0, .inr (.inr (.inr (.inr (fun _ => none))))))]) hP hD hK [0, 1] [2, 3] [0] rfl rfl (by decide) (by decide) rfl hk1 hFc ht hvm hB
  have hP : va_P (dC, dI) cls [(q64, .inr (15, [.ref q65, .int 0, .int (-1), .int 0, .ref q67, .ref q68, .ref q70, .ref q72, .ref q86])), (q68, .inl (c69, 0, .inr (.inr (.inr (.inr (fun _ => none))))))] H := hP
  have hD : va_D A [(q64, .inr (15, [.ref q65, .int 0, .int (-1), .int 0, .ref q67, .ref q68, .ref q70, .ref q72, .ref q86])), (q68, .inl (c69, 0, .inr (.inr (.inr (.inr (fun _ => none))))))] := hD
  have hK : va_K (dC, dI) cls [(c69, .object RX14)] s := hK
  refine W.widen (k := 370) (n := 122520) (Nat.le_of_ble_eq_true rfl) (Nat.le_of_ble_eq_true rfl) ?_
  obtain rfl : r90 = 1 := hw
  refine lv_istore (lv' := [(5, .int 1), (4, .int 0), (3, .ref q87), (2, .ref q64), (1, .ref q1), (0, .ref b)]) hx hb dL_law_923 hl (by decide) rfl (fun ls hl => ?_)
  refine lv_aload_n hx hb dL_law_925 rfl (lv_at hl 3 rfl) ?_
  refine lv_aload_n hx hb dL_law_926 rfl (lv_at hl 5 rfl) ?_
  refine lv_iload hx hb dL_law_927 (lv_at hl 1 rfl) ?_
  refine lv_iconst (v := 1) hx hb dL_law_929 (by decide) ?_
  refine lv_iadd hx hb dL_law_930 ?_
  refine lv_topC (y := 1) (by decide) ?_
  refine va_sld hx hb hX hbl hbA hS (by unfold vp_in; decide +kernel) dL_law_931 ?_
  refine lv_topC (y := xs 1) rfl ?_
  refine lv_aload_n hx hb dL_law_932 rfl (lv_at hl 5 rfl) ?_
  refine lv_iload hx hb dL_law_933 (lv_at hl 1 rfl) ?_
  refine lv_iconst (v := 2) hx hb dL_law_935 (by decide) ?_
  refine lv_iadd hx hb dL_law_936 ?_
  refine lv_topC (y := 2) (by decide) ?_
  refine va_sld hx hb hX hbl hbA hS (by unfold vp_in; decide +kernel) dL_law_937 ?_
  refine lv_topC (y := xs 2) rfl ?_
  refine lv_aload_n hx hb dL_law_938 rfl (lv_at hl 5 rfl) ?_
  refine lv_iload hx hb dL_law_939 (lv_at hl 1 rfl) ?_
  refine lv_iconst (v := 3) hx hb dL_law_941 (by decide) ?_
  refine lv_iadd hx hb dL_law_942 ?_
  refine lv_topC (y := 3) (by decide) ?_
  refine va_sld hx hb hX hbl hbA hS (by unfold vp_in; decide +kernel) dL_law_943 ?_
  refine lv_topC (y := xs 3) rfl ?_
  have hPc := hP.sub (ws' := [(q64, .inr (15, [.ref q65, .int 0, .int (-1), .int 0, .ref q67, .ref q68, .ref q70, .ref q72, .ref q86])), (q68, .inl (c69, 0, .inr (.inr (.inr (.inr (fun _ => none))))))]) [0, 1] rfl
  have hDc := hD.sub (ws' := [(q64, .inr (15, [.ref q65, .int 0, .int (-1), .int 0, .ref q67, .ref q68, .ref q70, .ref q72, .ref q86])), (q68, .inl (c69, 0, .inr (.inr (.inr (.inr (fun _ => none))))))]) [0, 1] (by decide) rfl
  have hKc := hK.sub (tys' := [(c69, .object RX14)]) [0] rfl
  have hFc := va_free (wc := [(q64, .inr (15, [.ref q65, .int 0, .int (-1), .int 0, .ref q67, .ref q68, .ref q70, .ref q72, .ref q86])), (q68, .inl (c69, 0, .inr (.inr (.inr (.inr (fun _ => none))))))]) hD hS hA [0, 1] rfl
  refine va_calli (va_runV (As := [.int (xs 1), .int (xs 2), .int (xs 3)]) (rest := []) ⟨hx, hb, hml, hown, hts⟩ (kX24_predecessor l dC dI (mx := q64) (mq1 := q65) (mq3 := q67) (mq4 := q68) (mc5 := c69) (mq6 := q70) (mq8 := q72) (mq22 := q86) (p0 := (xs 1)) (p1 := (xs 2)) (p2 := (xs 3)) (sz := _)) (cwV 3 hts (gi_V qw759 qw760 qw761 qw434 (gi_z qw758)) rfl rfl rfl (by decide +kernel) ⟨Nat.le_of_ble_eq_true rfl, Nat.le_of_ble_eq_true rfl⟩) ⟨PRE.blind, va_recv hKc hPc (ci := 15) (q0 := 0) rfl rfl, PRE.of hE hS hFc hPc hKc hDc⟩ rfl rfl hl.1 rfl (lv_room (Nat.le_of_ble_eq_true rfl)) dL_law_944 ⟨Nat.le_of_ble_eq_true rfl, Nat.le_of_ble_eq_true rfl⟩) hS (fun q _ h => hFc q h) hFc (fun r91 u t H locs ht hvm hw hB hz1 hk1 hS => ?_)
  obtain ⟨hP, hD, hK⟩ := JOIN (wr := []) hP hD hK [0, 1] [] [] rfl rfl (by decide) (by decide) rfl hk1 hFc ht hvm hB
  have hP : va_P (dC, dI) cls [(q64, .inr (15, [.ref q65, .int 0, .int (-1), .int 1, .ref q67, .ref q68, .ref q70, .ref q72, .ref q86]))] H := hP
  have hD : va_D A [(q64, .inr (15, [.ref q65, .int 0, .int (-1), .int 1, .ref q67, .ref q68, .ref q70, .ref q72, .ref q86]))] := hD
  have hK : va_K (dC, dI) cls [] s := hK
  refine W.widen (k := 370) (n := 122520) (Nat.le_of_ble_eq_true rfl) (Nat.le_of_ble_eq_true rfl) ?_
  obtain rfl : r91 = 0 := hw
  refine lv_istore (lv' := [(6, .int 0), (5, .int 1), (4, .int 0), (3, .ref q87), (2, .ref q64), (1, .ref q1), (0, .ref b)]) hx hb dL_law_947 hl (by decide) rfl (fun ls hl => ?_)
  refine lv_aload_n hx hb dL_law_949 rfl (lv_at hl 4 rfl) ?_
  have hPc := hP.sub (ws' := [(q64, .inr (15, [.ref q65, .int 0, .int (-1), .int 1, .ref q67, .ref q68, .ref q70, .ref q72, .ref q86]))]) [0] rfl
  have hDc := hD.sub (ws' := [(q64, .inr (15, [.ref q65, .int 0, .int (-1), .int 1, .ref q67, .ref q68, .ref q70, .ref q72, .ref q86]))]) [0] (by decide) rfl
  have hKc := hK.sub (tys' := []) [] rfl
  have hFc := va_free (wc := [(q64, .inr (15, [.ref q65, .int 0, .int (-1), .int 1, .ref q67, .ref q68, .ref q70, .ref q72, .ref q86]))]) hD hS hA [0] rfl
  refine va_calli (va_runV (As := []) (rest := []) ⟨hx, hb, hml, hown, hts⟩ (kX24_thrown_n64 l dC dI (a0 := q64) (a60 := q65) (a62 := q68) (a64 := q70) (a66 := q72) (a82 := q67) (a83 := q86) (sz := _)) (cwV 0 hts (gi_V qw664 qw665 qw666 qw434 (gi_z qw663)) rfl rfl rfl (by decide +kernel) ⟨Nat.le_of_ble_eq_true rfl, Nat.le_of_ble_eq_true rfl⟩) ⟨PRE.blind, va_recv hKc hPc (ci := 15) (q0 := 0) rfl rfl, PRE.of hE hS hFc hPc hKc hDc⟩ rfl rfl hl.1 rfl (lv_room (Nat.le_of_ble_eq_true rfl)) dL_law_950 ⟨Nat.le_of_ble_eq_true rfl, Nat.le_of_ble_eq_true rfl⟩) hS (fun q _ h => hFc q h) hFc (fun r92 u t H locs ht hvm hw hB hz1 hk1 hS => ?_)
  obtain ⟨hP, hD, hK⟩ := JOIN (wr := []) hP hD hK [0] [] [] rfl rfl (by decide) (by decide) rfl hk1 hFc ht hvm hB
  have hP : va_P (dC, dI) cls [(q64, .inr (15, [.ref q65, .int 0, .int (-1), .int 1, .ref q67, .ref q68, .ref q70, .ref q72, .ref q86]))] H := hP
  have hD : va_D A [(q64, .inr (15, [.ref q65, .int 0, .int (-1), .int 1, .ref q67, .ref q68, .ref q70, .ref q72, .ref q86]))] := hD
  have hK : va_K (dC, dI) cls [] s := hK
  refine W.widen (k := 370) (n := 122520) (Nat.le_of_ble_eq_true rfl) (Nat.le_of_ble_eq_true rfl) ?_
  obtain rfl : r92 = 1 := hw
  refine lv_iload hx hb dL_law_953 (lv_at hl 1 rfl) ?_
  refine lv_icmp_eq (tgt := 960) hx hb dL_law_955 (by decide) (fun _ => ?_) (fun c => absurd (by decide) c)
  refine lv_iload hx hb dL_law_960 (lv_at hl 1 rfl) ?_
  refine lv_if_ne (tgt := 977) hx hb dL_law_962 (by decide) (fun _ => ?_) (fun c => absurd c (by decide))
  refine lv_goto (tgt := 2818) hx hb dL_law_977 (by decide) ?_
  refine lv_iinc (v := 7) (lv' := [(4, .int 7), (6, .int 0), (5, .int 1), (3, .ref q87), (2, .ref q64), (1, .ref q1), (0, .ref b)]) hx hb dL_law_2818 hl (k := 2) rfl (by decide) (by decide) rfl (fun ls hl => ?_)
  refine lv_goto (tgt := 23) hx hb dL_law_2821 (by decide) ?_
  refine lv_iload hx hb dL_law_23 (lv_at hl 0 rfl) ?_
  refine lv_aload_n hx hb dL_law_25 rfl (lv_at hl 6 rfl) ?_
  refine va_slen hx hb hX hbl hbA hS dL_law_26 ?_
  refine lv_topC (y := 7) rfl ?_
  refine lv_bipush (v := 7) hx hb dL_law_27 (by decide) ?_
  refine lv_isub hx hb dL_law_29 ?_
  refine lv_topC (y := 0) (by decide) ?_
  refine lv_icmp_gt (tgt := 2824) hx hb dL_law_30 (by decide) (fun _ => ?_) (fun c => absurd (by decide) c)
  refine lv_iconst (v := 1) hx hb dL_law_2824 (by decide) ?_
  refine va_forget (fun q hq => hA2 _ (hS.2.2 q hq)) ?_
  refine W.widen (k := 600002) (n := 7302232) (Nat.le_of_ble_eq_true rfl) (Nat.le_of_ble_eq_true rfl) ?_
  exact lw_ret (d0 := s.drawn) (Drawn.sameBut.refl s.drawn lw_cs) hx hb hr hlocks dL_law_2825
