theorem dL_law_726 : decode cL_law 726 = .ok (.invokevirtual 106, 3) := by decide +kernel
theorem dL_law_729 : decode cL_law 729 = .ok (.aload_n 2, 1) := by decide +kernel
theorem dL_law_730 : decode cL_law 730 = .ok (.aload_n 0, 1) := by decide +kernel
theorem dL_law_731 : decode cL_law 731 = .ok (.iload_n 3, 1) := by decide +kernel
theorem dL_law_732 : decode cL_law 732 = .ok (.iconst 1, 1) := by decide +kernel
theorem dL_law_733 : decode cL_law 733 = .ok (.iadd, 1) := by decide +kernel
theorem dL_law_734 : decode cL_law 734 = .ok (.iaload, 1) := by decide +kernel
theorem dL_law_735 : decode cL_law 735 = .ok (.invokevirtual 109, 3) := by decide +kernel
theorem dL_law_738 : decode cL_law 738 = .ok (.if_icmp .eq 19, 3) := by decide +kernel
theorem dL_law_741 : decode cL_law 741 = .ok (.iconst 0, 1) := by decide +kernel
theorem dL_law_742 : decode cL_law 742 = .ok (.ireturn, 1) := by decide +kernel
theorem dL_law_743 : decode cL_law 743 = .ok (.aload_n 1, 1) := by decide +kernel
theorem dL_law_744 : decode cL_law 744 = .ok (.invokevirtual 110, 3) := by decide +kernel
theorem dL_law_747 : decode cL_law 747 = .ok (.aload_n 2, 1) := by decide +kernel
theorem dL_law_748 : decode cL_law 748 = .ok (.invokevirtual 114, 3) := by decide +kernel
theorem dL_law_751 : decode cL_law 751 = .ok (.lcmp, 1) := by decide +kernel
theorem dL_law_752 : decode cL_law 752 = .ok (.ifCond .eq 5, 3) := by decide +kernel
theorem dL_law_755 : decode cL_law 755 = .ok (.iconst 0, 1) := by decide +kernel
theorem dL_law_756 : decode cL_law 756 = .ok (.ireturn, 1) := by decide +kernel
theorem dL_law_757 : decode cL_law 757 = .ok (.iinc 3 5, 3) := by decide +kernel
theorem dL_law_760 : decode cL_law 760 = .ok (.goto (-742), 3) := by decide +kernel
theorem dL_law_763 : decode cL_law 763 = .ok (.iconst 1, 1) := by decide +kernel
theorem dL_law_764 : decode cL_law 764 = .ok (.ireturn, 1) := by decide +kernel
