theorem lL_13 : gMV RL 13 yX10_set RX10 cX10_set 4 (some .int) 2 := ⟨gmem 312 (by decide +kernel) rfl, gmem 313 (by decide +kernel) rfl, gmem 314 (by decide +kernel) rfl, gmem 44 (by decide +kernel) rfl, gmem 315 (by decide +kernel) rfl, ⟨by decide, by decide, by decide +kernel⟩⟩
theorem lL_17 : gMV RL 17 yX11_set RX11 cX11_set 4 (some .int) 2 := ⟨gmem 816 (by decide +kernel) rfl, gmem 817 (by decide +kernel) rfl, gmem 818 (by decide +kernel) rfl, gmem 55 (by decide +kernel) rfl, gmem 819 (by decide +kernel) rfl, ⟨by decide, by decide, by decide +kernel⟩⟩
theorem lL_18 : gMV RL 18 yX10_lay RX10 cX10_lay 5 (some .int) 4 := ⟨gmem 369 (by decide +kernel) rfl, gmem 370 (by decide +kernel) rfl, gmem 371 (by decide +kernel) rfl, gmem 44 (by decide +kernel) rfl, gmem 372 (by decide +kernel) rfl, ⟨by decide, by decide, by decide +kernel⟩⟩
theorem lL_22 : gMV RL 22 yX11_lay RX11 cX11_lay 6 (some .int) 4 := ⟨gmem 820 (by decide +kernel) rfl, gmem 821 (by decide +kernel) rfl, gmem 822 (by decide +kernel) rfl, gmem 55 (by decide +kernel) rfl, gmem 823 (by decide +kernel) rfl, ⟨by decide, by decide, by decide +kernel⟩⟩
theorem lL_23 : gMV RL 23 yX10_read RX10 cX10_read 1 (some .int) 0 := ⟨gmem 383 (by decide +kernel) rfl, gmem 384 (by decide +kernel) rfl, gmem 385 (by decide +kernel) rfl, gmem 44 (by decide +kernel) rfl, gmem 386 (by decide +kernel) rfl, ⟨by decide, by decide, by decide +kernel⟩⟩
theorem lL_27 : gMV RL 27 yX11_read RX11 cX11_read 2 (some .int) 0 := ⟨gmem 1040 (by decide +kernel) rfl, gmem 1041 (by decide +kernel) rfl, gmem 1042 (by decide +kernel) rfl, gmem 55 (by decide +kernel) rfl, gmem 1043 (by decide +kernel) rfl, ⟨by decide, by decide, by decide +kernel⟩⟩
theorem lL_28 : gMV RL 28 yX10_takeUp RX10 cX10_takeUp 2 (some .int) 1 := ⟨gmem 409 (by decide +kernel) rfl, gmem 410 (by decide +kernel) rfl, gmem 411 (by decide +kernel) rfl, gmem 44 (by decide +kernel) rfl, gmem 412 (by decide +kernel) rfl, ⟨by decide, by decide, by decide +kernel⟩⟩
theorem lL_32 : gMV RL 32 yX11_takeUp RX11 cX11_takeUp 5 (some .int) 1 := ⟨gmem 835 (by decide +kernel) rfl, gmem 836 (by decide +kernel) rfl, gmem 837 (by decide +kernel) rfl, gmem 55 (by decide +kernel) rfl, gmem 838 (by decide +kernel) rfl, ⟨by decide, by decide, by decide +kernel⟩⟩
theorem lL_33 : gMV RL 33 yX10_sleeper RX10 cX10_sleeper 3 (some .int) 2 := ⟨gmem 433 (by decide +kernel) rfl, gmem 434 (by decide +kernel) rfl, gmem 435 (by decide +kernel) rfl, gmem 44 (by decide +kernel) rfl, gmem 436 (by decide +kernel) rfl, ⟨by decide, by decide, by decide +kernel⟩⟩
theorem lL_36 : gMV RL 36 yX11_sleeper RX11 cX11_sleeper 4 (some .int) 2 := ⟨gmem 884 (by decide +kernel) rfl, gmem 885 (by decide +kernel) rfl, gmem 886 (by decide +kernel) rfl, gmem 55 (by decide +kernel) rfl, gmem 887 (by decide +kernel) rfl, ⟨by decide, by decide, by decide +kernel⟩⟩
theorem lL_37 : gMV RL 37 yX10_put RX10 cX10_put 4 (some .int) 2 := ⟨gmem 442 (by decide +kernel) rfl, gmem 443 (by decide +kernel) rfl, gmem 444 (by decide +kernel) rfl, gmem 44 (by decide +kernel) rfl, gmem 445 (by decide +kernel) rfl, ⟨by decide, by decide, by decide +kernel⟩⟩
theorem lL_40 : gMV RL 40 yX11_put RX11 cX11_put 4 (some .int) 2 := ⟨gmem 897 (by decide +kernel) rfl, gmem 898 (by decide +kernel) rfl, gmem 899 (by decide +kernel) rfl, gmem 55 (by decide +kernel) rfl, gmem 900 (by decide +kernel) rfl, ⟨by decide, by decide, by decide +kernel⟩⟩
theorem lL_41 : gMV RL 41 yX10_glide RX10 cX10_glide 3 (some .int) 2 := ⟨gmem 449 (by decide +kernel) rfl, gmem 450 (by decide +kernel) rfl, gmem 451 (by decide +kernel) rfl, gmem 44 (by decide +kernel) rfl, gmem 452 (by decide +kernel) rfl, ⟨by decide, by decide, by decide +kernel⟩⟩
theorem lL_44 : gMV RL 44 yX11_glide RX11 cX11_glide 3 (some .int) 2 := ⟨gmem 908 (by decide +kernel) rfl, gmem 909 (by decide +kernel) rfl, gmem 910 (by decide +kernel) rfl, gmem 55 (by decide +kernel) rfl, gmem 911 (by decide +kernel) rfl, ⟨by decide, by decide, by decide +kernel⟩⟩
theorem lL_45 : gMV RL 45 yX10_go RX10 cX10_go 5 (some .int) 2 := ⟨gmem 543 (by decide +kernel) rfl, gmem 544 (by decide +kernel) rfl, gmem 545 (by decide +kernel) rfl, gmem 44 (by decide +kernel) rfl, gmem 546 (by decide +kernel) rfl, ⟨by decide, by decide, by decide +kernel⟩⟩
theorem lL_48 : gMV RL 48 yX11_go RX11 cX11_go 5 (some .int) 2 := ⟨gmem 952 (by decide +kernel) rfl, gmem 953 (by decide +kernel) rfl, gmem 954 (by decide +kernel) rfl, gmem 55 (by decide +kernel) rfl, gmem 955 (by decide +kernel) rfl, ⟨by decide, by decide, by decide +kernel⟩⟩
theorem lL_49 : gMV RL 49 yX10_pass RX10 cX10_pass 2 (some .int) 1 := ⟨gmem 578 (by decide +kernel) rfl, gmem 579 (by decide +kernel) rfl, gmem 580 (by decide +kernel) rfl, gmem 44 (by decide +kernel) rfl, gmem 581 (by decide +kernel) rfl, ⟨by decide, by decide, by decide +kernel⟩⟩
theorem lL_52 : gMV RL 52 yX11_pass RX11 cX11_pass 2 (some .int) 1 := ⟨gmem 888 (by decide +kernel) rfl, gmem 889 (by decide +kernel) rfl, gmem 890 (by decide +kernel) rfl, gmem 55 (by decide +kernel) rfl, gmem 891 (by decide +kernel) rfl, ⟨by decide, by decide, by decide +kernel⟩⟩
theorem lL_53 : gMV RL 53 yX10_board RX10 cX10_board 3 (some .int) 2 := ⟨gmem 584 (by decide +kernel) rfl, gmem 585 (by decide +kernel) rfl, gmem 586 (by decide +kernel) rfl, gmem 44 (by decide +kernel) rfl, gmem 587 (by decide +kernel) rfl, ⟨by decide, by decide, by decide +kernel⟩⟩
theorem lL_56 : gMV RL 56 yX11_board RX11 cX11_board 3 (some .int) 2 := ⟨gmem 992 (by decide +kernel) rfl, gmem 993 (by decide +kernel) rfl, gmem 994 (by decide +kernel) rfl, gmem 55 (by decide +kernel) rfl, gmem 995 (by decide +kernel) rfl, ⟨by decide, by decide, by decide +kernel⟩⟩
theorem lL_57 : gMV RL 57 yX10_ghost RX10 cX10_ghost 3 (some .int) 2 := ⟨gmem 598 (by decide +kernel) rfl, gmem 599 (by decide +kernel) rfl, gmem 600 (by decide +kernel) rfl, gmem 44 (by decide +kernel) rfl, gmem 601 (by decide +kernel) rfl, ⟨by decide, by decide, by decide +kernel⟩⟩
theorem lL_60 : gMV RL 60 yX11_ghost RX11 cX11_ghost 5 (some .int) 2 := ⟨gmem 1000 (by decide +kernel) rfl, gmem 1001 (by decide +kernel) rfl, gmem 1002 (by decide +kernel) rfl, gmem 55 (by decide +kernel) rfl, gmem 1003 (by decide +kernel) rfl, ⟨by decide, by decide, by decide +kernel⟩⟩
theorem lL_61 : gMV RL 61 yX10_sleeperOf RX10 cX10_sleeperOf 3 (some .int) 2 := ⟨gmem 606 (by decide +kernel) rfl, gmem 607 (by decide +kernel) rfl, gmem 608 (by decide +kernel) rfl, gmem 44 (by decide +kernel) rfl, gmem 609 (by decide +kernel) rfl, ⟨by decide, by decide, by decide +kernel⟩⟩
theorem lL_64 : gMV RL 64 yX11_sleeperOf RX11 cX11_sleeperOf 5 (some .int) 2 := ⟨gmem 1004 (by decide +kernel) rfl, gmem 1005 (by decide +kernel) rfl, gmem 1006 (by decide +kernel) rfl, gmem 55 (by decide +kernel) rfl, gmem 1007 (by decide +kernel) rfl, ⟨by decide, by decide, by decide +kernel⟩⟩
theorem lL_65 : gMV RL 65 yX10_loudness RX10 cX10_loudness 3 (some .int) 2 := ⟨gmem 619 (by decide +kernel) rfl, gmem 620 (by decide +kernel) rfl, gmem 621 (by decide +kernel) rfl, gmem 44 (by decide +kernel) rfl, gmem 622 (by decide +kernel) rfl, ⟨by decide, by decide, by decide +kernel⟩⟩
theorem lL_68 : gMV RL 68 yX11_loudness RX11 cX11_loudness 3 (some .int) 2 := ⟨gmem 868 (by decide +kernel) rfl, gmem 869 (by decide +kernel) rfl, gmem 870 (by decide +kernel) rfl, gmem 55 (by decide +kernel) rfl, gmem 871 (by decide +kernel) rfl, ⟨by decide, by decide, by decide +kernel⟩⟩
theorem lL_69 : gMV RL 69 yX10_far RX10 cX10_far 3 (some .int) 2 := ⟨gmem 624 (by decide +kernel) rfl, gmem 625 (by decide +kernel) rfl, gmem 626 (by decide +kernel) rfl, gmem 44 (by decide +kernel) rfl, gmem 627 (by decide +kernel) rfl, ⟨by decide, by decide, by decide +kernel⟩⟩
theorem lL_72 : gMV RL 72 yX11_far RX11 cX11_far 3 (some .int) 2 := ⟨gmem 847 (by decide +kernel) rfl, gmem 848 (by decide +kernel) rfl, gmem 849 (by decide +kernel) rfl, gmem 55 (by decide +kernel) rfl, gmem 850 (by decide +kernel) rfl, ⟨by decide, by decide, by decide +kernel⟩⟩
theorem lL_73 : gMV RL 73 yX10_count RX10 cX10_count 2 (some .int) 1 := ⟨gmem 629 (by decide +kernel) rfl, gmem 630 (by decide +kernel) rfl, gmem 631 (by decide +kernel) rfl, gmem 44 (by decide +kernel) rfl, gmem 632 (by decide +kernel) rfl, ⟨by decide, by decide, by decide +kernel⟩⟩
theorem lL_76 : gMV RL 76 yX11_count RX11 cX11_count 2 (some .int) 1 := ⟨gmem 1008 (by decide +kernel) rfl, gmem 1009 (by decide +kernel) rfl, gmem 1010 (by decide +kernel) rfl, gmem 55 (by decide +kernel) rfl, gmem 1011 (by decide +kernel) rfl, ⟨by decide, by decide, by decide +kernel⟩⟩
theorem lL_77 : gMV RL 77 yX10_soonest RX10 cX10_soonest 4 (some .int) 3 := ⟨gmem 642 (by decide +kernel) rfl, gmem 643 (by decide +kernel) rfl, gmem 644 (by decide +kernel) rfl, gmem 44 (by decide +kernel) rfl, gmem 645 (by decide +kernel) rfl, ⟨by decide, by decide, by decide +kernel⟩⟩
theorem lL_81 : gMV RL 81 yX11_soonest RX11 cX11_soonest 4 (some .int) 3 := ⟨gmem 940 (by decide +kernel) rfl, gmem 941 (by decide +kernel) rfl, gmem 942 (by decide +kernel) rfl, gmem 55 (by decide +kernel) rfl, gmem 943 (by decide +kernel) rfl, ⟨by decide, by decide, by decide +kernel⟩⟩
theorem lL_82 : gMV RL 82 yX10_quietest RX10 cX10_quietest 6 (some .int) 2 := ⟨gmem 646 (by decide +kernel) rfl, gmem 647 (by decide +kernel) rfl, gmem 648 (by decide +kernel) rfl, gmem 44 (by decide +kernel) rfl, gmem 649 (by decide +kernel) rfl, ⟨by decide, by decide, by decide +kernel⟩⟩
theorem lL_85 : gMV RL 85 yX11_quietest RX11 cX11_quietest 7 (some .int) 2 := ⟨gmem 956 (by decide +kernel) rfl, gmem 957 (by decide +kernel) rfl, gmem 958 (by decide +kernel) rfl, gmem 55 (by decide +kernel) rfl, gmem 959 (by decide +kernel) rfl, ⟨by decide, by decide, by decide +kernel⟩⟩
theorem lL_86 : gMV RL 86 yX10_reason RX10 cX10_reason 2 (some .int) 1 := ⟨gmem 654 (by decide +kernel) rfl, gmem 655 (by decide +kernel) rfl, gmem 656 (by decide +kernel) rfl, gmem 44 (by decide +kernel) rfl, gmem 657 (by decide +kernel) rfl, ⟨by decide, by decide, by decide +kernel⟩⟩
theorem lL_89 : gMV RL 89 yX11_reason RX11 cX11_reason 2 (some .int) 1 := ⟨gmem 964 (by decide +kernel) rfl, gmem 965 (by decide +kernel) rfl, gmem 966 (by decide +kernel) rfl, gmem 55 (by decide +kernel) rfl, gmem 967 (by decide +kernel) rfl, ⟨by decide, by decide, by decide +kernel⟩⟩
theorem lL_90 : gMV RL 90 yX10_trail RX10 cX10_trail 5 (some .int) 2 := ⟨gmem 671 (by decide +kernel) rfl, gmem 672 (by decide +kernel) rfl, gmem 673 (by decide +kernel) rfl, gmem 44 (by decide +kernel) rfl, gmem 674 (by decide +kernel) rfl, ⟨by decide, by decide, by decide +kernel⟩⟩
theorem lL_93 : gMV RL 93 yX11_trail RX11 cX11_trail 9 (some .int) 2 := ⟨gmem 980 (by decide +kernel) rfl, gmem 981 (by decide +kernel) rfl, gmem 982 (by decide +kernel) rfl, gmem 55 (by decide +kernel) rfl, gmem 983 (by decide +kernel) rfl, ⟨by decide, by decide, by decide +kernel⟩⟩
theorem lL_94 : gMV RL 94 yX10_worstGap RX10 cX10_worstGap 6 (some .int) 1 := ⟨gmem 684 (by decide +kernel) rfl, gmem 685 (by decide +kernel) rfl, gmem 686 (by decide +kernel) rfl, gmem 44 (by decide +kernel) rfl, gmem 687 (by decide +kernel) rfl, ⟨by decide, by decide, by decide +kernel⟩⟩
theorem lL_97 : gMV RL 97 yX11_worstGap RX11 cX11_worstGap 7 (some .int) 1 := ⟨gmem 984 (by decide +kernel) rfl, gmem 985 (by decide +kernel) rfl, gmem 986 (by decide +kernel) rfl, gmem 55 (by decide +kernel) rfl, gmem 987 (by decide +kernel) rfl, ⟨by decide, by decide, by decide +kernel⟩⟩
theorem lL_100 : gMV RL 100 yX10_write RX10 cX10_write 4 (some .int) 1 := ⟨gmem 694 (by decide +kernel) rfl, gmem 695 (by decide +kernel) rfl, gmem 696 (by decide +kernel) rfl, gmem 44 (by decide +kernel) rfl, gmem 697 (by decide +kernel) rfl, ⟨by decide, by decide, by decide +kernel⟩⟩
theorem lL_104 : gMV RL 104 yX11_write RX11 cX11_write 8 (some .int) 1 := ⟨gmem 1044 (by decide +kernel) rfl, gmem 1045 (by decide +kernel) rfl, gmem 1046 (by decide +kernel) rfl, gmem 55 (by decide +kernel) rfl, gmem 1047 (by decide +kernel) rfl, ⟨by decide, by decide, by decide +kernel⟩⟩
theorem lL_105 : gMV RL 105 yX10_wipe RX10 cX10_wipe 2 (some .int) 0 := ⟨gmem 710 (by decide +kernel) rfl, gmem 711 (by decide +kernel) rfl, gmem 712 (by decide +kernel) rfl, gmem 44 (by decide +kernel) rfl, gmem 713 (by decide +kernel) rfl, ⟨by decide, by decide, by decide +kernel⟩⟩
theorem lL_108 : gMV RL 108 yX11_wipe RX11 cX11_wipe 2 (some .int) 0 := ⟨gmem 1049 (by decide +kernel) rfl, gmem 1050 (by decide +kernel) rfl, gmem 1051 (by decide +kernel) rfl, gmem 55 (by decide +kernel) rfl, gmem 1052 (by decide +kernel) rfl, ⟨by decide, by decide, by decide +kernel⟩⟩
theorem lL_109 : gMV RL 109 yX10_fault RX10 cX10_fault 1 (some .int) 0 := ⟨gmem 714 (by decide +kernel) rfl, gmem 715 (by decide +kernel) rfl, gmem 716 (by decide +kernel) rfl, gmem 44 (by decide +kernel) rfl, gmem 717 (by decide +kernel) rfl, ⟨by decide, by decide, by decide +kernel⟩⟩
theorem lL_112 : gMV RL 112 yX11_fault RX11 cX11_fault 1 (some .int) 0 := ⟨gmem 1016 (by decide +kernel) rfl, gmem 1017 (by decide +kernel) rfl, gmem 1018 (by decide +kernel) rfl, gmem 55 (by decide +kernel) rfl, gmem 1019 (by decide +kernel) rfl, ⟨by decide, by decide, by decide +kernel⟩⟩
theorem lL_113 : gMV RL 113 yX10_undo RX10 cX10_undo 1 (some .int) 0 := ⟨gmem 718 (by decide +kernel) rfl, gmem 719 (by decide +kernel) rfl, gmem 720 (by decide +kernel) rfl, gmem 44 (by decide +kernel) rfl, gmem 721 (by decide +kernel) rfl, ⟨by decide, by decide, by decide +kernel⟩⟩
theorem lL_116 : gMV RL 116 yX11_undo RX11 cX11_undo 2 (some .int) 0 := ⟨gmem 797 (by decide +kernel) rfl, gmem 798 (by decide +kernel) rfl, gmem 799 (by decide +kernel) rfl, gmem 55 (by decide +kernel) rfl, gmem 800 (by decide +kernel) rfl, ⟨by decide, by decide, by decide +kernel⟩⟩
theorem lL_117 : gMV RL 117 yX10_save RX10 cX10_save 2 (some .int) 1 := ⟨gmem 730 (by decide +kernel) rfl, gmem 731 (by decide +kernel) rfl, gmem 732 (by decide +kernel) rfl, gmem 44 (by decide +kernel) rfl, gmem 733 (by decide +kernel) rfl, ⟨by decide, by decide, by decide +kernel⟩⟩
theorem lL_120 : gMV RL 120 yX11_save RX11 cX11_save 3 (some .int) 1 := ⟨gmem 801 (by decide +kernel) rfl, gmem 802 (by decide +kernel) rfl, gmem 803 (by decide +kernel) rfl, gmem 55 (by decide +kernel) rfl, gmem 804 (by decide +kernel) rfl, ⟨by decide, by decide, by decide +kernel⟩⟩
theorem lL_121 : gMV RL 121 yX10_restore RX10 cX10_restore 2 (some .int) 1 := ⟨gmem 738 (by decide +kernel) rfl, gmem 739 (by decide +kernel) rfl, gmem 740 (by decide +kernel) rfl, gmem 44 (by decide +kernel) rfl, gmem 741 (by decide +kernel) rfl, ⟨by decide, by decide, by decide +kernel⟩⟩
theorem lL_124 : gMV RL 124 yX11_restore RX11 cX11_restore 3 (some .int) 1 := ⟨gmem 808 (by decide +kernel) rfl, gmem 809 (by decide +kernel) rfl, gmem 810 (by decide +kernel) rfl, gmem 55 (by decide +kernel) rfl, gmem 811 (by decide +kernel) rfl, ⟨by decide, by decide, by decide +kernel⟩⟩
section LO
variable {p : Program} {l : Launch} {e : Env} {s : State} {m : MethodId} {args : Array Value} {below : List Frame} {meth : Method} {c : Code} {H : Heap} {locs : List Loc} {Q : State → Prop}
variable {ls : Array Slot} {G : gG} {o ab L i B : Nat} {xs : Nat → Int32} {x u : gS}
set_option maxHeartbeats 4000000 in
set_option maxRecDepth 100000 in
/-- call 0: set -/
theorem lo_0 (K : gK p s m args meth c G cL_law 4 RL (some .boolean)) (hX : va_X ab L xs s s.heap) (hbl : ab < s.heap.size) (hbo : ¬ cFr o ab) (hS : lSt G o s x u H locs) (hR : RR B x u) (hB1 : 99999 ≤ B) (hB2 : B + 1000 < 2 ^ 31) (hl : lv_has ls 4 [(0, .ref ab), (1, .ref (o + 0)), (2, .ref (o + 302 + 0)), (3, .int (nI i))]) (hi : i + 5 ≤ L) (hL : L ≤ 2560)
    (kk : ∀ (x1 u1 : gS) (H : Heap) (locs : List Loc), RR (B + 81) x1 u1 → lSt G o s x1 u1 H locs → W p l e room_1 s m args below meth c H locs 600000 7302250 Q (F0 m 910 ls [])) : W p l e room_1 s m args below meth c H locs 600000 7302250 Q (F0 m 152 ls []) := by
  obtain ⟨hx, hb, hml, hown, hts, -⟩ := id K
  refine lv_aload_n hx hb dL_law_152 rfl (lv_at hl 1 rfl) ?_
  refine l_arg (j := 1) K hX hbl hbo hS (lv_at hl 0 rfl) (lv_at hl 3 rfl) (by omega) hL dL_law_153 dL_law_154 dL_law_155 (by decide) dL_law_156 dL_law_157 ?_
  refine l_arg (j := 2) K hX hbl hbo hS (lv_at hl 0 rfl) (lv_at hl 3 rfl) (by omega) hL dL_law_158 dL_law_159 dL_law_160 (by decide) dL_law_161 dL_law_162 ?_
  obtain ⟨r, x1, u1, hfx, hfm, hR1⟩ : oOK (B + 81) (f_X10_set (xs (i + 1)) (xs (i + 2)) x) (f_X11_set (xs (i + 1)) (xs (i + 2)) u) := (o_set hR (xs (i + 1)) (xs (i + 2))).mo (Nat.le_add_right B 81)
  refine l_X (As := [.int (xs (i + 1)), .int (xs (i + 2))]) (rest := []) K hS lL_13 (c_X10_set (xs (i + 1)) (xs (i + 2)) x (r, x1) hfx) rfl rfl (Nat.le_of_ble_eq_true rfl) ⟨⟨Nat.le_of_ble_eq_true rfl, Nat.le_of_ble_eq_true rfl⟩, rfl, rfl⟩ hl.1 ⟨Nat.le_refl _, Nat.le_refl _⟩ dL_law_163 (fun H locs hS => ?_)
  refine lv_aload_n hx hb dL_law_166 rfl (lv_at hl 2 rfl) ?_
  refine l_arg (j := 1) K hX hbl hbo hS (lv_at hl 0 rfl) (lv_at hl 3 rfl) (by omega) hL dL_law_167 dL_law_168 dL_law_169 (by decide) dL_law_170 dL_law_171 ?_
  refine l_arg (j := 2) K hX hbl hbo hS (lv_at hl 0 rfl) (lv_at hl 3 rfl) (by omega) hL dL_law_172 dL_law_173 dL_law_174 (by decide) dL_law_175 dL_law_176 ?_
  refine l_M (As := [.int (xs (i + 1)), .int (xs (i + 2))]) (rest := [.int r]) K hS lL_17 (c_X11_set (xs (i + 1)) (xs (i + 2)) u (r, u1) hfm) rfl rfl (Nat.le_of_ble_eq_true rfl) ⟨⟨Nat.le_of_ble_eq_true rfl, Nat.le_of_ble_eq_true rfl⟩, rfl, rfl⟩ hl.1 ⟨Nat.le_refl _, Nat.le_refl _⟩ dL_law_177 (fun H locs hS => ?_)
  exact lv_icmp_eq (tgt := 910) hx hb dL_law_180 (by decide) (fun _ => kk x1 u1 H locs hR1 hS) (fun h => absurd rfl h)
set_option maxHeartbeats 4000000 in
set_option maxRecDepth 100000 in
/-- call 1: lay -/
theorem lo_1 (K : gK p s m args meth c G cL_law 4 RL (some .boolean)) (hX : va_X ab L xs s s.heap) (hbl : ab < s.heap.size) (hbo : ¬ cFr o ab) (hS : lSt G o s x u H locs) (hR : RR B x u) (hB1 : 99999 ≤ B) (hB2 : B + 1000 < 2 ^ 31) (hl : lv_has ls 4 [(0, .ref ab), (1, .ref (o + 0)), (2, .ref (o + 302 + 0)), (3, .int (nI i))]) (hi : i + 5 ≤ L) (hL : L ≤ 2560)
    (kk : ∀ (x1 u1 : gS) (H : Heap) (locs : List Loc), RR (B + 81) x1 u1 → lSt G o s x1 u1 H locs → W p l e room_1 s m args below meth c H locs 600000 7302250 Q (F0 m 910 ls [])) : W p l e room_1 s m args below meth c H locs 600000 7302250 Q (F0 m 185 ls []) := by
  obtain ⟨hx, hb, hml, hown, hts, -⟩ := id K
  refine lv_aload_n hx hb dL_law_185 rfl (lv_at hl 1 rfl) ?_
  refine l_arg (j := 1) K hX hbl hbo hS (lv_at hl 0 rfl) (lv_at hl 3 rfl) (by omega) hL dL_law_186 dL_law_187 dL_law_188 (by decide) dL_law_189 dL_law_190 ?_
  refine l_arg (j := 2) K hX hbl hbo hS (lv_at hl 0 rfl) (lv_at hl 3 rfl) (by omega) hL dL_law_191 dL_law_192 dL_law_193 (by decide) dL_law_194 dL_law_195 ?_
  refine l_arg (j := 3) K hX hbl hbo hS (lv_at hl 0 rfl) (lv_at hl 3 rfl) (by omega) hL dL_law_196 dL_law_197 dL_law_198 (by decide) dL_law_199 dL_law_200 ?_
  refine l_arg (j := 4) K hX hbl hbo hS (lv_at hl 0 rfl) (lv_at hl 3 rfl) (by omega) hL dL_law_201 dL_law_202 dL_law_203 (by decide) dL_law_204 dL_law_205 ?_
  obtain ⟨r, x1, u1, hfx, hfm, hR1⟩ : oOK (B + 81) (f_X10_lay (xs (i + 1)) (xs (i + 2)) (xs (i + 3)) (xs (i + 4)) x) (f_X11_lay (xs (i + 1)) (xs (i + 2)) (xs (i + 3)) (xs (i + 4)) u) := (o_lay hR (xs (i + 1)) (xs (i + 2)) (xs (i + 3)) (xs (i + 4))).mo (Nat.le_add_right B 81)
  refine l_X (As := [.int (xs (i + 1)), .int (xs (i + 2)), .int (xs (i + 3)), .int (xs (i + 4))]) (rest := []) K hS lL_18 (c_X10_lay (xs (i + 1)) (xs (i + 2)) (xs (i + 3)) (xs (i + 4)) x (r, x1) hfx) rfl rfl (Nat.le_of_ble_eq_true rfl) ⟨⟨Nat.le_of_ble_eq_true rfl, Nat.le_of_ble_eq_true rfl⟩, rfl, rfl⟩ hl.1 ⟨Nat.le_refl _, Nat.le_refl _⟩ dL_law_206 (fun H locs hS => ?_)
  refine lv_aload_n hx hb dL_law_209 rfl (lv_at hl 2 rfl) ?_
  refine l_arg (j := 1) K hX hbl hbo hS (lv_at hl 0 rfl) (lv_at hl 3 rfl) (by omega) hL dL_law_210 dL_law_211 dL_law_212 (by decide) dL_law_213 dL_law_214 ?_
  refine l_arg (j := 2) K hX hbl hbo hS (lv_at hl 0 rfl) (lv_at hl 3 rfl) (by omega) hL dL_law_215 dL_law_216 dL_law_217 (by decide) dL_law_218 dL_law_219 ?_
  refine l_arg (j := 3) K hX hbl hbo hS (lv_at hl 0 rfl) (lv_at hl 3 rfl) (by omega) hL dL_law_220 dL_law_221 dL_law_222 (by decide) dL_law_223 dL_law_224 ?_
  refine l_arg (j := 4) K hX hbl hbo hS (lv_at hl 0 rfl) (lv_at hl 3 rfl) (by omega) hL dL_law_225 dL_law_226 dL_law_227 (by decide) dL_law_228 dL_law_229 ?_
  refine l_M (As := [.int (xs (i + 1)), .int (xs (i + 2)), .int (xs (i + 3)), .int (xs (i + 4))]) (rest := [.int r]) K hS lL_22 (c_X11_lay (xs (i + 1)) (xs (i + 2)) (xs (i + 3)) (xs (i + 4)) u (r, u1) hfm) rfl rfl (Nat.le_of_ble_eq_true rfl) ⟨⟨Nat.le_of_ble_eq_true rfl, Nat.le_of_ble_eq_true rfl⟩, rfl, rfl⟩ hl.1 ⟨Nat.le_refl _, Nat.le_refl _⟩ dL_law_230 (fun H locs hS => ?_)
  exact lv_icmp_eq (tgt := 910) hx hb dL_law_233 (by decide) (fun _ => kk x1 u1 H locs hR1 hS) (fun h => absurd rfl h)
set_option maxHeartbeats 4000000 in
set_option maxRecDepth 100000 in
/-- call 2: read -/
theorem lo_2 (K : gK p s m args meth c G cL_law 4 RL (some .boolean)) (hX : va_X ab L xs s s.heap) (hbl : ab < s.heap.size) (hbo : ¬ cFr o ab) (hS : lSt G o s x u H locs) (hR : RR B x u) (hB1 : 99999 ≤ B) (hB2 : B + 1000 < 2 ^ 31) (hl : lv_has ls 4 [(0, .ref ab), (1, .ref (o + 0)), (2, .ref (o + 302 + 0)), (3, .int (nI i))]) (hi : i + 5 ≤ L) (hL : L ≤ 2560)
    (kk : ∀ (x1 u1 : gS) (H : Heap) (locs : List Loc), RR (B + 81) x1 u1 → lSt G o s x1 u1 H locs → W p l e room_1 s m args below meth c H locs 600000 7302250 Q (F0 m 910 ls [])) : W p l e room_1 s m args below meth c H locs 600000 7302250 Q (F0 m 238 ls []) := by
  obtain ⟨hx, hb, hml, hown, hts, -⟩ := id K
  refine lv_aload_n hx hb dL_law_238 rfl (lv_at hl 1 rfl) ?_
  obtain ⟨r, x1, u1, hfx, hfm, hR1⟩ : oOK (B + 81) (f_X10_read x) (f_X11_read u) := (o_read hR ).mo (Nat.le_add_right B 81)
  refine l_X (As := []) (rest := []) K hS lL_23 (c_X10_read x (r, x1) hfx) rfl rfl (Nat.le_of_ble_eq_true rfl) ⟨⟨Nat.le_of_ble_eq_true rfl, Nat.le_of_ble_eq_true rfl⟩, rfl, rfl⟩ hl.1 ⟨Nat.le_refl _, Nat.le_refl _⟩ dL_law_239 (fun H locs hS => ?_)
  refine lv_aload_n hx hb dL_law_242 rfl (lv_at hl 2 rfl) ?_
  refine l_M (As := []) (rest := [.int r]) K hS lL_27 (c_X11_read u (r, u1) hfm) rfl rfl (Nat.le_of_ble_eq_true rfl) ⟨⟨Nat.le_of_ble_eq_true rfl, Nat.le_of_ble_eq_true rfl⟩, rfl, rfl⟩ hl.1 ⟨Nat.le_refl _, Nat.le_refl _⟩ dL_law_243 (fun H locs hS => ?_)
  exact lv_icmp_eq (tgt := 910) hx hb dL_law_246 (by decide) (fun _ => kk x1 u1 H locs hR1 hS) (fun h => absurd rfl h)
set_option maxHeartbeats 4000000 in
set_option maxRecDepth 100000 in
/-- call 3: takeUp -/
theorem lo_3 (K : gK p s m args meth c G cL_law 4 RL (some .boolean)) (hX : va_X ab L xs s s.heap) (hbl : ab < s.heap.size) (hbo : ¬ cFr o ab) (hS : lSt G o s x u H locs) (hR : RR B x u) (hB1 : 99999 ≤ B) (hB2 : B + 1000 < 2 ^ 31) (hl : lv_has ls 4 [(0, .ref ab), (1, .ref (o + 0)), (2, .ref (o + 302 + 0)), (3, .int (nI i))]) (hi : i + 5 ≤ L) (hL : L ≤ 2560)
    (kk : ∀ (x1 u1 : gS) (H : Heap) (locs : List Loc), RR (B + 81) x1 u1 → lSt G o s x1 u1 H locs → W p l e room_1 s m args below meth c H locs 600000 7302250 Q (F0 m 910 ls [])) : W p l e room_1 s m args below meth c H locs 600000 7302250 Q (F0 m 251 ls []) := by
  obtain ⟨hx, hb, hml, hown, hts, -⟩ := id K
  refine lv_aload_n hx hb dL_law_251 rfl (lv_at hl 1 rfl) ?_
  refine l_arg (j := 1) K hX hbl hbo hS (lv_at hl 0 rfl) (lv_at hl 3 rfl) (by omega) hL dL_law_252 dL_law_253 dL_law_254 (by decide) dL_law_255 dL_law_256 ?_
  obtain ⟨r, x1, u1, hfx, hfm, hR1⟩ : oOK (B + 81) (f_X10_takeUp (xs (i + 1)) x) (f_X11_takeUp (xs (i + 1)) u) := (o_takeUp hR (xs (i + 1))).mo (Nat.le_add_right B 81)
  refine l_X (As := [.int (xs (i + 1))]) (rest := []) K hS lL_28 (c_X10_takeUp (xs (i + 1)) x (r, x1) hfx) rfl rfl (Nat.le_of_ble_eq_true rfl) ⟨⟨Nat.le_of_ble_eq_true rfl, Nat.le_of_ble_eq_true rfl⟩, rfl, rfl⟩ hl.1 ⟨Nat.le_refl _, Nat.le_refl _⟩ dL_law_257 (fun H locs hS => ?_)
  refine lv_aload_n hx hb dL_law_260 rfl (lv_at hl 2 rfl) ?_
  refine l_arg (j := 1) K hX hbl hbo hS (lv_at hl 0 rfl) (lv_at hl 3 rfl) (by omega) hL dL_law_261 dL_law_262 dL_law_263 (by decide) dL_law_264 dL_law_265 ?_
  refine l_M (As := [.int (xs (i + 1))]) (rest := [.int r]) K hS lL_32 (c_X11_takeUp (xs (i + 1)) u (r, u1) hfm) rfl rfl (Nat.le_of_ble_eq_true rfl) ⟨⟨Nat.le_of_ble_eq_true rfl, Nat.le_of_ble_eq_true rfl⟩, rfl, rfl⟩ hl.1 ⟨Nat.le_refl _, Nat.le_refl _⟩ dL_law_266 (fun H locs hS => ?_)
  exact lv_icmp_eq (tgt := 910) hx hb dL_law_269 (by decide) (fun _ => kk x1 u1 H locs hR1 hS) (fun h => absurd rfl h)
set_option maxHeartbeats 4000000 in
set_option maxRecDepth 100000 in
/-- call 4: sleeper -/
theorem lo_4 (K : gK p s m args meth c G cL_law 4 RL (some .boolean)) (hX : va_X ab L xs s s.heap) (hbl : ab < s.heap.size) (hbo : ¬ cFr o ab) (hS : lSt G o s x u H locs) (hR : RR B x u) (hB1 : 99999 ≤ B) (hB2 : B + 1000 < 2 ^ 31) (hl : lv_has ls 4 [(0, .ref ab), (1, .ref (o + 0)), (2, .ref (o + 302 + 0)), (3, .int (nI i))]) (hi : i + 5 ≤ L) (hL : L ≤ 2560)
    (kk : ∀ (x1 u1 : gS) (H : Heap) (locs : List Loc), RR (B + 81) x1 u1 → lSt G o s x1 u1 H locs → W p l e room_1 s m args below meth c H locs 600000 7302250 Q (F0 m 910 ls [])) : W p l e room_1 s m args below meth c H locs 600000 7302250 Q (F0 m 274 ls []) := by
  obtain ⟨hx, hb, hml, hown, hts, -⟩ := id K
  refine lv_aload_n hx hb dL_law_274 rfl (lv_at hl 1 rfl) ?_
  refine l_arg (j := 1) K hX hbl hbo hS (lv_at hl 0 rfl) (lv_at hl 3 rfl) (by omega) hL dL_law_275 dL_law_276 dL_law_277 (by decide) dL_law_278 dL_law_279 ?_
  refine l_arg (j := 2) K hX hbl hbo hS (lv_at hl 0 rfl) (lv_at hl 3 rfl) (by omega) hL dL_law_280 dL_law_281 dL_law_282 (by decide) dL_law_283 dL_law_284 ?_
  obtain ⟨r, x1, u1, hfx, hfm, hR1⟩ : oOK (B + 81) (f_X10_sleeper (xs (i + 1)) (xs (i + 2)) x) (f_X11_sleeper (xs (i + 1)) (xs (i + 2)) u) := (o_sleeper hR (xs (i + 1)) (xs (i + 2))).mo (Nat.le_add_right B 81)
  refine l_X (As := [.int (xs (i + 1)), .int (xs (i + 2))]) (rest := []) K hS lL_33 (c_X10_sleeper (xs (i + 1)) (xs (i + 2)) x (r, x1) hfx) rfl rfl (Nat.le_of_ble_eq_true rfl) ⟨⟨Nat.le_of_ble_eq_true rfl, Nat.le_of_ble_eq_true rfl⟩, rfl, rfl⟩ hl.1 ⟨Nat.le_refl _, Nat.le_refl _⟩ dL_law_285 (fun H locs hS => ?_)
  refine lv_aload_n hx hb dL_law_288 rfl (lv_at hl 2 rfl) ?_
  refine l_arg (j := 1) K hX hbl hbo hS (lv_at hl 0 rfl) (lv_at hl 3 rfl) (by omega) hL dL_law_289 dL_law_290 dL_law_291 (by decide) dL_law_292 dL_law_293 ?_
  refine l_arg (j := 2) K hX hbl hbo hS (lv_at hl 0 rfl) (lv_at hl 3 rfl) (by omega) hL dL_law_294 dL_law_295 dL_law_296 (by decide) dL_law_297 dL_law_298 ?_
  refine l_M (As := [.int (xs (i + 1)), .int (xs (i + 2))]) (rest := [.int r]) K hS lL_36 (c_X11_sleeper (xs (i + 1)) (xs (i + 2)) u (r, u1) hfm) rfl rfl (Nat.le_of_ble_eq_true rfl) ⟨⟨Nat.le_of_ble_eq_true rfl, Nat.le_of_ble_eq_true rfl⟩, rfl, rfl⟩ hl.1 ⟨Nat.le_refl _, Nat.le_refl _⟩ dL_law_299 (fun H locs hS => ?_)
  exact lv_icmp_eq (tgt := 910) hx hb dL_law_302 (by decide) (fun _ => kk x1 u1 H locs hR1 hS) (fun h => absurd rfl h)
set_option maxHeartbeats 4000000 in
set_option maxRecDepth 100000 in
/-- call 5: put -/
theorem lo_5 (K : gK p s m args meth c G cL_law 4 RL (some .boolean)) (hX : va_X ab L xs s s.heap) (hbl : ab < s.heap.size) (hbo : ¬ cFr o ab) (hS : lSt G o s x u H locs) (hR : RR B x u) (hB1 : 99999 ≤ B) (hB2 : B + 1000 < 2 ^ 31) (hl : lv_has ls 4 [(0, .ref ab), (1, .ref (o + 0)), (2, .ref (o + 302 + 0)), (3, .int (nI i))]) (hi : i + 5 ≤ L) (hL : L ≤ 2560)
    (kk : ∀ (x1 u1 : gS) (H : Heap) (locs : List Loc), RR (B + 81) x1 u1 → lSt G o s x1 u1 H locs → W p l e room_1 s m args below meth c H locs 600000 7302250 Q (F0 m 910 ls [])) : W p l e room_1 s m args below meth c H locs 600000 7302250 Q (F0 m 307 ls []) := by
  obtain ⟨hx, hb, hml, hown, hts, -⟩ := id K
  refine lv_aload_n hx hb dL_law_307 rfl (lv_at hl 1 rfl) ?_
  refine l_arg (j := 1) K hX hbl hbo hS (lv_at hl 0 rfl) (lv_at hl 3 rfl) (by omega) hL dL_law_308 dL_law_309 dL_law_310 (by decide) dL_law_311 dL_law_312 ?_
  refine l_arg (j := 2) K hX hbl hbo hS (lv_at hl 0 rfl) (lv_at hl 3 rfl) (by omega) hL dL_law_313 dL_law_314 dL_law_315 (by decide) dL_law_316 dL_law_317 ?_
  obtain ⟨r, x1, u1, hfx, hfm, hR1⟩ : oOK (B + 81) (f_X10_put (xs (i + 1)) (xs (i + 2)) x) (f_X11_put (xs (i + 1)) (xs (i + 2)) u) := (o_put hR (xs (i + 1)) (xs (i + 2))).mo (Nat.le_add_right B 81)
  refine l_X (As := [.int (xs (i + 1)), .int (xs (i + 2))]) (rest := []) K hS lL_37 (c_X10_put (xs (i + 1)) (xs (i + 2)) x (r, x1) hfx) rfl rfl (Nat.le_of_ble_eq_true rfl) ⟨⟨Nat.le_of_ble_eq_true rfl, Nat.le_of_ble_eq_true rfl⟩, rfl, rfl⟩ hl.1 ⟨Nat.le_refl _, Nat.le_refl _⟩ dL_law_318 (fun H locs hS => ?_)
  refine lv_aload_n hx hb dL_law_321 rfl (lv_at hl 2 rfl) ?_
  refine l_arg (j := 1) K hX hbl hbo hS (lv_at hl 0 rfl) (lv_at hl 3 rfl) (by omega) hL dL_law_322 dL_law_323 dL_law_324 (by decide) dL_law_325 dL_law_326 ?_
  refine l_arg (j := 2) K hX hbl hbo hS (lv_at hl 0 rfl) (lv_at hl 3 rfl) (by omega) hL dL_law_327 dL_law_328 dL_law_329 (by decide) dL_law_330 dL_law_331 ?_
  refine l_M (As := [.int (xs (i + 1)), .int (xs (i + 2))]) (rest := [.int r]) K hS lL_40 (c_X11_put (xs (i + 1)) (xs (i + 2)) u (r, u1) hfm) rfl rfl (Nat.le_of_ble_eq_true rfl) ⟨⟨Nat.le_of_ble_eq_true rfl, Nat.le_of_ble_eq_true rfl⟩, rfl, rfl⟩ hl.1 ⟨Nat.le_refl _, Nat.le_refl _⟩ dL_law_332 (fun H locs hS => ?_)
  exact lv_icmp_eq (tgt := 910) hx hb dL_law_335 (by decide) (fun _ => kk x1 u1 H locs hR1 hS) (fun h => absurd rfl h)
set_option maxHeartbeats 4000000 in
set_option maxRecDepth 100000 in
/-- call 6: glide -/
theorem lo_6 (K : gK p s m args meth c G cL_law 4 RL (some .boolean)) (hX : va_X ab L xs s s.heap) (hbl : ab < s.heap.size) (hbo : ¬ cFr o ab) (hS : lSt G o s x u H locs) (hR : RR B x u) (hB1 : 99999 ≤ B) (hB2 : B + 1000 < 2 ^ 31) (hl : lv_has ls 4 [(0, .ref ab), (1, .ref (o + 0)), (2, .ref (o + 302 + 0)), (3, .int (nI i))]) (hi : i + 5 ≤ L) (hL : L ≤ 2560)
    (kk : ∀ (x1 u1 : gS) (H : Heap) (locs : List Loc), RR (B + 81) x1 u1 → lSt G o s x1 u1 H locs → W p l e room_1 s m args below meth c H locs 600000 7302250 Q (F0 m 910 ls [])) : W p l e room_1 s m args below meth c H locs 600000 7302250 Q (F0 m 340 ls []) := by
  obtain ⟨hx, hb, hml, hown, hts, -⟩ := id K
  refine lv_aload_n hx hb dL_law_340 rfl (lv_at hl 1 rfl) ?_
  refine l_arg (j := 1) K hX hbl hbo hS (lv_at hl 0 rfl) (lv_at hl 3 rfl) (by omega) hL dL_law_341 dL_law_342 dL_law_343 (by decide) dL_law_344 dL_law_345 ?_
  refine l_arg (j := 2) K hX hbl hbo hS (lv_at hl 0 rfl) (lv_at hl 3 rfl) (by omega) hL dL_law_346 dL_law_347 dL_law_348 (by decide) dL_law_349 dL_law_350 ?_
  obtain ⟨r, x1, u1, hfx, hfm, hR1⟩ : oOK (B + 81) (f_X10_glide (xs (i + 1)) (xs (i + 2)) x) (f_X11_glide (xs (i + 1)) (xs (i + 2)) u) := o_glide hR hB2 (xs (i + 1)) (xs (i + 2))
  refine l_X (As := [.int (xs (i + 1)), .int (xs (i + 2))]) (rest := []) K hS lL_41 (c_X10_glide (xs (i + 1)) (xs (i + 2)) x (r, x1) hfx) rfl rfl (Nat.le_of_ble_eq_true rfl) ⟨⟨Nat.le_of_ble_eq_true rfl, Nat.le_of_ble_eq_true rfl⟩, rfl, rfl⟩ hl.1 ⟨Nat.le_refl _, Nat.le_refl _⟩ dL_law_351 (fun H locs hS => ?_)
  refine lv_aload_n hx hb dL_law_354 rfl (lv_at hl 2 rfl) ?_
  refine l_arg (j := 1) K hX hbl hbo hS (lv_at hl 0 rfl) (lv_at hl 3 rfl) (by omega) hL dL_law_355 dL_law_356 dL_law_357 (by decide) dL_law_358 dL_law_359 ?_
  refine l_arg (j := 2) K hX hbl hbo hS (lv_at hl 0 rfl) (lv_at hl 3 rfl) (by omega) hL dL_law_360 dL_law_361 dL_law_362 (by decide) dL_law_363 dL_law_364 ?_
  refine l_M (As := [.int (xs (i + 1)), .int (xs (i + 2))]) (rest := [.int r]) K hS lL_44 (c_X11_glide (xs (i + 1)) (xs (i + 2)) u (r, u1) hfm) rfl rfl (Nat.le_of_ble_eq_true rfl) ⟨⟨Nat.le_of_ble_eq_true rfl, Nat.le_of_ble_eq_true rfl⟩, rfl, rfl⟩ hl.1 ⟨Nat.le_refl _, Nat.le_refl _⟩ dL_law_365 (fun H locs hS => ?_)
  exact lv_icmp_eq (tgt := 910) hx hb dL_law_368 (by decide) (fun _ => kk x1 u1 H locs hR1 hS) (fun h => absurd rfl h)
set_option maxHeartbeats 4000000 in
set_option maxRecDepth 100000 in
/-- call 7: go -/
theorem lo_7 (K : gK p s m args meth c G cL_law 4 RL (some .boolean)) (hX : va_X ab L xs s s.heap) (hbl : ab < s.heap.size) (hbo : ¬ cFr o ab) (hS : lSt G o s x u H locs) (hR : RR B x u) (hB1 : 99999 ≤ B) (hB2 : B + 1000 < 2 ^ 31) (hl : lv_has ls 4 [(0, .ref ab), (1, .ref (o + 0)), (2, .ref (o + 302 + 0)), (3, .int (nI i))]) (hi : i + 5 ≤ L) (hL : L ≤ 2560)
    (kk : ∀ (x1 u1 : gS) (H : Heap) (locs : List Loc), RR (B + 81) x1 u1 → lSt G o s x1 u1 H locs → W p l e room_1 s m args below meth c H locs 600000 7302250 Q (F0 m 910 ls [])) : W p l e room_1 s m args below meth c H locs 600000 7302250 Q (F0 m 373 ls []) := by
  obtain ⟨hx, hb, hml, hown, hts, -⟩ := id K
  refine lv_aload_n hx hb dL_law_373 rfl (lv_at hl 1 rfl) ?_
  refine l_arg (j := 1) K hX hbl hbo hS (lv_at hl 0 rfl) (lv_at hl 3 rfl) (by omega) hL dL_law_374 dL_law_375 dL_law_376 (by decide) dL_law_377 dL_law_378 ?_
  refine l_arg (j := 2) K hX hbl hbo hS (lv_at hl 0 rfl) (lv_at hl 3 rfl) (by omega) hL dL_law_379 dL_law_380 dL_law_381 (by decide) dL_law_382 dL_law_383 ?_
  obtain ⟨r, x1, u1, hfx, hfm, hR1⟩ : oOK (B + 81) (f_X10_go (xs (i + 1)) (xs (i + 2)) x) (f_X11_go (xs (i + 1)) (xs (i + 2)) u) := o_go hR hB2 (xs (i + 1)) (xs (i + 2))
  refine l_X (As := [.int (xs (i + 1)), .int (xs (i + 2))]) (rest := []) K hS lL_45 (c_X10_go (xs (i + 1)) (xs (i + 2)) x (r, x1) hfx) rfl rfl (Nat.le_of_ble_eq_true rfl) ⟨⟨Nat.le_of_ble_eq_true rfl, Nat.le_of_ble_eq_true rfl⟩, rfl, rfl⟩ hl.1 ⟨Nat.le_refl _, Nat.le_refl _⟩ dL_law_384 (fun H locs hS => ?_)
  refine lv_aload_n hx hb dL_law_387 rfl (lv_at hl 2 rfl) ?_
  refine l_arg (j := 1) K hX hbl hbo hS (lv_at hl 0 rfl) (lv_at hl 3 rfl) (by omega) hL dL_law_388 dL_law_389 dL_law_390 (by decide) dL_law_391 dL_law_392 ?_
  refine l_arg (j := 2) K hX hbl hbo hS (lv_at hl 0 rfl) (lv_at hl 3 rfl) (by omega) hL dL_law_393 dL_law_394 dL_law_395 (by decide) dL_law_396 dL_law_397 ?_
  refine l_M (As := [.int (xs (i + 1)), .int (xs (i + 2))]) (rest := [.int r]) K hS lL_48 (c_X11_go (xs (i + 1)) (xs (i + 2)) u (r, u1) hfm) rfl rfl (Nat.le_of_ble_eq_true rfl) ⟨⟨Nat.le_of_ble_eq_true rfl, Nat.le_of_ble_eq_true rfl⟩, rfl, rfl⟩ hl.1 ⟨Nat.le_refl _, Nat.le_refl _⟩ dL_law_398 (fun H locs hS => ?_)
  exact lv_icmp_eq (tgt := 910) hx hb dL_law_401 (by decide) (fun _ => kk x1 u1 H locs hR1 hS) (fun h => absurd rfl h)
set_option maxHeartbeats 4000000 in
set_option maxRecDepth 100000 in
/-- call 8: pass -/
theorem lo_8 (K : gK p s m args meth c G cL_law 4 RL (some .boolean)) (hX : va_X ab L xs s s.heap) (hbl : ab < s.heap.size) (hbo : ¬ cFr o ab) (hS : lSt G o s x u H locs) (hR : RR B x u) (hB1 : 99999 ≤ B) (hB2 : B + 1000 < 2 ^ 31) (hl : lv_has ls 4 [(0, .ref ab), (1, .ref (o + 0)), (2, .ref (o + 302 + 0)), (3, .int (nI i))]) (hi : i + 5 ≤ L) (hL : L ≤ 2560)
    (kk : ∀ (x1 u1 : gS) (H : Heap) (locs : List Loc), RR (B + 81) x1 u1 → lSt G o s x1 u1 H locs → W p l e room_1 s m args below meth c H locs 600000 7302250 Q (F0 m 910 ls [])) : W p l e room_1 s m args below meth c H locs 600000 7302250 Q (F0 m 406 ls []) := by
  obtain ⟨hx, hb, hml, hown, hts, -⟩ := id K
  refine lv_aload_n hx hb dL_law_406 rfl (lv_at hl 1 rfl) ?_
  refine l_arg (j := 1) K hX hbl hbo hS (lv_at hl 0 rfl) (lv_at hl 3 rfl) (by omega) hL dL_law_407 dL_law_408 dL_law_409 (by decide) dL_law_410 dL_law_411 ?_
  obtain ⟨r, x1, u1, hfx, hfm, hR1⟩ : oOK (B + 81) (f_X10_pass (xs (i + 1)) x) (f_X11_pass (xs (i + 1)) u) := (o_pass hR hB1 hB2 (xs (i + 1))).mo (Nat.le_add_right B 81)
  refine l_X (As := [.int (xs (i + 1))]) (rest := []) K hS lL_49 (c_X10_pass (xs (i + 1)) x (r, x1) hfx) rfl rfl (Nat.le_of_ble_eq_true rfl) ⟨⟨Nat.le_of_ble_eq_true rfl, Nat.le_of_ble_eq_true rfl⟩, rfl, rfl⟩ hl.1 ⟨Nat.le_refl _, Nat.le_refl _⟩ dL_law_412 (fun H locs hS => ?_)
  refine lv_aload_n hx hb dL_law_415 rfl (lv_at hl 2 rfl) ?_
  refine l_arg (j := 1) K hX hbl hbo hS (lv_at hl 0 rfl) (lv_at hl 3 rfl) (by omega) hL dL_law_416 dL_law_417 dL_law_418 (by decide) dL_law_419 dL_law_420 ?_
  refine l_M (As := [.int (xs (i + 1))]) (rest := [.int r]) K hS lL_52 (c_X11_pass (xs (i + 1)) u (r, u1) hfm) rfl rfl (Nat.le_of_ble_eq_true rfl) ⟨⟨Nat.le_of_ble_eq_true rfl, Nat.le_of_ble_eq_true rfl⟩, rfl, rfl⟩ hl.1 ⟨Nat.le_refl _, Nat.le_refl _⟩ dL_law_421 (fun H locs hS => ?_)
  exact lv_icmp_eq (tgt := 910) hx hb dL_law_424 (by decide) (fun _ => kk x1 u1 H locs hR1 hS) (fun h => absurd rfl h)
set_option maxHeartbeats 4000000 in
set_option maxRecDepth 100000 in
/-- call 9: board -/
theorem lo_9 (K : gK p s m args meth c G cL_law 4 RL (some .boolean)) (hX : va_X ab L xs s s.heap) (hbl : ab < s.heap.size) (hbo : ¬ cFr o ab) (hS : lSt G o s x u H locs) (hR : RR B x u) (hB1 : 99999 ≤ B) (hB2 : B + 1000 < 2 ^ 31) (hl : lv_has ls 4 [(0, .ref ab), (1, .ref (o + 0)), (2, .ref (o + 302 + 0)), (3, .int (nI i))]) (hi : i + 5 ≤ L) (hL : L ≤ 2560)
    (kk : ∀ (x1 u1 : gS) (H : Heap) (locs : List Loc), RR (B + 81) x1 u1 → lSt G o s x1 u1 H locs → W p l e room_1 s m args below meth c H locs 600000 7302250 Q (F0 m 910 ls [])) : W p l e room_1 s m args below meth c H locs 600000 7302250 Q (F0 m 429 ls []) := by
  obtain ⟨hx, hb, hml, hown, hts, -⟩ := id K
  obtain ⟨ζ, zi, zB, zx, zm, zr⟩ := id hR
  refine lv_aload_n hx hb dL_law_429 rfl (lv_at hl 1 rfl) ?_
  refine l_arg (j := 1) K hX hbl hbo hS (lv_at hl 0 rfl) (lv_at hl 3 rfl) (by omega) hL dL_law_430 dL_law_431 dL_law_432 (by decide) dL_law_433 dL_law_434 ?_
  refine l_arg (j := 2) K hX hbl hbo hS (lv_at hl 0 rfl) (lv_at hl 3 rfl) (by omega) hL dL_law_435 dL_law_436 dL_law_437 (by decide) dL_law_438 dL_law_439 ?_
  obtain ⟨r, x1, u1, hfx, hfm, hR1⟩ : oOK (B + 81) (f_X10_board (xs (i + 1)) (xs (i + 2)) x) (f_X11_board (xs (i + 1)) (xs (i + 2)) u) := ((q_board zx zm zi (xs (i + 1)) (xs (i + 2))).oOK hR).mo (Nat.le_add_right B 81)
  refine l_X (As := [.int (xs (i + 1)), .int (xs (i + 2))]) (rest := []) K hS lL_53 (c_X10_board (xs (i + 1)) (xs (i + 2)) x (r, x1) hfx) rfl rfl (Nat.le_of_ble_eq_true rfl) ⟨⟨Nat.le_of_ble_eq_true rfl, Nat.le_of_ble_eq_true rfl⟩, rfl, rfl⟩ hl.1 ⟨Nat.le_refl _, Nat.le_refl _⟩ dL_law_440 (fun H locs hS => ?_)
  refine lv_aload_n hx hb dL_law_443 rfl (lv_at hl 2 rfl) ?_
  refine l_arg (j := 1) K hX hbl hbo hS (lv_at hl 0 rfl) (lv_at hl 3 rfl) (by omega) hL dL_law_444 dL_law_445 dL_law_446 (by decide) dL_law_447 dL_law_448 ?_
  refine l_arg (j := 2) K hX hbl hbo hS (lv_at hl 0 rfl) (lv_at hl 3 rfl) (by omega) hL dL_law_449 dL_law_450 dL_law_451 (by decide) dL_law_452 dL_law_453 ?_
  refine l_M (As := [.int (xs (i + 1)), .int (xs (i + 2))]) (rest := [.int r]) K hS lL_56 (c_X11_board (xs (i + 1)) (xs (i + 2)) u (r, u1) hfm) rfl rfl (Nat.le_of_ble_eq_true rfl) ⟨⟨Nat.le_of_ble_eq_true rfl, Nat.le_of_ble_eq_true rfl⟩, rfl, rfl⟩ hl.1 ⟨Nat.le_refl _, Nat.le_refl _⟩ dL_law_454 (fun H locs hS => ?_)
  exact lv_icmp_eq (tgt := 910) hx hb dL_law_457 (by decide) (fun _ => kk x1 u1 H locs hR1 hS) (fun h => absurd rfl h)
set_option maxHeartbeats 4000000 in
set_option maxRecDepth 100000 in
/-- call 10: ghost -/
theorem lo_10 (K : gK p s m args meth c G cL_law 4 RL (some .boolean)) (hX : va_X ab L xs s s.heap) (hbl : ab < s.heap.size) (hbo : ¬ cFr o ab) (hS : lSt G o s x u H locs) (hR : RR B x u) (hB1 : 99999 ≤ B) (hB2 : B + 1000 < 2 ^ 31) (hl : lv_has ls 4 [(0, .ref ab), (1, .ref (o + 0)), (2, .ref (o + 302 + 0)), (3, .int (nI i))]) (hi : i + 5 ≤ L) (hL : L ≤ 2560)
    (kk : ∀ (x1 u1 : gS) (H : Heap) (locs : List Loc), RR (B + 81) x1 u1 → lSt G o s x1 u1 H locs → W p l e room_1 s m args below meth c H locs 600000 7302250 Q (F0 m 910 ls [])) : W p l e room_1 s m args below meth c H locs 600000 7302250 Q (F0 m 462 ls []) := by
  obtain ⟨hx, hb, hml, hown, hts, -⟩ := id K
  obtain ⟨ζ, zi, zB, zx, zm, zr⟩ := id hR
  refine lv_aload_n hx hb dL_law_462 rfl (lv_at hl 1 rfl) ?_
  refine l_arg (j := 1) K hX hbl hbo hS (lv_at hl 0 rfl) (lv_at hl 3 rfl) (by omega) hL dL_law_463 dL_law_464 dL_law_465 (by decide) dL_law_466 dL_law_467 ?_
  refine l_arg (j := 2) K hX hbl hbo hS (lv_at hl 0 rfl) (lv_at hl 3 rfl) (by omega) hL dL_law_468 dL_law_469 dL_law_470 (by decide) dL_law_471 dL_law_472 ?_
  obtain ⟨r, x1, u1, hfx, hfm, hR1⟩ : oOK (B + 81) (f_X10_ghost (xs (i + 1)) (xs (i + 2)) x) (f_X11_ghost (xs (i + 1)) (xs (i + 2)) u) := ((q_ghost zx zm zi (xs (i + 1)) (xs (i + 2))).oOK hR).mo (Nat.le_add_right B 81)
  refine l_X (As := [.int (xs (i + 1)), .int (xs (i + 2))]) (rest := []) K hS lL_57 (c_X10_ghost (xs (i + 1)) (xs (i + 2)) x (r, x1) hfx) rfl rfl (Nat.le_of_ble_eq_true rfl) ⟨⟨Nat.le_of_ble_eq_true rfl, Nat.le_of_ble_eq_true rfl⟩, rfl, rfl⟩ hl.1 ⟨Nat.le_refl _, Nat.le_refl _⟩ dL_law_473 (fun H locs hS => ?_)
  refine lv_aload_n hx hb dL_law_476 rfl (lv_at hl 2 rfl) ?_
  refine l_arg (j := 1) K hX hbl hbo hS (lv_at hl 0 rfl) (lv_at hl 3 rfl) (by omega) hL dL_law_477 dL_law_478 dL_law_479 (by decide) dL_law_480 dL_law_481 ?_
  refine l_arg (j := 2) K hX hbl hbo hS (lv_at hl 0 rfl) (lv_at hl 3 rfl) (by omega) hL dL_law_482 dL_law_483 dL_law_484 (by decide) dL_law_485 dL_law_486 ?_
  refine l_M (As := [.int (xs (i + 1)), .int (xs (i + 2))]) (rest := [.int r]) K hS lL_60 (c_X11_ghost (xs (i + 1)) (xs (i + 2)) u (r, u1) hfm) rfl rfl (Nat.le_of_ble_eq_true rfl) ⟨⟨Nat.le_of_ble_eq_true rfl, Nat.le_of_ble_eq_true rfl⟩, rfl, rfl⟩ hl.1 ⟨Nat.le_refl _, Nat.le_refl _⟩ dL_law_487 (fun H locs hS => ?_)
  exact lv_icmp_eq (tgt := 910) hx hb dL_law_490 (by decide) (fun _ => kk x1 u1 H locs hR1 hS) (fun h => absurd rfl h)
set_option maxHeartbeats 4000000 in
set_option maxRecDepth 100000 in
/-- call 11: sleeperOf -/
theorem lo_11 (K : gK p s m args meth c G cL_law 4 RL (some .boolean)) (hX : va_X ab L xs s s.heap) (hbl : ab < s.heap.size) (hbo : ¬ cFr o ab) (hS : lSt G o s x u H locs) (hR : RR B x u) (hB1 : 99999 ≤ B) (hB2 : B + 1000 < 2 ^ 31) (hl : lv_has ls 4 [(0, .ref ab), (1, .ref (o + 0)), (2, .ref (o + 302 + 0)), (3, .int (nI i))]) (hi : i + 5 ≤ L) (hL : L ≤ 2560)
    (kk : ∀ (x1 u1 : gS) (H : Heap) (locs : List Loc), RR (B + 81) x1 u1 → lSt G o s x1 u1 H locs → W p l e room_1 s m args below meth c H locs 600000 7302250 Q (F0 m 910 ls [])) : W p l e room_1 s m args below meth c H locs 600000 7302250 Q (F0 m 495 ls []) := by
  obtain ⟨hx, hb, hml, hown, hts, -⟩ := id K
  obtain ⟨ζ, zi, zB, zx, zm, zr⟩ := id hR
  refine lv_aload_n hx hb dL_law_495 rfl (lv_at hl 1 rfl) ?_
  refine l_arg (j := 1) K hX hbl hbo hS (lv_at hl 0 rfl) (lv_at hl 3 rfl) (by omega) hL dL_law_496 dL_law_497 dL_law_498 (by decide) dL_law_499 dL_law_500 ?_
  refine l_arg (j := 2) K hX hbl hbo hS (lv_at hl 0 rfl) (lv_at hl 3 rfl) (by omega) hL dL_law_501 dL_law_502 dL_law_503 (by decide) dL_law_504 dL_law_505 ?_
  obtain ⟨r, x1, u1, hfx, hfm, hR1⟩ : oOK (B + 81) (f_X10_sleeperOf (xs (i + 1)) (xs (i + 2)) x) (f_X11_sleeperOf (xs (i + 1)) (xs (i + 2)) u) := ((q_sleeperOf zx zm zi (xs (i + 1)) (xs (i + 2))).oOK hR).mo (Nat.le_add_right B 81)
  refine l_X (As := [.int (xs (i + 1)), .int (xs (i + 2))]) (rest := []) K hS lL_61 (c_X10_sleeperOf (xs (i + 1)) (xs (i + 2)) x (r, x1) hfx) rfl rfl (Nat.le_of_ble_eq_true rfl) ⟨⟨Nat.le_of_ble_eq_true rfl, Nat.le_of_ble_eq_true rfl⟩, rfl, rfl⟩ hl.1 ⟨Nat.le_refl _, Nat.le_refl _⟩ dL_law_506 (fun H locs hS => ?_)
  refine lv_aload_n hx hb dL_law_509 rfl (lv_at hl 2 rfl) ?_
  refine l_arg (j := 1) K hX hbl hbo hS (lv_at hl 0 rfl) (lv_at hl 3 rfl) (by omega) hL dL_law_510 dL_law_511 dL_law_512 (by decide) dL_law_513 dL_law_514 ?_
  refine l_arg (j := 2) K hX hbl hbo hS (lv_at hl 0 rfl) (lv_at hl 3 rfl) (by omega) hL dL_law_515 dL_law_516 dL_law_517 (by decide) dL_law_518 dL_law_519 ?_
  refine l_M (As := [.int (xs (i + 1)), .int (xs (i + 2))]) (rest := [.int r]) K hS lL_64 (c_X11_sleeperOf (xs (i + 1)) (xs (i + 2)) u (r, u1) hfm) rfl rfl (Nat.le_of_ble_eq_true rfl) ⟨⟨Nat.le_of_ble_eq_true rfl, Nat.le_of_ble_eq_true rfl⟩, rfl, rfl⟩ hl.1 ⟨Nat.le_refl _, Nat.le_refl _⟩ dL_law_520 (fun H locs hS => ?_)
  exact lv_icmp_eq (tgt := 910) hx hb dL_law_523 (by decide) (fun _ => kk x1 u1 H locs hR1 hS) (fun h => absurd rfl h)
set_option maxHeartbeats 4000000 in
set_option maxRecDepth 100000 in
/-- call 12: loudness -/
theorem lo_12 (K : gK p s m args meth c G cL_law 4 RL (some .boolean)) (hX : va_X ab L xs s s.heap) (hbl : ab < s.heap.size) (hbo : ¬ cFr o ab) (hS : lSt G o s x u H locs) (hR : RR B x u) (hB1 : 99999 ≤ B) (hB2 : B + 1000 < 2 ^ 31) (hl : lv_has ls 4 [(0, .ref ab), (1, .ref (o + 0)), (2, .ref (o + 302 + 0)), (3, .int (nI i))]) (hi : i + 5 ≤ L) (hL : L ≤ 2560)
    (kk : ∀ (x1 u1 : gS) (H : Heap) (locs : List Loc), RR (B + 81) x1 u1 → lSt G o s x1 u1 H locs → W p l e room_1 s m args below meth c H locs 600000 7302250 Q (F0 m 910 ls [])) : W p l e room_1 s m args below meth c H locs 600000 7302250 Q (F0 m 528 ls []) := by
  obtain ⟨hx, hb, hml, hown, hts, -⟩ := id K
  obtain ⟨ζ, zi, zB, zx, zm, zr⟩ := id hR
  refine lv_aload_n hx hb dL_law_528 rfl (lv_at hl 1 rfl) ?_
  refine l_arg (j := 1) K hX hbl hbo hS (lv_at hl 0 rfl) (lv_at hl 3 rfl) (by omega) hL dL_law_529 dL_law_530 dL_law_531 (by decide) dL_law_532 dL_law_533 ?_
  refine l_arg (j := 2) K hX hbl hbo hS (lv_at hl 0 rfl) (lv_at hl 3 rfl) (by omega) hL dL_law_534 dL_law_535 dL_law_536 (by decide) dL_law_537 dL_law_538 ?_
  obtain ⟨r, x1, u1, hfx, hfm, hR1⟩ : oOK (B + 81) (f_X10_loudness (xs (i + 1)) (xs (i + 2)) x) (f_X11_loudness (xs (i + 1)) (xs (i + 2)) u) := ((q_loudness zx zm zi (xs (i + 1)) (xs (i + 2))).oOK hR).mo (Nat.le_add_right B 81)
  refine l_X (As := [.int (xs (i + 1)), .int (xs (i + 2))]) (rest := []) K hS lL_65 (c_X10_loudness (xs (i + 1)) (xs (i + 2)) x (r, x1) hfx) rfl rfl (Nat.le_of_ble_eq_true rfl) ⟨⟨Nat.le_of_ble_eq_true rfl, Nat.le_of_ble_eq_true rfl⟩, rfl, rfl⟩ hl.1 ⟨Nat.le_refl _, Nat.le_refl _⟩ dL_law_539 (fun H locs hS => ?_)
  refine lv_aload_n hx hb dL_law_542 rfl (lv_at hl 2 rfl) ?_
  refine l_arg (j := 1) K hX hbl hbo hS (lv_at hl 0 rfl) (lv_at hl 3 rfl) (by omega) hL dL_law_543 dL_law_544 dL_law_545 (by decide) dL_law_546 dL_law_547 ?_
  refine l_arg (j := 2) K hX hbl hbo hS (lv_at hl 0 rfl) (lv_at hl 3 rfl) (by omega) hL dL_law_548 dL_law_549 dL_law_550 (by decide) dL_law_551 dL_law_552 ?_
  refine l_M (As := [.int (xs (i + 1)), .int (xs (i + 2))]) (rest := [.int r]) K hS lL_68 (c_X11_loudness (xs (i + 1)) (xs (i + 2)) u (r, u1) hfm) rfl rfl (Nat.le_of_ble_eq_true rfl) ⟨⟨Nat.le_of_ble_eq_true rfl, Nat.le_of_ble_eq_true rfl⟩, rfl, rfl⟩ hl.1 ⟨Nat.le_refl _, Nat.le_refl _⟩ dL_law_553 (fun H locs hS => ?_)
  exact lv_icmp_eq (tgt := 910) hx hb dL_law_556 (by decide) (fun _ => kk x1 u1 H locs hR1 hS) (fun h => absurd rfl h)
set_option maxHeartbeats 4000000 in
set_option maxRecDepth 100000 in
/-- call 13: far -/
theorem lo_13 (K : gK p s m args meth c G cL_law 4 RL (some .boolean)) (hX : va_X ab L xs s s.heap) (hbl : ab < s.heap.size) (hbo : ¬ cFr o ab) (hS : lSt G o s x u H locs) (hR : RR B x u) (hB1 : 99999 ≤ B) (hB2 : B + 1000 < 2 ^ 31) (hl : lv_has ls 4 [(0, .ref ab), (1, .ref (o + 0)), (2, .ref (o + 302 + 0)), (3, .int (nI i))]) (hi : i + 5 ≤ L) (hL : L ≤ 2560)
    (kk : ∀ (x1 u1 : gS) (H : Heap) (locs : List Loc), RR (B + 81) x1 u1 → lSt G o s x1 u1 H locs → W p l e room_1 s m args below meth c H locs 600000 7302250 Q (F0 m 910 ls [])) : W p l e room_1 s m args below meth c H locs 600000 7302250 Q (F0 m 561 ls []) := by
  obtain ⟨hx, hb, hml, hown, hts, -⟩ := id K
  obtain ⟨ζ, zi, zB, zx, zm, zr⟩ := id hR
  refine lv_aload_n hx hb dL_law_561 rfl (lv_at hl 1 rfl) ?_
  refine l_arg (j := 1) K hX hbl hbo hS (lv_at hl 0 rfl) (lv_at hl 3 rfl) (by omega) hL dL_law_562 dL_law_563 dL_law_564 (by decide) dL_law_565 dL_law_566 ?_
  refine l_arg (j := 2) K hX hbl hbo hS (lv_at hl 0 rfl) (lv_at hl 3 rfl) (by omega) hL dL_law_567 dL_law_568 dL_law_569 (by decide) dL_law_570 dL_law_571 ?_
  obtain ⟨r, x1, u1, hfx, hfm, hR1⟩ : oOK (B + 81) (f_X10_far (xs (i + 1)) (xs (i + 2)) x) (f_X11_far (xs (i + 1)) (xs (i + 2)) u) := ((q_far zx zm zi (xs (i + 1)) (xs (i + 2))).oOK hR).mo (Nat.le_add_right B 81)
  refine l_X (As := [.int (xs (i + 1)), .int (xs (i + 2))]) (rest := []) K hS lL_69 (c_X10_far (xs (i + 1)) (xs (i + 2)) x (r, x1) hfx) rfl rfl (Nat.le_of_ble_eq_true rfl) ⟨⟨Nat.le_of_ble_eq_true rfl, Nat.le_of_ble_eq_true rfl⟩, rfl, rfl⟩ hl.1 ⟨Nat.le_refl _, Nat.le_refl _⟩ dL_law_572 (fun H locs hS => ?_)
  refine lv_aload_n hx hb dL_law_575 rfl (lv_at hl 2 rfl) ?_
  refine l_arg (j := 1) K hX hbl hbo hS (lv_at hl 0 rfl) (lv_at hl 3 rfl) (by omega) hL dL_law_576 dL_law_577 dL_law_578 (by decide) dL_law_579 dL_law_580 ?_
  refine l_arg (j := 2) K hX hbl hbo hS (lv_at hl 0 rfl) (lv_at hl 3 rfl) (by omega) hL dL_law_581 dL_law_582 dL_law_583 (by decide) dL_law_584 dL_law_585 ?_
  refine l_M (As := [.int (xs (i + 1)), .int (xs (i + 2))]) (rest := [.int r]) K hS lL_72 (c_X11_far (xs (i + 1)) (xs (i + 2)) u (r, u1) hfm) rfl rfl (Nat.le_of_ble_eq_true rfl) ⟨⟨Nat.le_of_ble_eq_true rfl, Nat.le_of_ble_eq_true rfl⟩, rfl, rfl⟩ hl.1 ⟨Nat.le_refl _, Nat.le_refl _⟩ dL_law_586 (fun H locs hS => ?_)
  exact lv_icmp_eq (tgt := 910) hx hb dL_law_589 (by decide) (fun _ => kk x1 u1 H locs hR1 hS) (fun h => absurd rfl h)
set_option maxHeartbeats 4000000 in
set_option maxRecDepth 100000 in
/-- call 14: count -/
theorem lo_14 (K : gK p s m args meth c G cL_law 4 RL (some .boolean)) (hX : va_X ab L xs s s.heap) (hbl : ab < s.heap.size) (hbo : ¬ cFr o ab) (hS : lSt G o s x u H locs) (hR : RR B x u) (hB1 : 99999 ≤ B) (hB2 : B + 1000 < 2 ^ 31) (hl : lv_has ls 4 [(0, .ref ab), (1, .ref (o + 0)), (2, .ref (o + 302 + 0)), (3, .int (nI i))]) (hi : i + 5 ≤ L) (hL : L ≤ 2560)
    (kk : ∀ (x1 u1 : gS) (H : Heap) (locs : List Loc), RR (B + 81) x1 u1 → lSt G o s x1 u1 H locs → W p l e room_1 s m args below meth c H locs 600000 7302250 Q (F0 m 910 ls [])) : W p l e room_1 s m args below meth c H locs 600000 7302250 Q (F0 m 594 ls []) := by
  obtain ⟨hx, hb, hml, hown, hts, -⟩ := id K
  obtain ⟨ζ, zi, zB, zx, zm, zr⟩ := id hR
  have zb : ζ 2 < 2 ^ 31 := by omega
  have zp : x 33 0 = u 0 6 := by
    obtain ⟨-, -, L, c, -, a1, a2, -⟩ := zr
    rw [a1, a2]
  have zk : x 36 2 = u 0 2 := by
    obtain ⟨⟨K, N, Z, -, -, a1, -, a2, -⟩, -⟩ := zr
    rw [a1, a2]
  refine lv_aload_n hx hb dL_law_594 rfl (lv_at hl 1 rfl) ?_
  refine l_arg (j := 1) K hX hbl hbo hS (lv_at hl 0 rfl) (lv_at hl 3 rfl) (by omega) hL dL_law_595 dL_law_596 dL_law_597 (by decide) dL_law_598 dL_law_599 ?_
  obtain ⟨r, x1, u1, hfx, hfm, hR1⟩ : oOK (B + 81) (f_X10_count (xs (i + 1)) x) (f_X11_count (xs (i + 1)) u) := ((q_count zx zm zi zb zp zk (xs (i + 1))).oOK hR).mo (Nat.le_add_right B 81)
  refine l_X (As := [.int (xs (i + 1))]) (rest := []) K hS lL_73 (c_X10_count (xs (i + 1)) x (r, x1) hfx) rfl rfl (Nat.le_of_ble_eq_true rfl) ⟨⟨Nat.le_of_ble_eq_true rfl, Nat.le_of_ble_eq_true rfl⟩, rfl, rfl⟩ hl.1 ⟨Nat.le_refl _, Nat.le_refl _⟩ dL_law_600 (fun H locs hS => ?_)
  refine lv_aload_n hx hb dL_law_603 rfl (lv_at hl 2 rfl) ?_
  refine l_arg (j := 1) K hX hbl hbo hS (lv_at hl 0 rfl) (lv_at hl 3 rfl) (by omega) hL dL_law_604 dL_law_605 dL_law_606 (by decide) dL_law_607 dL_law_608 ?_
  refine l_M (As := [.int (xs (i + 1))]) (rest := [.int r]) K hS lL_76 (c_X11_count (xs (i + 1)) u (r, u1) hfm) rfl rfl (Nat.le_of_ble_eq_true rfl) ⟨⟨Nat.le_of_ble_eq_true rfl, Nat.le_of_ble_eq_true rfl⟩, rfl, rfl⟩ hl.1 ⟨Nat.le_refl _, Nat.le_refl _⟩ dL_law_609 (fun H locs hS => ?_)
  exact lv_icmp_eq (tgt := 910) hx hb dL_law_612 (by decide) (fun _ => kk x1 u1 H locs hR1 hS) (fun h => absurd rfl h)
set_option maxHeartbeats 4000000 in
set_option maxRecDepth 100000 in
/-- call 15: soonest -/
theorem lo_15 (K : gK p s m args meth c G cL_law 4 RL (some .boolean)) (hX : va_X ab L xs s s.heap) (hbl : ab < s.heap.size) (hbo : ¬ cFr o ab) (hS : lSt G o s x u H locs) (hR : RR B x u) (hB1 : 99999 ≤ B) (hB2 : B + 1000 < 2 ^ 31) (hl : lv_has ls 4 [(0, .ref ab), (1, .ref (o + 0)), (2, .ref (o + 302 + 0)), (3, .int (nI i))]) (hi : i + 5 ≤ L) (hL : L ≤ 2560)
    (kk : ∀ (x1 u1 : gS) (H : Heap) (locs : List Loc), RR (B + 81) x1 u1 → lSt G o s x1 u1 H locs → W p l e room_1 s m args below meth c H locs 600000 7302250 Q (F0 m 910 ls [])) : W p l e room_1 s m args below meth c H locs 600000 7302250 Q (F0 m 617 ls []) := by
  obtain ⟨hx, hb, hml, hown, hts, -⟩ := id K
  obtain ⟨ζ, zi, zB, zx, zm, zr⟩ := id hR
  refine lv_aload_n hx hb dL_law_617 rfl (lv_at hl 1 rfl) ?_
  refine l_arg (j := 1) K hX hbl hbo hS (lv_at hl 0 rfl) (lv_at hl 3 rfl) (by omega) hL dL_law_618 dL_law_619 dL_law_620 (by decide) dL_law_621 dL_law_622 ?_
  refine l_arg (j := 2) K hX hbl hbo hS (lv_at hl 0 rfl) (lv_at hl 3 rfl) (by omega) hL dL_law_623 dL_law_624 dL_law_625 (by decide) dL_law_626 dL_law_627 ?_
  refine l_arg (j := 3) K hX hbl hbo hS (lv_at hl 0 rfl) (lv_at hl 3 rfl) (by omega) hL dL_law_628 dL_law_629 dL_law_630 (by decide) dL_law_631 dL_law_632 ?_
  obtain ⟨r, x1, u1, hfx, hfm, hR1⟩ : oOK (B + 81) (f_X10_soonest (xs (i + 1)) (xs (i + 2)) (xs (i + 3)) x) (f_X11_soonest (xs (i + 1)) (xs (i + 2)) (xs (i + 3)) u) := ((q_soonest zx zm zi (xs (i + 1)) (xs (i + 2)) (xs (i + 3))).oOK hR).mo (Nat.le_add_right B 81)
  refine l_X (As := [.int (xs (i + 1)), .int (xs (i + 2)), .int (xs (i + 3))]) (rest := []) K hS lL_77 (c_X10_soonest (xs (i + 1)) (xs (i + 2)) (xs (i + 3)) x (r, x1) hfx) rfl rfl (Nat.le_of_ble_eq_true rfl) ⟨⟨Nat.le_of_ble_eq_true rfl, Nat.le_of_ble_eq_true rfl⟩, rfl, rfl⟩ hl.1 ⟨Nat.le_refl _, Nat.le_refl _⟩ dL_law_633 (fun H locs hS => ?_)
  refine lv_aload_n hx hb dL_law_636 rfl (lv_at hl 2 rfl) ?_
  refine l_arg (j := 1) K hX hbl hbo hS (lv_at hl 0 rfl) (lv_at hl 3 rfl) (by omega) hL dL_law_637 dL_law_638 dL_law_639 (by decide) dL_law_640 dL_law_641 ?_
  refine l_arg (j := 2) K hX hbl hbo hS (lv_at hl 0 rfl) (lv_at hl 3 rfl) (by omega) hL dL_law_642 dL_law_643 dL_law_644 (by decide) dL_law_645 dL_law_646 ?_
  refine l_arg (j := 3) K hX hbl hbo hS (lv_at hl 0 rfl) (lv_at hl 3 rfl) (by omega) hL dL_law_647 dL_law_648 dL_law_649 (by decide) dL_law_650 dL_law_651 ?_
  refine l_M (As := [.int (xs (i + 1)), .int (xs (i + 2)), .int (xs (i + 3))]) (rest := [.int r]) K hS lL_81 (c_X11_soonest (xs (i + 1)) (xs (i + 2)) (xs (i + 3)) u (r, u1) hfm) rfl rfl (Nat.le_of_ble_eq_true rfl) ⟨⟨Nat.le_of_ble_eq_true rfl, Nat.le_of_ble_eq_true rfl⟩, rfl, rfl⟩ hl.1 ⟨Nat.le_refl _, Nat.le_refl _⟩ dL_law_652 (fun H locs hS => ?_)
  exact lv_icmp_eq (tgt := 910) hx hb dL_law_655 (by decide) (fun _ => kk x1 u1 H locs hR1 hS) (fun h => absurd rfl h)
set_option maxHeartbeats 4000000 in
set_option maxRecDepth 100000 in
/-- call 16: quietest -/
theorem lo_16 (K : gK p s m args meth c G cL_law 4 RL (some .boolean)) (hX : va_X ab L xs s s.heap) (hbl : ab < s.heap.size) (hbo : ¬ cFr o ab) (hS : lSt G o s x u H locs) (hR : RR B x u) (hB1 : 99999 ≤ B) (hB2 : B + 1000 < 2 ^ 31) (hl : lv_has ls 4 [(0, .ref ab), (1, .ref (o + 0)), (2, .ref (o + 302 + 0)), (3, .int (nI i))]) (hi : i + 5 ≤ L) (hL : L ≤ 2560)
    (kk : ∀ (x1 u1 : gS) (H : Heap) (locs : List Loc), RR (B + 81) x1 u1 → lSt G o s x1 u1 H locs → W p l e room_1 s m args below meth c H locs 600000 7302250 Q (F0 m 910 ls [])) : W p l e room_1 s m args below meth c H locs 600000 7302250 Q (F0 m 660 ls []) := by
  obtain ⟨hx, hb, hml, hown, hts, -⟩ := id K
  obtain ⟨ζ, zi, zB, zx, zm, zr⟩ := id hR
  refine lv_aload_n hx hb dL_law_660 rfl (lv_at hl 1 rfl) ?_
  refine l_arg (j := 1) K hX hbl hbo hS (lv_at hl 0 rfl) (lv_at hl 3 rfl) (by omega) hL dL_law_661 dL_law_662 dL_law_663 (by decide) dL_law_664 dL_law_665 ?_
  refine l_arg (j := 2) K hX hbl hbo hS (lv_at hl 0 rfl) (lv_at hl 3 rfl) (by omega) hL dL_law_666 dL_law_667 dL_law_668 (by decide) dL_law_669 dL_law_670 ?_
  obtain ⟨r, x1, u1, hfx, hfm, hR1⟩ : oOK (B + 81) (f_X10_quietest (xs (i + 1)) (xs (i + 2)) x) (f_X11_quietest (xs (i + 1)) (xs (i + 2)) u) := ((q_quietest zx zm zi (xs (i + 1)) (xs (i + 2))).oOK hR).mo (Nat.le_add_right B 81)
  refine l_X (As := [.int (xs (i + 1)), .int (xs (i + 2))]) (rest := []) K hS lL_82 (c_X10_quietest (xs (i + 1)) (xs (i + 2)) x (r, x1) hfx) rfl rfl (Nat.le_of_ble_eq_true rfl) ⟨⟨Nat.le_of_ble_eq_true rfl, Nat.le_of_ble_eq_true rfl⟩, rfl, rfl⟩ hl.1 ⟨Nat.le_refl _, Nat.le_refl _⟩ dL_law_671 (fun H locs hS => ?_)
  refine lv_aload_n hx hb dL_law_674 rfl (lv_at hl 2 rfl) ?_
  refine l_arg (j := 1) K hX hbl hbo hS (lv_at hl 0 rfl) (lv_at hl 3 rfl) (by omega) hL dL_law_675 dL_law_676 dL_law_677 (by decide) dL_law_678 dL_law_679 ?_
  refine l_arg (j := 2) K hX hbl hbo hS (lv_at hl 0 rfl) (lv_at hl 3 rfl) (by omega) hL dL_law_680 dL_law_681 dL_law_682 (by decide) dL_law_683 dL_law_684 ?_
  refine l_M (As := [.int (xs (i + 1)), .int (xs (i + 2))]) (rest := [.int r]) K hS lL_85 (c_X11_quietest (xs (i + 1)) (xs (i + 2)) u (r, u1) hfm) rfl rfl (Nat.le_of_ble_eq_true rfl) ⟨⟨Nat.le_of_ble_eq_true rfl, Nat.le_of_ble_eq_true rfl⟩, rfl, rfl⟩ hl.1 ⟨Nat.le_refl _, Nat.le_refl _⟩ dL_law_685 (fun H locs hS => ?_)
  exact lv_icmp_eq (tgt := 910) hx hb dL_law_688 (by decide) (fun _ => kk x1 u1 H locs hR1 hS) (fun h => absurd rfl h)
set_option maxHeartbeats 4000000 in
set_option maxRecDepth 100000 in
/-- call 17: reason -/
theorem lo_17 (K : gK p s m args meth c G cL_law 4 RL (some .boolean)) (hX : va_X ab L xs s s.heap) (hbl : ab < s.heap.size) (hbo : ¬ cFr o ab) (hS : lSt G o s x u H locs) (hR : RR B x u) (hB1 : 99999 ≤ B) (hB2 : B + 1000 < 2 ^ 31) (hl : lv_has ls 4 [(0, .ref ab), (1, .ref (o + 0)), (2, .ref (o + 302 + 0)), (3, .int (nI i))]) (hi : i + 5 ≤ L) (hL : L ≤ 2560)
    (kk : ∀ (x1 u1 : gS) (H : Heap) (locs : List Loc), RR (B + 81) x1 u1 → lSt G o s x1 u1 H locs → W p l e room_1 s m args below meth c H locs 600000 7302250 Q (F0 m 910 ls [])) : W p l e room_1 s m args below meth c H locs 600000 7302250 Q (F0 m 693 ls []) := by
  obtain ⟨hx, hb, hml, hown, hts, -⟩ := id K
  obtain ⟨ζ, zi, zB, zx, zm, zr⟩ := id hR
  refine lv_aload_n hx hb dL_law_693 rfl (lv_at hl 1 rfl) ?_
  refine l_arg (j := 1) K hX hbl hbo hS (lv_at hl 0 rfl) (lv_at hl 3 rfl) (by omega) hL dL_law_694 dL_law_695 dL_law_696 (by decide) dL_law_697 dL_law_698 ?_
  obtain ⟨r, x1, u1, hfx, hfm, hR1⟩ : oOK (B + 81) (f_X10_reason (xs (i + 1)) x) (f_X11_reason (xs (i + 1)) u) := ((q_reason zx zm zi (xs (i + 1))).oOK hR).mo (Nat.le_add_right B 81)
  refine l_X (As := [.int (xs (i + 1))]) (rest := []) K hS lL_86 (c_X10_reason (xs (i + 1)) x (r, x1) hfx) rfl rfl (Nat.le_of_ble_eq_true rfl) ⟨⟨Nat.le_of_ble_eq_true rfl, Nat.le_of_ble_eq_true rfl⟩, rfl, rfl⟩ hl.1 ⟨Nat.le_refl _, Nat.le_refl _⟩ dL_law_699 (fun H locs hS => ?_)
  refine lv_aload_n hx hb dL_law_702 rfl (lv_at hl 2 rfl) ?_
  refine l_arg (j := 1) K hX hbl hbo hS (lv_at hl 0 rfl) (lv_at hl 3 rfl) (by omega) hL dL_law_703 dL_law_704 dL_law_705 (by decide) dL_law_706 dL_law_707 ?_
  refine l_M (As := [.int (xs (i + 1))]) (rest := [.int r]) K hS lL_89 (c_X11_reason (xs (i + 1)) u (r, u1) hfm) rfl rfl (Nat.le_of_ble_eq_true rfl) ⟨⟨Nat.le_of_ble_eq_true rfl, Nat.le_of_ble_eq_true rfl⟩, rfl, rfl⟩ hl.1 ⟨Nat.le_refl _, Nat.le_refl _⟩ dL_law_708 (fun H locs hS => ?_)
  exact lv_icmp_eq (tgt := 910) hx hb dL_law_711 (by decide) (fun _ => kk x1 u1 H locs hR1 hS) (fun h => absurd rfl h)
set_option maxHeartbeats 4000000 in
set_option maxRecDepth 100000 in
/-- call 18: trail -/
theorem lo_18 (K : gK p s m args meth c G cL_law 4 RL (some .boolean)) (hX : va_X ab L xs s s.heap) (hbl : ab < s.heap.size) (hbo : ¬ cFr o ab) (hS : lSt G o s x u H locs) (hR : RR B x u) (hB1 : 99999 ≤ B) (hB2 : B + 1000 < 2 ^ 31) (hl : lv_has ls 4 [(0, .ref ab), (1, .ref (o + 0)), (2, .ref (o + 302 + 0)), (3, .int (nI i))]) (hi : i + 5 ≤ L) (hL : L ≤ 2560)
    (kk : ∀ (x1 u1 : gS) (H : Heap) (locs : List Loc), RR (B + 81) x1 u1 → lSt G o s x1 u1 H locs → W p l e room_1 s m args below meth c H locs 600000 7302250 Q (F0 m 910 ls [])) : W p l e room_1 s m args below meth c H locs 600000 7302250 Q (F0 m 716 ls []) := by
  obtain ⟨hx, hb, hml, hown, hts, -⟩ := id K
  obtain ⟨ζ, zi, zB, zx, zm, zr⟩ := id hR
  refine lv_aload_n hx hb dL_law_716 rfl (lv_at hl 1 rfl) ?_
  refine l_arg (j := 1) K hX hbl hbo hS (lv_at hl 0 rfl) (lv_at hl 3 rfl) (by omega) hL dL_law_717 dL_law_718 dL_law_719 (by decide) dL_law_720 dL_law_721 ?_
  refine l_arg (j := 2) K hX hbl hbo hS (lv_at hl 0 rfl) (lv_at hl 3 rfl) (by omega) hL dL_law_722 dL_law_723 dL_law_724 (by decide) dL_law_725 dL_law_726 ?_
  obtain ⟨r, x1, u1, hfx, hfm, hR1⟩ : oOK (B + 81) (f_X10_trail (xs (i + 1)) (xs (i + 2)) x) (f_X11_trail (xs (i + 1)) (xs (i + 2)) u) := ((q_trail zx zm zi (xs (i + 1)) (xs (i + 2))).oOK hR).mo (Nat.le_add_right B 81)
  refine l_X (As := [.int (xs (i + 1)), .int (xs (i + 2))]) (rest := []) K hS lL_90 (c_X10_trail (xs (i + 1)) (xs (i + 2)) x (r, x1) hfx) rfl rfl (Nat.le_of_ble_eq_true rfl) ⟨⟨Nat.le_of_ble_eq_true rfl, Nat.le_of_ble_eq_true rfl⟩, rfl, rfl⟩ hl.1 ⟨Nat.le_refl _, Nat.le_refl _⟩ dL_law_727 (fun H locs hS => ?_)
  refine lv_aload_n hx hb dL_law_730 rfl (lv_at hl 2 rfl) ?_
  refine l_arg (j := 1) K hX hbl hbo hS (lv_at hl 0 rfl) (lv_at hl 3 rfl) (by omega) hL dL_law_731 dL_law_732 dL_law_733 (by decide) dL_law_734 dL_law_735 ?_
  refine l_arg (j := 2) K hX hbl hbo hS (lv_at hl 0 rfl) (lv_at hl 3 rfl) (by omega) hL dL_law_736 dL_law_737 dL_law_738 (by decide) dL_law_739 dL_law_740 ?_
  refine l_M (As := [.int (xs (i + 1)), .int (xs (i + 2))]) (rest := [.int r]) K hS lL_93 (c_X11_trail (xs (i + 1)) (xs (i + 2)) u (r, u1) hfm) rfl rfl (Nat.le_of_ble_eq_true rfl) ⟨⟨Nat.le_of_ble_eq_true rfl, Nat.le_of_ble_eq_true rfl⟩, rfl, rfl⟩ hl.1 ⟨Nat.le_refl _, Nat.le_refl _⟩ dL_law_741 (fun H locs hS => ?_)
  exact lv_icmp_eq (tgt := 910) hx hb dL_law_744 (by decide) (fun _ => kk x1 u1 H locs hR1 hS) (fun h => absurd rfl h)
set_option maxHeartbeats 4000000 in
set_option maxRecDepth 100000 in
/-- call 19: worstGap -/
theorem lo_19 (K : gK p s m args meth c G cL_law 4 RL (some .boolean)) (hX : va_X ab L xs s s.heap) (hbl : ab < s.heap.size) (hbo : ¬ cFr o ab) (hS : lSt G o s x u H locs) (hR : RR B x u) (hB1 : 99999 ≤ B) (hB2 : B + 1000 < 2 ^ 31) (hl : lv_has ls 4 [(0, .ref ab), (1, .ref (o + 0)), (2, .ref (o + 302 + 0)), (3, .int (nI i))]) (hi : i + 5 ≤ L) (hL : L ≤ 2560)
    (kk : ∀ (x1 u1 : gS) (H : Heap) (locs : List Loc), RR (B + 81) x1 u1 → lSt G o s x1 u1 H locs → W p l e room_1 s m args below meth c H locs 600000 7302250 Q (F0 m 910 ls [])) : W p l e room_1 s m args below meth c H locs 600000 7302250 Q (F0 m 749 ls []) := by
  obtain ⟨hx, hb, hml, hown, hts, -⟩ := id K
  obtain ⟨ζ, zi, zB, zx, zm, zr⟩ := id hR
  refine lv_aload_n hx hb dL_law_749 rfl (lv_at hl 1 rfl) ?_
  refine l_arg (j := 1) K hX hbl hbo hS (lv_at hl 0 rfl) (lv_at hl 3 rfl) (by omega) hL dL_law_750 dL_law_751 dL_law_752 (by decide) dL_law_753 dL_law_754 ?_
  obtain ⟨r, x1, u1, hfx, hfm, hR1⟩ : oOK (B + 81) (f_X10_worstGap (xs (i + 1)) x) (f_X11_worstGap (xs (i + 1)) u) := ((q_gap zx zm zi (xs (i + 1))).oOK hR).mo (Nat.le_add_right B 81)
  refine l_X (As := [.int (xs (i + 1))]) (rest := []) K hS lL_94 (c_X10_worstGap (xs (i + 1)) x (r, x1) hfx) rfl rfl (Nat.le_of_ble_eq_true rfl) ⟨⟨Nat.le_of_ble_eq_true rfl, Nat.le_of_ble_eq_true rfl⟩, rfl, rfl⟩ hl.1 ⟨Nat.le_refl _, Nat.le_refl _⟩ dL_law_755 (fun H locs hS => ?_)
  refine lv_aload_n hx hb dL_law_758 rfl (lv_at hl 2 rfl) ?_
  refine l_arg (j := 1) K hX hbl hbo hS (lv_at hl 0 rfl) (lv_at hl 3 rfl) (by omega) hL dL_law_759 dL_law_760 dL_law_761 (by decide) dL_law_762 dL_law_763 ?_
  refine l_M (As := [.int (xs (i + 1))]) (rest := [.int r]) K hS lL_97 (c_X11_worstGap (xs (i + 1)) u (r, u1) hfm) rfl rfl (Nat.le_of_ble_eq_true rfl) ⟨⟨Nat.le_of_ble_eq_true rfl, Nat.le_of_ble_eq_true rfl⟩, rfl, rfl⟩ hl.1 ⟨Nat.le_refl _, Nat.le_refl _⟩ dL_law_764 (fun H locs hS => ?_)
  exact lv_icmp_eq (tgt := 910) hx hb dL_law_767 (by decide) (fun _ => kk x1 u1 H locs hR1 hS) (fun h => absurd rfl h)
set_option maxHeartbeats 4000000 in
set_option maxRecDepth 100000 in
/-- call 20: write -/
theorem lo_20 (K : gK p s m args meth c G cL_law 4 RL (some .boolean)) (hX : va_X ab L xs s s.heap) (hbl : ab < s.heap.size) (hbo : ¬ cFr o ab) (hS : lSt G o s x u H locs) (hR : RR B x u) (hB1 : 99999 ≤ B) (hB2 : B + 1000 < 2 ^ 31) (hl : lv_has ls 4 [(0, .ref ab), (1, .ref (o + 0)), (2, .ref (o + 302 + 0)), (3, .int (nI i))]) (hi : i + 5 ≤ L) (hL : L ≤ 2560)
    (kk : ∀ (x1 u1 : gS) (H : Heap) (locs : List Loc), RR (B + 81) x1 u1 → lSt G o s x1 u1 H locs → W p l e room_1 s m args below meth c H locs 600000 7302250 Q (F0 m 910 ls [])) : W p l e room_1 s m args below meth c H locs 600000 7302250 Q (F0 m 772 ls []) := by
  obtain ⟨hx, hb, hml, hown, hts, -⟩ := id K
  refine lv_aload_n hx hb dL_law_772 rfl (lv_at hl 1 rfl) ?_
  refine l_arg (j := 1) K hX hbl hbo hS (lv_at hl 0 rfl) (lv_at hl 3 rfl) (by omega) hL dL_law_773 dL_law_774 dL_law_775 (by decide) dL_law_776 dL_law_777 ?_
  refine lv_i2l hx hb dL_law_778 rfl ?_
  refine lv_bipush (v := 32) hx hb dL_law_779 (by decide) ?_
  refine lv_lshl hx hb dL_law_781 rfl ?_
  refine l_arg (j := 2) K hX hbl hbo hS (lv_at hl 0 rfl) (lv_at hl 3 rfl) (by omega) hL dL_law_782 dL_law_783 dL_law_784 (by decide) dL_law_785 dL_law_786 ?_
  refine lv_i2l hx hb dL_law_787 rfl ?_
  refine lv_ldc2 (own := RL) (v := 4294967295) hx hb hown (hts _ (gmd (by decide +kernel) rfl)) dL_law_788 ?_
  refine lv_land hx hb dL_law_791 ?_
  refine lv_lor hx hb dL_law_792 ?_
  generalize hw : ((xs (i + 1)).toInt64 <<< (Int32.toInt64 32 &&& 63)) ||| ((xs (i + 2)).toInt64 &&& 4294967295) = w
  obtain ⟨r, x1, u1, hfx, hfm, hR1⟩ : oOK (B + 81) (f_X10_write w x) (f_X11_write w u) := (o_write hR w).mo (Nat.le_add_right B 81)
  refine l_X (As := [.long w]) (rest := []) K hS lL_100 (c_X10_write w x (r, x1) hfx) rfl rfl (Nat.le_of_ble_eq_true rfl) ⟨⟨Nat.le_of_ble_eq_true rfl, Nat.le_of_ble_eq_true rfl⟩, rfl, rfl⟩ hl.1 ⟨Nat.le_refl _, Nat.le_refl _⟩ dL_law_793 (fun H locs hS => ?_)
  refine lv_aload_n hx hb dL_law_796 rfl (lv_at hl 2 rfl) ?_
  refine l_arg (j := 1) K hX hbl hbo hS (lv_at hl 0 rfl) (lv_at hl 3 rfl) (by omega) hL dL_law_797 dL_law_798 dL_law_799 (by decide) dL_law_800 dL_law_801 ?_
  refine lv_i2l hx hb dL_law_802 rfl ?_
  refine lv_bipush (v := 32) hx hb dL_law_803 (by decide) ?_
  refine lv_lshl hx hb dL_law_805 rfl ?_
  refine l_arg (j := 2) K hX hbl hbo hS (lv_at hl 0 rfl) (lv_at hl 3 rfl) (by omega) hL dL_law_806 dL_law_807 dL_law_808 (by decide) dL_law_809 dL_law_810 ?_
  refine lv_i2l hx hb dL_law_811 rfl ?_
  refine lv_ldc2 (own := RL) (v := 4294967295) hx hb hown (hts _ (gmd (by decide +kernel) rfl)) dL_law_812 ?_
  refine lv_land hx hb dL_law_815 ?_
  refine lv_lor hx hb dL_law_816 ?_
  rw [hw]
  refine l_M (As := [.long w]) (rest := [.int r]) K hS lL_104 (c_X11_write w u (r, u1) hfm) rfl rfl (Nat.le_of_ble_eq_true rfl) ⟨⟨Nat.le_of_ble_eq_true rfl, Nat.le_of_ble_eq_true rfl⟩, rfl, rfl⟩ hl.1 ⟨Nat.le_refl _, Nat.le_refl _⟩ dL_law_817 (fun H locs hS => ?_)
  exact lv_icmp_eq (tgt := 910) hx hb dL_law_820 (by decide) (fun _ => kk x1 u1 H locs hR1 hS) (fun h => absurd rfl h)
set_option maxHeartbeats 4000000 in
set_option maxRecDepth 100000 in
/-- call 21: wipe -/
theorem lo_21 (K : gK p s m args meth c G cL_law 4 RL (some .boolean)) (hX : va_X ab L xs s s.heap) (hbl : ab < s.heap.size) (hbo : ¬ cFr o ab) (hS : lSt G o s x u H locs) (hR : RR B x u) (hB1 : 99999 ≤ B) (hB2 : B + 1000 < 2 ^ 31) (hl : lv_has ls 4 [(0, .ref ab), (1, .ref (o + 0)), (2, .ref (o + 302 + 0)), (3, .int (nI i))]) (hi : i + 5 ≤ L) (hL : L ≤ 2560)
    (kk : ∀ (x1 u1 : gS) (H : Heap) (locs : List Loc), RR (B + 81) x1 u1 → lSt G o s x1 u1 H locs → W p l e room_1 s m args below meth c H locs 600000 7302250 Q (F0 m 910 ls [])) : W p l e room_1 s m args below meth c H locs 600000 7302250 Q (F0 m 825 ls []) := by
  obtain ⟨hx, hb, hml, hown, hts, -⟩ := id K
  refine lv_aload_n hx hb dL_law_825 rfl (lv_at hl 1 rfl) ?_
  obtain ⟨r, x1, u1, hfx, hfm, hR1⟩ : oOK (B + 81) (f_X10_wipe x) (f_X11_wipe u) := (o_wipe hR ).mo (Nat.le_add_right B 81)
  refine l_X (As := []) (rest := []) K hS lL_105 (c_X10_wipe x (r, x1) hfx) rfl rfl (Nat.le_of_ble_eq_true rfl) ⟨⟨Nat.le_of_ble_eq_true rfl, Nat.le_of_ble_eq_true rfl⟩, rfl, rfl⟩ hl.1 ⟨Nat.le_refl _, Nat.le_refl _⟩ dL_law_826 (fun H locs hS => ?_)
  refine lv_aload_n hx hb dL_law_829 rfl (lv_at hl 2 rfl) ?_
  refine l_M (As := []) (rest := [.int r]) K hS lL_108 (c_X11_wipe u (r, u1) hfm) rfl rfl (Nat.le_of_ble_eq_true rfl) ⟨⟨Nat.le_of_ble_eq_true rfl, Nat.le_of_ble_eq_true rfl⟩, rfl, rfl⟩ hl.1 ⟨Nat.le_refl _, Nat.le_refl _⟩ dL_law_830 (fun H locs hS => ?_)
  exact lv_icmp_eq (tgt := 910) hx hb dL_law_833 (by decide) (fun _ => kk x1 u1 H locs hR1 hS) (fun h => absurd rfl h)
set_option maxHeartbeats 4000000 in
set_option maxRecDepth 100000 in
/-- call 22: fault -/
theorem lo_22 (K : gK p s m args meth c G cL_law 4 RL (some .boolean)) (hX : va_X ab L xs s s.heap) (hbl : ab < s.heap.size) (hbo : ¬ cFr o ab) (hS : lSt G o s x u H locs) (hR : RR B x u) (hB1 : 99999 ≤ B) (hB2 : B + 1000 < 2 ^ 31) (hl : lv_has ls 4 [(0, .ref ab), (1, .ref (o + 0)), (2, .ref (o + 302 + 0)), (3, .int (nI i))]) (hi : i + 5 ≤ L) (hL : L ≤ 2560)
    (kk : ∀ (x1 u1 : gS) (H : Heap) (locs : List Loc), RR (B + 81) x1 u1 → lSt G o s x1 u1 H locs → W p l e room_1 s m args below meth c H locs 600000 7302250 Q (F0 m 910 ls [])) : W p l e room_1 s m args below meth c H locs 600000 7302250 Q (F0 m 838 ls []) := by
  obtain ⟨hx, hb, hml, hown, hts, -⟩ := id K
  refine lv_aload_n hx hb dL_law_838 rfl (lv_at hl 1 rfl) ?_
  obtain ⟨r, x1, u1, hfx, hfm, hR1⟩ : oOK (B + 81) (f_X10_fault x) (f_X11_fault u) := (o_fault hR ).mo (Nat.le_add_right B 81)
  refine l_X (As := []) (rest := []) K hS lL_109 (c_X10_fault x (r, x1) hfx) rfl rfl (Nat.le_of_ble_eq_true rfl) ⟨⟨Nat.le_of_ble_eq_true rfl, Nat.le_of_ble_eq_true rfl⟩, rfl, rfl⟩ hl.1 ⟨Nat.le_refl _, Nat.le_refl _⟩ dL_law_839 (fun H locs hS => ?_)
  refine lv_aload_n hx hb dL_law_842 rfl (lv_at hl 2 rfl) ?_
  refine l_M (As := []) (rest := [.int r]) K hS lL_112 (c_X11_fault u (r, u1) hfm) rfl rfl (Nat.le_of_ble_eq_true rfl) ⟨⟨Nat.le_of_ble_eq_true rfl, Nat.le_of_ble_eq_true rfl⟩, rfl, rfl⟩ hl.1 ⟨Nat.le_refl _, Nat.le_refl _⟩ dL_law_843 (fun H locs hS => ?_)
  exact lv_icmp_eq (tgt := 910) hx hb dL_law_846 (by decide) (fun _ => kk x1 u1 H locs hR1 hS) (fun h => absurd rfl h)
set_option maxHeartbeats 4000000 in
set_option maxRecDepth 100000 in
/-- call 23: undo -/
theorem lo_23 (K : gK p s m args meth c G cL_law 4 RL (some .boolean)) (hX : va_X ab L xs s s.heap) (hbl : ab < s.heap.size) (hbo : ¬ cFr o ab) (hS : lSt G o s x u H locs) (hR : RR B x u) (hB1 : 99999 ≤ B) (hB2 : B + 1000 < 2 ^ 31) (hl : lv_has ls 4 [(0, .ref ab), (1, .ref (o + 0)), (2, .ref (o + 302 + 0)), (3, .int (nI i))]) (hi : i + 5 ≤ L) (hL : L ≤ 2560)
    (kk : ∀ (x1 u1 : gS) (H : Heap) (locs : List Loc), RR (B + 81) x1 u1 → lSt G o s x1 u1 H locs → W p l e room_1 s m args below meth c H locs 600000 7302250 Q (F0 m 910 ls [])) : W p l e room_1 s m args below meth c H locs 600000 7302250 Q (F0 m 851 ls []) := by
  obtain ⟨hx, hb, hml, hown, hts, -⟩ := id K
  refine lv_aload_n hx hb dL_law_851 rfl (lv_at hl 1 rfl) ?_
  obtain ⟨r, x1, u1, hfx, hfm, hR1⟩ : oOK (B + 81) (f_X10_undo x) (f_X11_undo u) := (o_undo hR ).mo (Nat.le_add_right B 81)
  refine l_X (As := []) (rest := []) K hS lL_113 (c_X10_undo x (r, x1) hfx) rfl rfl (Nat.le_of_ble_eq_true rfl) ⟨⟨Nat.le_of_ble_eq_true rfl, Nat.le_of_ble_eq_true rfl⟩, rfl, rfl⟩ hl.1 ⟨Nat.le_refl _, Nat.le_refl _⟩ dL_law_852 (fun H locs hS => ?_)
  refine lv_aload_n hx hb dL_law_855 rfl (lv_at hl 2 rfl) ?_
  refine l_M (As := []) (rest := [.int r]) K hS lL_116 (c_X11_undo u (r, u1) hfm) rfl rfl (Nat.le_of_ble_eq_true rfl) ⟨⟨Nat.le_of_ble_eq_true rfl, Nat.le_of_ble_eq_true rfl⟩, rfl, rfl⟩ hl.1 ⟨Nat.le_refl _, Nat.le_refl _⟩ dL_law_856 (fun H locs hS => ?_)
  exact lv_icmp_eq (tgt := 910) hx hb dL_law_859 (by decide) (fun _ => kk x1 u1 H locs hR1 hS) (fun h => absurd rfl h)
set_option maxHeartbeats 4000000 in
set_option maxRecDepth 100000 in
/-- call 24: save -/
theorem lo_24 (K : gK p s m args meth c G cL_law 4 RL (some .boolean)) (hX : va_X ab L xs s s.heap) (hbl : ab < s.heap.size) (hbo : ¬ cFr o ab) (hS : lSt G o s x u H locs) (hR : RR B x u) (hB1 : 99999 ≤ B) (hB2 : B + 1000 < 2 ^ 31) (hl : lv_has ls 4 [(0, .ref ab), (1, .ref (o + 0)), (2, .ref (o + 302 + 0)), (3, .int (nI i))]) (hi : i + 5 ≤ L) (hL : L ≤ 2560)
    (kk : ∀ (x1 u1 : gS) (H : Heap) (locs : List Loc), RR (B + 81) x1 u1 → lSt G o s x1 u1 H locs → W p l e room_1 s m args below meth c H locs 600000 7302250 Q (F0 m 910 ls [])) : W p l e room_1 s m args below meth c H locs 600000 7302250 Q (F0 m 864 ls []) := by
  obtain ⟨hx, hb, hml, hown, hts, -⟩ := id K
  refine lv_aload_n hx hb dL_law_864 rfl (lv_at hl 1 rfl) ?_
  refine l_arg (j := 1) K hX hbl hbo hS (lv_at hl 0 rfl) (lv_at hl 3 rfl) (by omega) hL dL_law_865 dL_law_866 dL_law_867 (by decide) dL_law_868 dL_law_869 ?_
  obtain ⟨r, x1, u1, hfx, hfm, hR1⟩ : oOK (B + 81) (f_X10_save (xs (i + 1)) x) (f_X11_save (xs (i + 1)) u) := (o_save hR (xs (i + 1))).mo (Nat.le_add_right B 81)
  refine l_X (As := [.int (xs (i + 1))]) (rest := []) K hS lL_117 (c_X10_save (xs (i + 1)) x (r, x1) hfx) rfl rfl (Nat.le_of_ble_eq_true rfl) ⟨⟨Nat.le_of_ble_eq_true rfl, Nat.le_of_ble_eq_true rfl⟩, rfl, rfl⟩ hl.1 ⟨Nat.le_refl _, Nat.le_refl _⟩ dL_law_870 (fun H locs hS => ?_)
  refine lv_aload_n hx hb dL_law_873 rfl (lv_at hl 2 rfl) ?_
  refine l_arg (j := 1) K hX hbl hbo hS (lv_at hl 0 rfl) (lv_at hl 3 rfl) (by omega) hL dL_law_874 dL_law_875 dL_law_876 (by decide) dL_law_877 dL_law_878 ?_
  refine l_M (As := [.int (xs (i + 1))]) (rest := [.int r]) K hS lL_120 (c_X11_save (xs (i + 1)) u (r, u1) hfm) rfl rfl (Nat.le_of_ble_eq_true rfl) ⟨⟨Nat.le_of_ble_eq_true rfl, Nat.le_of_ble_eq_true rfl⟩, rfl, rfl⟩ hl.1 ⟨Nat.le_refl _, Nat.le_refl _⟩ dL_law_879 (fun H locs hS => ?_)
  exact lv_icmp_eq (tgt := 910) hx hb dL_law_882 (by decide) (fun _ => kk x1 u1 H locs hR1 hS) (fun h => absurd rfl h)
set_option maxHeartbeats 4000000 in
set_option maxRecDepth 100000 in
/-- call 25: restore -/
theorem lo_25 (K : gK p s m args meth c G cL_law 4 RL (some .boolean)) (hX : va_X ab L xs s s.heap) (hbl : ab < s.heap.size) (hbo : ¬ cFr o ab) (hS : lSt G o s x u H locs) (hR : RR B x u) (hB1 : 99999 ≤ B) (hB2 : B + 1000 < 2 ^ 31) (hl : lv_has ls 4 [(0, .ref ab), (1, .ref (o + 0)), (2, .ref (o + 302 + 0)), (3, .int (nI i))]) (hi : i + 5 ≤ L) (hL : L ≤ 2560)
    (kk : ∀ (x1 u1 : gS) (H : Heap) (locs : List Loc), RR (B + 81) x1 u1 → lSt G o s x1 u1 H locs → W p l e room_1 s m args below meth c H locs 600000 7302250 Q (F0 m 910 ls [])) : W p l e room_1 s m args below meth c H locs 600000 7302250 Q (F0 m 887 ls []) := by
  obtain ⟨hx, hb, hml, hown, hts, -⟩ := id K
  refine lv_aload_n hx hb dL_law_887 rfl (lv_at hl 1 rfl) ?_
  refine l_arg (j := 1) K hX hbl hbo hS (lv_at hl 0 rfl) (lv_at hl 3 rfl) (by omega) hL dL_law_888 dL_law_889 dL_law_890 (by decide) dL_law_891 dL_law_892 ?_
  obtain ⟨r, x1, u1, hfx, hfm, hR1⟩ : oOK (B + 81) (f_X10_restore (xs (i + 1)) x) (f_X11_restore (xs (i + 1)) u) := (o_restore hR (xs (i + 1))).mo (Nat.le_add_right B 81)
  refine l_X (As := [.int (xs (i + 1))]) (rest := []) K hS lL_121 (c_X10_restore (xs (i + 1)) x (r, x1) hfx) rfl rfl (Nat.le_of_ble_eq_true rfl) ⟨⟨Nat.le_of_ble_eq_true rfl, Nat.le_of_ble_eq_true rfl⟩, rfl, rfl⟩ hl.1 ⟨Nat.le_refl _, Nat.le_refl _⟩ dL_law_893 (fun H locs hS => ?_)
  refine lv_aload_n hx hb dL_law_896 rfl (lv_at hl 2 rfl) ?_
  refine l_arg (j := 1) K hX hbl hbo hS (lv_at hl 0 rfl) (lv_at hl 3 rfl) (by omega) hL dL_law_897 dL_law_898 dL_law_899 (by decide) dL_law_900 dL_law_901 ?_
  refine l_M (As := [.int (xs (i + 1))]) (rest := [.int r]) K hS lL_124 (c_X11_restore (xs (i + 1)) u (r, u1) hfm) rfl rfl (Nat.le_of_ble_eq_true rfl) ⟨⟨Nat.le_of_ble_eq_true rfl, Nat.le_of_ble_eq_true rfl⟩, rfl, rfl⟩ hl.1 ⟨Nat.le_refl _, Nat.le_refl _⟩ dL_law_902 (fun H locs hS => ?_)
  exact lv_icmp_eq (tgt := 910) hx hb dL_law_905 (by decide) (fun _ => kk x1 u1 H locs hR1 hS) (fun h => absurd rfl h)
end LO
