theorem dX11_collects_0 : decode prog_13_method_71_code 0 = .ok (.iconst 0, 1) := by decide +kernel
theorem dX11_collects_1 : decode prog_13_method_71_code 1 = .ok (.istore 4, 2) := by decide +kernel
theorem dX11_collects_3 : decode prog_13_method_71_code 3 = .ok (.iload 4, 2) := by decide +kernel
theorem dX11_collects_5 : decode prog_13_method_71_code 5 = .ok (.aload_n 0, 1) := by decide +kernel
theorem dX11_collects_6 : decode prog_13_method_71_code 6 = .ok (.getfield 13, 3) := by decide +kernel
theorem dX11_collects_9 : decode prog_13_method_71_code 9 = .ok (.iload_n 1, 1) := by decide +kernel
theorem dX11_collects_10 : decode prog_13_method_71_code 10 = .ok (.iaload, 1) := by decide +kernel
theorem dX11_collects_11 : decode prog_13_method_71_code 11 = .ok (.if_icmp .ge 55, 3) := by decide +kernel
theorem dX11_collects_14 : decode prog_13_method_71_code 14 = .ok (.aload_n 0, 1) := by decide +kernel
theorem dX11_collects_15 : decode prog_13_method_71_code 15 = .ok (.getfield 74, 3) := by decide +kernel
theorem dX11_collects_18 : decode prog_13_method_71_code 18 = .ok (.iload_n 2, 1) := by decide +kernel
theorem dX11_collects_19 : decode prog_13_method_71_code 19 = .ok (.iload 4, 2) := by decide +kernel
theorem dX11_collects_21 : decode prog_13_method_71_code 21 = .ok (.iadd, 1) := by decide +kernel
theorem dX11_collects_22 : decode prog_13_method_71_code 22 = .ok (.aload_n 0, 1) := by decide +kernel
theorem dX11_collects_23 : decode prog_13_method_71_code 23 = .ok (.getfield 16, 3) := by decide +kernel
theorem dX11_collects_26 : decode prog_13_method_71_code 26 = .ok (.bipush 40, 2) := by decide +kernel
theorem dX11_collects_28 : decode prog_13_method_71_code 28 = .ok (.iload_n 1, 1) := by decide +kernel
theorem dX11_collects_29 : decode prog_13_method_71_code 29 = .ok (.imul, 1) := by decide +kernel
theorem dX11_collects_30 : decode prog_13_method_71_code 30 = .ok (.iload 4, 2) := by decide +kernel
theorem dX11_collects_32 : decode prog_13_method_71_code 32 = .ok (.iadd, 1) := by decide +kernel
theorem dX11_collects_33 : decode prog_13_method_71_code 33 = .ok (.iaload, 1) := by decide +kernel
theorem dX11_collects_34 : decode prog_13_method_71_code 34 = .ok (.iload_n 3, 1) := by decide +kernel
theorem dX11_collects_35 : decode prog_13_method_71_code 35 = .ok (.iadd, 1) := by decide +kernel
theorem dX11_collects_36 : decode prog_13_method_71_code 36 = .ok (.iastore, 1) := by decide +kernel
theorem dX11_collects_37 : decode prog_13_method_71_code 37 = .ok (.aload_n 0, 1) := by decide +kernel
theorem dX11_collects_38 : decode prog_13_method_71_code 38 = .ok (.getfield 77, 3) := by decide +kernel
theorem dX11_collects_41 : decode prog_13_method_71_code 41 = .ok (.iload_n 2, 1) := by decide +kernel
theorem dX11_collects_42 : decode prog_13_method_71_code 42 = .ok (.iload 4, 2) := by decide +kernel
theorem dX11_collects_44 : decode prog_13_method_71_code 44 = .ok (.iadd, 1) := by decide +kernel
theorem dX11_collects_45 : decode prog_13_method_71_code 45 = .ok (.aload_n 0, 1) := by decide +kernel
theorem dX11_collects_46 : decode prog_13_method_71_code 46 = .ok (.getfield 19, 3) := by decide +kernel
theorem dX11_collects_49 : decode prog_13_method_71_code 49 = .ok (.bipush 40, 2) := by decide +kernel
theorem dX11_collects_51 : decode prog_13_method_71_code 51 = .ok (.iload_n 1, 1) := by decide +kernel
theorem dX11_collects_52 : decode prog_13_method_71_code 52 = .ok (.imul, 1) := by decide +kernel
theorem dX11_collects_53 : decode prog_13_method_71_code 53 = .ok (.iload 4, 2) := by decide +kernel
theorem dX11_collects_55 : decode prog_13_method_71_code 55 = .ok (.iadd, 1) := by decide +kernel
theorem dX11_collects_56 : decode prog_13_method_71_code 56 = .ok (.iaload, 1) := by decide +kernel
theorem dX11_collects_57 : decode prog_13_method_71_code 57 = .ok (.iload_n 3, 1) := by decide +kernel
theorem dX11_collects_58 : decode prog_13_method_71_code 58 = .ok (.iadd, 1) := by decide +kernel
theorem dX11_collects_59 : decode prog_13_method_71_code 59 = .ok (.iastore, 1) := by decide +kernel
theorem dX11_collects_60 : decode prog_13_method_71_code 60 = .ok (.iinc 4 1, 3) := by decide +kernel
theorem dX11_collects_63 : decode prog_13_method_71_code 63 = .ok (.goto (-60), 3) := by decide +kernel
theorem dX11_collects_66 : decode prog_13_method_71_code 66 = .ok (.iload_n 2, 1) := by decide +kernel
theorem dX11_collects_67 : decode prog_13_method_71_code 67 = .ok (.aload_n 0, 1) := by decide +kernel
theorem dX11_collects_68 : decode prog_13_method_71_code 68 = .ok (.getfield 13, 3) := by decide +kernel
theorem dX11_collects_71 : decode prog_13_method_71_code 71 = .ok (.iload_n 1, 1) := by decide +kernel
theorem dX11_collects_72 : decode prog_13_method_71_code 72 = .ok (.iaload, 1) := by decide +kernel
theorem dX11_collects_73 : decode prog_13_method_71_code 73 = .ok (.iadd, 1) := by decide +kernel
theorem dX11_collects_74 : decode prog_13_method_71_code 74 = .ok (.ireturn, 1) := by decide +kernel
theorem sX11_collects_3 {Q : Int → Hp → Prop} {h : Hp} {l1 l2 l3 l4 : Int}
    (hP : (ix l1 4) ∧
    ((l4 ≥ (h 105 l1)) →
     (ix l1 4 ∧ rj (l2 + (h 105 l1))) ∧
     Q (l2 + (h 105 l1)) h) ∧
    ((l4 < (h 105 l1)) →
     (rj (l2 + l4) ∧ rj (40 * l1) ∧ rj ((40 * l1) + l4) ∧ ix ((40 * l1) + l4) 160 ∧ rj ((h 106 ((40 * l1) + l4)) + l3) ∧ ix (l2 + l4) 80 ∧ rj ((h 107 ((40 * l1) + l4)) + l3) ∧ rj (l4 + 1)) ∧
     E 0 mX11_collects 3 [(0, vr 103), (1, vi l1), (2, vi l2), (3, vi l3), (4, vi (l4 + 1))] [] (up (up h 125 (l2 + l4) ((h 106 ((40 * l1) + l4)) + l3)) 126 (l2 + l4) ((h 107 ((40 * l1) + l4)) + l3)) (qi Q))) :
    E 0 mX11_collects 3 [(0, vr 103), (1, vi l1), (2, vi l2), (3, vi l3), (4, vi l4)] [] h (qi Q) := by
  obtain ⟨v1_0, hP⟩ := hP
  refine E_iload 4 dX11_collects_3 rfl ?_
  refine E_aload_n 0 0 dX11_collects_5 rfl rfl ?_
  refine E_gR 105 1 dX11_collects_6 FX11_13 ic_103 (by decide) ?_
  refine E_iload_n 1 1 dX11_collects_9 rfl rfl ?_
  refine E_iaload dX11_collects_10 ic_105 v1_0.1 v1_0.2 ?_
  refine E_icmp_ge 66 dX11_collects_11 rfl (fun hc => ?_) (fun hc => ?_)
  · replace hP := hP.1 (hc)
    obtain ⟨⟨v2_0, v2_1⟩, hP⟩ := hP
    refine E_iload_n 2 2 dX11_collects_66 rfl rfl ?_
    refine E_aload_n 0 0 dX11_collects_67 rfl rfl ?_
    refine E_gR 105 1 dX11_collects_68 FX11_13 ic_103 (by decide) ?_
    refine E_iload_n 1 1 dX11_collects_71 rfl rfl ?_
    refine E_iaload dX11_collects_72 ic_105 v2_0.1 v2_0.2 ?_
    refine E_iadd dX11_collects_73 (rgI v2_1) ?_
    exact E_retI dX11_collects_74 rfl hP
  · replace hP := hP.2 (by omega)
    obtain ⟨⟨v3_0, v3_1, v3_2, v3_3, v3_4, v3_5, v3_6, v3_7⟩, hP⟩ := hP
    refine E_aload_n 0 0 dX11_collects_14 rfl rfl ?_
    refine E_gR 125 31 dX11_collects_15 FX11_74 ic_103 (by decide) ?_
    refine E_iload_n 2 2 dX11_collects_18 rfl rfl ?_
    refine E_iload 4 dX11_collects_19 rfl ?_
    refine E_iadd dX11_collects_21 (rgI v3_0) ?_
    refine E_aload_n 0 0 dX11_collects_22 rfl rfl ?_
    refine E_gR 106 2 dX11_collects_23 FX11_16 ic_103 (by decide) ?_
    refine E_bipush dX11_collects_26 (by decide) ?_
    refine E_iload_n 1 1 dX11_collects_28 rfl rfl ?_
    refine E_imul dX11_collects_29 (rgI v3_1) ?_
    refine E_iload 4 dX11_collects_30 rfl ?_
    refine E_iadd dX11_collects_32 (rgI v3_2) ?_
    refine E_iaload dX11_collects_33 ic_106 v3_3.1 v3_3.2 ?_
    refine E_iload_n 3 3 dX11_collects_34 rfl rfl ?_
    refine E_iadd dX11_collects_35 (rgI v3_4) ?_
    refine E_iastore dX11_collects_36 ic_125 v3_5.1 v3_5.2 ?_
    refine E_aload_n 0 0 dX11_collects_37 rfl rfl ?_
    refine E_gR 126 32 dX11_collects_38 FX11_77 ic_103 (by decide) ?_
    refine E_iload_n 2 2 dX11_collects_41 rfl rfl ?_
    refine E_iload 4 dX11_collects_42 rfl ?_
    refine E_iadd dX11_collects_44 (rgI v3_0) ?_
    refine E_aload_n 0 0 dX11_collects_45 rfl rfl ?_
    refine E_gR 107 3 dX11_collects_46 FX11_19 ic_103 (by decide) ?_
    refine E_bipush dX11_collects_49 (by decide) ?_
    refine E_iload_n 1 1 dX11_collects_51 rfl rfl ?_
    refine E_imul dX11_collects_52 (rgI v3_1) ?_
    refine E_iload 4 dX11_collects_53 rfl ?_
    refine E_iadd dX11_collects_55 (rgI v3_2) ?_
    refine E_iaload dX11_collects_56 ic_107 v3_3.1 v3_3.2 ?_
    refine E_top (y := (h 107 ((40 * l1) + l4))) (by simp [up]) ?_
    refine E_iload_n 3 3 dX11_collects_57 rfl rfl ?_
    refine E_iadd dX11_collects_58 (rgI v3_6) ?_
    refine E_iastore dX11_collects_59 ic_126 v3_5.1 v3_5.2 ?_
    refine E_iinc 4 dX11_collects_60 rfl (rgI v3_7) (by decide) rfl ?_
    refine E_goto 3 dX11_collects_63 rfl ?_
    exact E_sub [1, 2, 3, 4, 0] rfl hP
theorem sX11_collects {Q : Int → Hp → Prop} {h : Hp} {l1 l2 l3 : Int}
    (hP : E 0 mX11_collects 3 [(0, vr 103), (1, vi l1), (2, vi l2), (3, vi l3), (4, vi 0)] [] h (qi Q)) :
    CI 0 mX11_collects [vr 103, vi l1, vi l2, vi l3] h Q := by
  refine CI_of_E fX11_collects.1 rfl (Nat.le_of_ble_eq_true rfl) ?_
  show E 0 mX11_collects 0 [(0, vr 103), (1, vi l1), (2, vi l2), (3, vi l3)] [] h (qi Q)
  refine E_iconst dX11_collects_0 (rg_of rfl) ?_
  refine E_istore dX11_collects_1 (by decide) rfl ?_
  exact E_sub [1, 2, 3, 4, 0] rfl hP
theorem dX11_becomes_0 : decode prog_13_method_72_code 0 = .ok (.aload_n 0, 1) := by decide +kernel
theorem dX11_becomes_1 : decode prog_13_method_72_code 1 = .ok (.getfield 9, 3) := by decide +kernel
theorem dX11_becomes_4 : decode prog_13_method_72_code 4 = .ok (.iload_n 1, 1) := by decide +kernel
theorem dX11_becomes_5 : decode prog_13_method_72_code 5 = .ok (.iload_n 2, 1) := by decide +kernel
theorem dX11_becomes_6 : decode prog_13_method_72_code 6 = .ok (.iastore, 1) := by decide +kernel
theorem dX11_becomes_7 : decode prog_13_method_72_code 7 = .ok (.aload_n 0, 1) := by decide +kernel
theorem dX11_becomes_8 : decode prog_13_method_72_code 8 = .ok (.getfield 13, 3) := by decide +kernel
theorem dX11_becomes_11 : decode prog_13_method_72_code 11 = .ok (.iload_n 1, 1) := by decide +kernel
theorem dX11_becomes_12 : decode prog_13_method_72_code 12 = .ok (.iconst 0, 1) := by decide +kernel
theorem dX11_becomes_13 : decode prog_13_method_72_code 13 = .ok (.iastore, 1) := by decide +kernel
theorem dX11_becomes_14 : decode prog_13_method_72_code 14 = .ok (.iconst 0, 1) := by decide +kernel
theorem dX11_becomes_15 : decode prog_13_method_72_code 15 = .ok (.istore 4, 2) := by decide +kernel
theorem dX11_becomes_17 : decode prog_13_method_72_code 17 = .ok (.iload 4, 2) := by decide +kernel
theorem dX11_becomes_19 : decode prog_13_method_72_code 19 = .ok (.iload_n 3, 1) := by decide +kernel
theorem dX11_becomes_20 : decode prog_13_method_72_code 20 = .ok (.if_icmp .ge 28, 3) := by decide +kernel
theorem dX11_becomes_23 : decode prog_13_method_72_code 23 = .ok (.aload_n 0, 1) := by decide +kernel
theorem dX11_becomes_24 : decode prog_13_method_72_code 24 = .ok (.iload_n 1, 1) := by decide +kernel
theorem dX11_becomes_25 : decode prog_13_method_72_code 25 = .ok (.aload_n 0, 1) := by decide +kernel
theorem dX11_becomes_26 : decode prog_13_method_72_code 26 = .ok (.getfield 74, 3) := by decide +kernel
theorem dX11_becomes_29 : decode prog_13_method_72_code 29 = .ok (.iload 4, 2) := by decide +kernel
theorem dX11_becomes_31 : decode prog_13_method_72_code 31 = .ok (.iaload, 1) := by decide +kernel
theorem dX11_becomes_32 : decode prog_13_method_72_code 32 = .ok (.aload_n 0, 1) := by decide +kernel
theorem dX11_becomes_33 : decode prog_13_method_72_code 33 = .ok (.getfield 77, 3) := by decide +kernel
theorem dX11_becomes_36 : decode prog_13_method_72_code 36 = .ok (.iload 4, 2) := by decide +kernel
theorem dX11_becomes_38 : decode prog_13_method_72_code 38 = .ok (.iaload, 1) := by decide +kernel
theorem dX11_becomes_39 : decode prog_13_method_72_code 39 = .ok (.invokevirtual 217, 3) := by decide +kernel
theorem dX11_becomes_42 : decode prog_13_method_72_code 42 = .ok (.iinc 4 1, 3) := by decide +kernel
theorem dX11_becomes_45 : decode prog_13_method_72_code 45 = .ok (.goto (-28), 3) := by decide +kernel
theorem dX11_becomes_48 : decode prog_13_method_72_code 48 = .ok (.return_, 1) := by decide +kernel
theorem sX11_becomes_17 {Q : Hp → Prop} {h : Hp} {l1 l3 l4 : Int}
    (hP : ((l4 ≥ l3) →
     Q h) ∧
    ((l4 < l3) →
     (ix l4 80) ∧
     CV 1 mX11_appends [vr 103, vi l1, vi (h 125 l4), vi (h 126 l4)] h (fun h4 =>
      (rj (l4 + 1)) ∧
      E 2 mX11_becomes 17 [(0, vr 103), (1, vi l1), (3, vi l3), (4, vi (l4 + 1))] [] h4 (qv Q)))) :
    E 2 mX11_becomes 17 [(0, vr 103), (1, vi l1), (3, vi l3), (4, vi l4)] [] h (qv Q) := by
  refine E_iload 3 dX11_becomes_17 rfl ?_
  refine E_iload_n 2 3 dX11_becomes_19 rfl rfl ?_
  refine E_icmp_ge 48 dX11_becomes_20 rfl (fun hc => ?_) (fun hc => ?_)
  · replace hP := hP.1 (hc)
    exact E_retV dX11_becomes_48 rfl hP
  · replace hP := hP.2 (by omega)
    obtain ⟨v3_0, hP⟩ := hP
    refine E_aload_n 0 0 dX11_becomes_23 rfl rfl ?_
    refine E_iload_n 1 1 dX11_becomes_24 rfl rfl ?_
    refine E_aload_n 0 0 dX11_becomes_25 rfl rfl ?_
    refine E_gR 125 31 dX11_becomes_26 FX11_74 ic_103 (by decide) ?_
    refine E_iload 3 dX11_becomes_29 rfl ?_
    refine E_iaload dX11_becomes_31 ic_125 v3_0.1 v3_0.2 ?_
    refine E_aload_n 0 0 dX11_becomes_32 rfl rfl ?_
    refine E_gR 126 32 dX11_becomes_33 FX11_77 ic_103 (by decide) ?_
    refine E_iload 3 dX11_becomes_36 rfl ?_
    refine E_iaload dX11_becomes_38 ic_126 v3_0.1 v3_0.2 ?_
    refine E_invVV [vi l1, vi (h 125 l4), vi (h 126 l4)] dX11_becomes_39 fX11_appends lX11_217 ic_103 rfl (by decide) rfl rfl (Nat.le_of_ble_eq_true rfl) (CV_mono hP (fun h4 hP => ?_))
    obtain ⟨v5_0, hP⟩ := hP
    refine E_iinc 3 dX11_becomes_42 rfl (rgI v5_0) (by decide) rfl ?_
    refine E_goto 17 dX11_becomes_45 rfl ?_
    exact E_sub [1, 2, 3, 0] rfl hP
theorem sX11_becomes {Q : Hp → Prop} {h : Hp} {l1 l2 l3 : Int}
    (hP : (ix l1 4) ∧
    E 2 mX11_becomes 17 [(0, vr 103), (1, vi l1), (3, vi l3), (4, vi 0)] [] (up (up h 104 l1 l2) 105 l1 0) (qv Q)) :
    CV 2 mX11_becomes [vr 103, vi l1, vi l2, vi l3] h Q := by
  refine CV_of_E fX11_becomes.1 rfl (Nat.le_of_ble_eq_true rfl) ?_
  show E 2 mX11_becomes 0 [(0, vr 103), (1, vi l1), (2, vi l2), (3, vi l3)] [] h (qv Q)
  obtain ⟨v1_0, hP⟩ := hP
  refine E_aload_n 0 0 dX11_becomes_0 rfl rfl ?_
  refine E_gR 104 0 dX11_becomes_1 FX11_9 ic_103 (by decide) ?_
  refine E_iload_n 1 1 dX11_becomes_4 rfl rfl ?_
  refine E_iload_n 2 2 dX11_becomes_5 rfl rfl ?_
  refine E_iastore dX11_becomes_6 ic_104 v1_0.1 v1_0.2 ?_
  refine E_aload_n 0 0 dX11_becomes_7 rfl rfl ?_
  refine E_gR 105 1 dX11_becomes_8 FX11_13 ic_103 (by decide) ?_
  refine E_iload_n 1 1 dX11_becomes_11 rfl rfl ?_
  refine E_iconst dX11_becomes_12 (rg_of rfl) ?_
  refine E_iastore dX11_becomes_13 ic_105 v1_0.1 v1_0.2 ?_
  refine E_iconst dX11_becomes_14 (rg_of rfl) ?_
  refine E_istore dX11_becomes_15 (by decide) rfl ?_
  exact E_sub [1, 2, 4, 0] rfl hP
theorem dX11_concatenate_0 : decode prog_13_method_73_code 0 = .ok (.iload_n 1, 1) := by decide +kernel
theorem dX11_concatenate_1 : decode prog_13_method_73_code 1 = .ok (.invokestatic 88, 3) := by decide +kernel
theorem dX11_concatenate_4 : decode prog_13_method_73_code 4 = .ok (.ifCond .eq 17, 3) := by decide +kernel
theorem dX11_concatenate_7 : decode prog_13_method_73_code 7 = .ok (.iload_n 2, 1) := by decide +kernel
theorem dX11_concatenate_8 : decode prog_13_method_73_code 8 = .ok (.invokestatic 88, 3) := by decide +kernel
theorem dX11_concatenate_11 : decode prog_13_method_73_code 11 = .ok (.ifCond .eq 10, 3) := by decide +kernel
theorem dX11_concatenate_14 : decode prog_13_method_73_code 14 = .ok (.iload_n 3, 1) := by decide +kernel
theorem dX11_concatenate_15 : decode prog_13_method_73_code 15 = .ok (.invokestatic 88, 3) := by decide +kernel
theorem dX11_concatenate_18 : decode prog_13_method_73_code 18 = .ok (.ifCond .ne 5, 3) := by decide +kernel
theorem dX11_concatenate_21 : decode prog_13_method_73_code 21 = .ok (.iconst (-1), 1) := by decide +kernel
theorem dX11_concatenate_22 : decode prog_13_method_73_code 22 = .ok (.ireturn, 1) := by decide +kernel
theorem dX11_concatenate_23 : decode prog_13_method_73_code 23 = .ok (.aload_n 0, 1) := by decide +kernel
theorem dX11_concatenate_24 : decode prog_13_method_73_code 24 = .ok (.getfield 9, 3) := by decide +kernel
theorem dX11_concatenate_27 : decode prog_13_method_73_code 27 = .ok (.iload_n 1, 1) := by decide +kernel
theorem dX11_concatenate_28 : decode prog_13_method_73_code 28 = .ok (.iaload, 1) := by decide +kernel
theorem dX11_concatenate_29 : decode prog_13_method_73_code 29 = .ok (.aload_n 0, 1) := by decide +kernel
theorem dX11_concatenate_30 : decode prog_13_method_73_code 30 = .ok (.getfield 9, 3) := by decide +kernel
theorem dX11_concatenate_33 : decode prog_13_method_73_code 33 = .ok (.iload_n 2, 1) := by decide +kernel
theorem dX11_concatenate_34 : decode prog_13_method_73_code 34 = .ok (.iaload, 1) := by decide +kernel
theorem dX11_concatenate_35 : decode prog_13_method_73_code 35 = .ok (.if_icmp .eq 6, 3) := by decide +kernel
theorem dX11_concatenate_38 : decode prog_13_method_73_code 38 = .ok (.bipush (-2), 2) := by decide +kernel
theorem dX11_concatenate_40 : decode prog_13_method_73_code 40 = .ok (.ireturn, 1) := by decide +kernel
theorem dX11_concatenate_41 : decode prog_13_method_73_code 41 = .ok (.aload_n 0, 1) := by decide +kernel
theorem dX11_concatenate_42 : decode prog_13_method_73_code 42 = .ok (.getfield 13, 3) := by decide +kernel
theorem dX11_concatenate_45 : decode prog_13_method_73_code 45 = .ok (.iload_n 1, 1) := by decide +kernel
theorem dX11_concatenate_46 : decode prog_13_method_73_code 46 = .ok (.iaload, 1) := by decide +kernel
theorem dX11_concatenate_47 : decode prog_13_method_73_code 47 = .ok (.aload_n 0, 1) := by decide +kernel
theorem dX11_concatenate_48 : decode prog_13_method_73_code 48 = .ok (.getfield 13, 3) := by decide +kernel
theorem dX11_concatenate_51 : decode prog_13_method_73_code 51 = .ok (.iload_n 2, 1) := by decide +kernel
theorem dX11_concatenate_52 : decode prog_13_method_73_code 52 = .ok (.iaload, 1) := by decide +kernel
theorem dX11_concatenate_53 : decode prog_13_method_73_code 53 = .ok (.iadd, 1) := by decide +kernel
theorem dX11_concatenate_54 : decode prog_13_method_73_code 54 = .ok (.bipush 40, 2) := by decide +kernel
theorem dX11_concatenate_56 : decode prog_13_method_73_code 56 = .ok (.if_icmp .le 6, 3) := by decide +kernel
theorem dX11_concatenate_59 : decode prog_13_method_73_code 59 = .ok (.bipush (-3), 2) := by decide +kernel
theorem dX11_concatenate_61 : decode prog_13_method_73_code 61 = .ok (.ireturn, 1) := by decide +kernel
theorem dX11_concatenate_62 : decode prog_13_method_73_code 62 = .ok (.aload_n 0, 1) := by decide +kernel
theorem dX11_concatenate_63 : decode prog_13_method_73_code 63 = .ok (.invokevirtual 92, 3) := by decide +kernel
theorem dX11_concatenate_66 : decode prog_13_method_73_code 66 = .ok (.aload_n 0, 1) := by decide +kernel
theorem dX11_concatenate_67 : decode prog_13_method_73_code 67 = .ok (.iload_n 2, 1) := by decide +kernel
theorem dX11_concatenate_68 : decode prog_13_method_73_code 68 = .ok (.aload_n 0, 1) := by decide +kernel
theorem dX11_concatenate_69 : decode prog_13_method_73_code 69 = .ok (.iload_n 1, 1) := by decide +kernel
theorem dX11_concatenate_70 : decode prog_13_method_73_code 70 = .ok (.iconst 0, 1) := by decide +kernel
theorem dX11_concatenate_71 : decode prog_13_method_73_code 71 = .ok (.iconst 0, 1) := by decide +kernel
theorem dX11_concatenate_72 : decode prog_13_method_73_code 72 = .ok (.invokevirtual 221, 3) := by decide +kernel
theorem dX11_concatenate_75 : decode prog_13_method_73_code 75 = .ok (.iconst 0, 1) := by decide +kernel
theorem dX11_concatenate_76 : decode prog_13_method_73_code 76 = .ok (.invokevirtual 221, 3) := by decide +kernel
theorem dX11_concatenate_79 : decode prog_13_method_73_code 79 = .ok (.istore 4, 2) := by decide +kernel
theorem dX11_concatenate_81 : decode prog_13_method_73_code 81 = .ok (.aload_n 0, 1) := by decide +kernel
theorem dX11_concatenate_82 : decode prog_13_method_73_code 82 = .ok (.iload_n 3, 1) := by decide +kernel
theorem dX11_concatenate_83 : decode prog_13_method_73_code 83 = .ok (.aload_n 0, 1) := by decide +kernel
theorem dX11_concatenate_84 : decode prog_13_method_73_code 84 = .ok (.getfield 9, 3) := by decide +kernel
theorem dX11_concatenate_87 : decode prog_13_method_73_code 87 = .ok (.iload_n 1, 1) := by decide +kernel
theorem dX11_concatenate_88 : decode prog_13_method_73_code 88 = .ok (.iaload, 1) := by decide +kernel
theorem dX11_concatenate_89 : decode prog_13_method_73_code 89 = .ok (.iload 4, 2) := by decide +kernel
theorem dX11_concatenate_91 : decode prog_13_method_73_code 91 = .ok (.invokevirtual 224, 3) := by decide +kernel
theorem dX11_concatenate_94 : decode prog_13_method_73_code 94 = .ok (.iload 4, 2) := by decide +kernel
theorem dX11_concatenate_96 : decode prog_13_method_73_code 96 = .ok (.ireturn, 1) := by decide +kernel
theorem sX11_concatenate {Q : Int → Hp → Prop} {h : Hp} {l1 l2 l3 : Int}
    (hP : ((l1 < 0 ∨ l1 > 3) →
     Q (-1) h) ∧
    ((l1 ≥ 0 ∧ l1 ≤ 3) →
     ((l2 < 0 ∨ l2 > 3) →
      Q (-1) h) ∧
     ((l2 ≥ 0 ∧ l2 ≤ 3) →
      ((l3 ≥ 0 ∧ l3 ≤ 3) →
       (ix l1 4 ∧ ix l2 4) ∧
       (((h 104 l1) = (h 104 l2)) →
        (ix l1 4 ∧ ix l2 4 ∧ rj ((h 105 l1) + (h 105 l2))) ∧
        ((((h 105 l1) + (h 105 l2)) ≤ 40) →
         CV 0 mX11_remembers [vr 103] h (fun h9 =>
          CI 0 mX11_collects [vr 103, vi l1, vi 0, vi 0] h9 (fun r12 h11 =>
           CI 0 mX11_collects [vr 103, vi l2, vi r12, vi 0] h11 (fun r15 h14 =>
            (ix l1 4) ∧
            CV 2 mX11_becomes [vr 103, vi l3, vi (h14 104 l1), vi r15] h14 (fun h17 =>
             Q r15 h17))))) ∧
        ((((h 105 l1) + (h 105 l2)) > 40) →
         Q (-3) h)) ∧
       (((h 104 l1) ≠ (h 104 l2)) →
        Q (-2) h)) ∧
      ((l3 < 0 ∨ l3 > 3) →
       Q (-1) h)))) :
    CI 3 mX11_concatenate [vr 103, vi l1, vi l2, vi l3] h Q := by
  refine CI_of_E fX11_concatenate.1 rfl (Nat.le_of_ble_eq_true rfl) ?_
  show E 3 mX11_concatenate 0 [(0, vr 103), (1, vi l1), (2, vi l2), (3, vi l3)] [] h (qi Q)
  refine E_iload_n 1 1 dX11_concatenate_0 rfl rfl ?_
  refine E_invSI [vi l1] dX11_concatenate_1 fX11_isNet lX11_88 (by decide) rfl rfl (Nat.le_of_ble_eq_true rfl) (sX11_isNet (h := h) (l0 := l1) ?_)
  refine E_if_eq 21 dX11_concatenate_4 rfl (fun hc => ?_) (fun hc => ?_)
  · replace hP := hP.1 (by have := ite0 hc; omega)
    refine E_iconst dX11_concatenate_21 (rg_of rfl) ?_
    exact E_retI dX11_concatenate_22 rfl hP
  · replace hP := hP.2 (by have := ite1 hc; omega)
    refine E_iload_n 2 2 dX11_concatenate_7 rfl rfl ?_
    refine E_invSI [vi l2] dX11_concatenate_8 fX11_isNet lX11_88 (by decide) rfl rfl (Nat.le_of_ble_eq_true rfl) (sX11_isNet (h := h) (l0 := l2) ?_)
    refine E_if_eq 21 dX11_concatenate_11 rfl (fun hc => ?_) (fun hc => ?_)
    · replace hP := hP.1 (by have := ite0 hc; omega)
      refine E_iconst dX11_concatenate_21 (rg_of rfl) ?_
      exact E_retI dX11_concatenate_22 rfl hP
    · replace hP := hP.2 (by have := ite1 hc; omega)
      refine E_iload_n 3 3 dX11_concatenate_14 rfl rfl ?_
      refine E_invSI [vi l3] dX11_concatenate_15 fX11_isNet lX11_88 (by decide) rfl rfl (Nat.le_of_ble_eq_true rfl) (sX11_isNet (h := h) (l0 := l3) ?_)
      refine E_if_ne 23 dX11_concatenate_18 rfl (fun hc => ?_) (fun hc => ?_)
      · replace hP := hP.1 (by have := ite1' hc; omega)
        obtain ⟨⟨v6_0, v6_1⟩, hP⟩ := hP
        refine E_aload_n 0 0 dX11_concatenate_23 rfl rfl ?_
        refine E_gR 104 0 dX11_concatenate_24 FX11_9 ic_103 (by decide) ?_
        refine E_iload_n 1 1 dX11_concatenate_27 rfl rfl ?_
        refine E_iaload dX11_concatenate_28 ic_104 v6_0.1 v6_0.2 ?_
        refine E_aload_n 0 0 dX11_concatenate_29 rfl rfl ?_
        refine E_gR 104 0 dX11_concatenate_30 FX11_9 ic_103 (by decide) ?_
        refine E_iload_n 2 2 dX11_concatenate_33 rfl rfl ?_
        refine E_iaload dX11_concatenate_34 ic_104 v6_1.1 v6_1.2 ?_
        refine E_icmp_eq 41 dX11_concatenate_35 rfl (fun hc => ?_) (fun hc => ?_)
        · replace hP := hP.1 (hc)
          obtain ⟨⟨v7_0, v7_1, v7_2⟩, hP⟩ := hP
          refine E_aload_n 0 0 dX11_concatenate_41 rfl rfl ?_
          refine E_gR 105 1 dX11_concatenate_42 FX11_13 ic_103 (by decide) ?_
          refine E_iload_n 1 1 dX11_concatenate_45 rfl rfl ?_
          refine E_iaload dX11_concatenate_46 ic_105 v7_0.1 v7_0.2 ?_
          refine E_aload_n 0 0 dX11_concatenate_47 rfl rfl ?_
          refine E_gR 105 1 dX11_concatenate_48 FX11_13 ic_103 (by decide) ?_
          refine E_iload_n 2 2 dX11_concatenate_51 rfl rfl ?_
          refine E_iaload dX11_concatenate_52 ic_105 v7_1.1 v7_1.2 ?_
          refine E_iadd dX11_concatenate_53 (rgI v7_2) ?_
          refine E_bipush dX11_concatenate_54 (by decide) ?_
          refine E_icmp_le 62 dX11_concatenate_56 rfl (fun hc => ?_) (fun hc => ?_)
          · replace hP := hP.1 (hc)
            refine E_aload_n 0 0 dX11_concatenate_62 rfl rfl ?_
            refine E_invVV [] dX11_concatenate_63 fX11_remembers lX11_92 ic_103 rfl (by decide) rfl rfl (Nat.le_of_ble_eq_true rfl) (CV_mono hP (fun h9 hP => ?_))
            refine E_aload_n 0 0 dX11_concatenate_66 rfl rfl ?_
            refine E_iload_n 2 2 dX11_concatenate_67 rfl rfl ?_
            refine E_aload_n 0 0 dX11_concatenate_68 rfl rfl ?_
            refine E_iload_n 1 1 dX11_concatenate_69 rfl rfl ?_
            refine E_iconst dX11_concatenate_70 (rg_of rfl) ?_
            refine E_iconst dX11_concatenate_71 (rg_of rfl) ?_
            refine E_invVI [vi l1, vi 0, vi 0] dX11_concatenate_72 fX11_collects lX11_221 ic_103 rfl (by decide) rfl rfl (Nat.le_of_ble_eq_true rfl) (CI_mono hP (fun r12 h11 hP => ?_))
            refine E_iconst dX11_concatenate_75 (rg_of rfl) ?_
            refine E_invVI [vi l2, vi r12, vi 0] dX11_concatenate_76 fX11_collects lX11_221 ic_103 rfl (by decide) rfl rfl (Nat.le_of_ble_eq_true rfl) (CI_mono hP (fun r15 h14 hP => ?_))
            obtain ⟨v16_0, hP⟩ := hP
            refine E_istore dX11_concatenate_79 (by decide) rfl ?_
            refine E_aload_n 1 0 dX11_concatenate_81 rfl rfl ?_
            refine E_iload_n 4 3 dX11_concatenate_82 rfl rfl ?_
            refine E_aload_n 1 0 dX11_concatenate_83 rfl rfl ?_
            refine E_gR 104 0 dX11_concatenate_84 FX11_9 ic_103 (by decide) ?_
            refine E_iload_n 2 1 dX11_concatenate_87 rfl rfl ?_
            refine E_iaload dX11_concatenate_88 ic_104 v16_0.1 v16_0.2 ?_
            refine E_iload 0 dX11_concatenate_89 rfl ?_
            refine E_invVV [vi l3, vi (h14 104 l1), vi r15] dX11_concatenate_91 fX11_becomes lX11_224 ic_103 rfl (by decide) rfl rfl (Nat.le_of_ble_eq_true rfl) (CV_mono hP (fun h17 hP => ?_))
            refine E_iload 0 dX11_concatenate_94 rfl ?_
            exact E_retI dX11_concatenate_96 rfl hP
          · replace hP := hP.2 (by omega)
            refine E_bipush dX11_concatenate_59 (by decide) ?_
            exact E_retI dX11_concatenate_61 rfl hP
        · replace hP := hP.2 (by omega)
          refine E_bipush dX11_concatenate_38 (by decide) ?_
          exact E_retI dX11_concatenate_40 rfl hP
      · replace hP := hP.2 (by have := ite0 hc; omega)
        refine E_iconst dX11_concatenate_21 (rg_of rfl) ?_
        exact E_retI dX11_concatenate_22 rfl hP
theorem dX11_beside_0 : decode prog_13_method_74_code 0 = .ok (.iload_n 1, 1) := by decide +kernel
theorem dX11_beside_1 : decode prog_13_method_74_code 1 = .ok (.invokestatic 88, 3) := by decide +kernel
theorem dX11_beside_4 : decode prog_13_method_74_code 4 = .ok (.ifCond .eq 17, 3) := by decide +kernel
theorem dX11_beside_7 : decode prog_13_method_74_code 7 = .ok (.iload_n 2, 1) := by decide +kernel
theorem dX11_beside_8 : decode prog_13_method_74_code 8 = .ok (.invokestatic 88, 3) := by decide +kernel
theorem dX11_beside_11 : decode prog_13_method_74_code 11 = .ok (.ifCond .eq 10, 3) := by decide +kernel
theorem dX11_beside_14 : decode prog_13_method_74_code 14 = .ok (.iload_n 3, 1) := by decide +kernel
theorem dX11_beside_15 : decode prog_13_method_74_code 15 = .ok (.invokestatic 88, 3) := by decide +kernel
theorem dX11_beside_18 : decode prog_13_method_74_code 18 = .ok (.ifCond .ne 5, 3) := by decide +kernel
theorem dX11_beside_21 : decode prog_13_method_74_code 21 = .ok (.iconst (-1), 1) := by decide +kernel
theorem dX11_beside_22 : decode prog_13_method_74_code 22 = .ok (.ireturn, 1) := by decide +kernel
theorem dX11_beside_23 : decode prog_13_method_74_code 23 = .ok (.aload_n 0, 1) := by decide +kernel
theorem dX11_beside_24 : decode prog_13_method_74_code 24 = .ok (.getfield 9, 3) := by decide +kernel
theorem dX11_beside_27 : decode prog_13_method_74_code 27 = .ok (.iload_n 1, 1) := by decide +kernel
theorem dX11_beside_28 : decode prog_13_method_74_code 28 = .ok (.iaload, 1) := by decide +kernel
theorem dX11_beside_29 : decode prog_13_method_74_code 29 = .ok (.aload_n 0, 1) := by decide +kernel
theorem dX11_beside_30 : decode prog_13_method_74_code 30 = .ok (.getfield 9, 3) := by decide +kernel
theorem dX11_beside_33 : decode prog_13_method_74_code 33 = .ok (.iload_n 2, 1) := by decide +kernel
theorem dX11_beside_34 : decode prog_13_method_74_code 34 = .ok (.iaload, 1) := by decide +kernel
theorem dX11_beside_35 : decode prog_13_method_74_code 35 = .ok (.iadd, 1) := by decide +kernel
theorem dX11_beside_36 : decode prog_13_method_74_code 36 = .ok (.bipush 8, 2) := by decide +kernel
theorem dX11_beside_38 : decode prog_13_method_74_code 38 = .ok (.if_icmp .le 6, 3) := by decide +kernel
theorem dX11_beside_41 : decode prog_13_method_74_code 41 = .ok (.bipush (-6), 2) := by decide +kernel
theorem dX11_beside_43 : decode prog_13_method_74_code 43 = .ok (.ireturn, 1) := by decide +kernel
theorem dX11_beside_44 : decode prog_13_method_74_code 44 = .ok (.aload_n 0, 1) := by decide +kernel
theorem dX11_beside_45 : decode prog_13_method_74_code 45 = .ok (.getfield 13, 3) := by decide +kernel
theorem dX11_beside_48 : decode prog_13_method_74_code 48 = .ok (.iload_n 1, 1) := by decide +kernel
theorem dX11_beside_49 : decode prog_13_method_74_code 49 = .ok (.iaload, 1) := by decide +kernel
theorem dX11_beside_50 : decode prog_13_method_74_code 50 = .ok (.aload_n 0, 1) := by decide +kernel
theorem dX11_beside_51 : decode prog_13_method_74_code 51 = .ok (.getfield 13, 3) := by decide +kernel
theorem dX11_beside_54 : decode prog_13_method_74_code 54 = .ok (.iload_n 2, 1) := by decide +kernel
theorem dX11_beside_55 : decode prog_13_method_74_code 55 = .ok (.iaload, 1) := by decide +kernel
theorem dX11_beside_56 : decode prog_13_method_74_code 56 = .ok (.iadd, 1) := by decide +kernel
theorem dX11_beside_57 : decode prog_13_method_74_code 57 = .ok (.bipush 40, 2) := by decide +kernel
theorem dX11_beside_59 : decode prog_13_method_74_code 59 = .ok (.if_icmp .le 6, 3) := by decide +kernel
theorem dX11_beside_62 : decode prog_13_method_74_code 62 = .ok (.bipush (-3), 2) := by decide +kernel
theorem dX11_beside_64 : decode prog_13_method_74_code 64 = .ok (.ireturn, 1) := by decide +kernel
theorem dX11_beside_65 : decode prog_13_method_74_code 65 = .ok (.aload_n 0, 1) := by decide +kernel
theorem dX11_beside_66 : decode prog_13_method_74_code 66 = .ok (.invokevirtual 92, 3) := by decide +kernel
theorem dX11_beside_69 : decode prog_13_method_74_code 69 = .ok (.aload_n 0, 1) := by decide +kernel
theorem dX11_beside_70 : decode prog_13_method_74_code 70 = .ok (.iload_n 2, 1) := by decide +kernel
theorem dX11_beside_71 : decode prog_13_method_74_code 71 = .ok (.aload_n 0, 1) := by decide +kernel
theorem dX11_beside_72 : decode prog_13_method_74_code 72 = .ok (.iload_n 1, 1) := by decide +kernel
theorem dX11_beside_73 : decode prog_13_method_74_code 73 = .ok (.iconst 0, 1) := by decide +kernel
theorem dX11_beside_74 : decode prog_13_method_74_code 74 = .ok (.iconst 0, 1) := by decide +kernel
theorem dX11_beside_75 : decode prog_13_method_74_code 75 = .ok (.invokevirtual 221, 3) := by decide +kernel
theorem dX11_beside_78 : decode prog_13_method_74_code 78 = .ok (.aload_n 0, 1) := by decide +kernel
theorem dX11_beside_79 : decode prog_13_method_74_code 79 = .ok (.getfield 9, 3) := by decide +kernel
theorem dX11_beside_82 : decode prog_13_method_74_code 82 = .ok (.iload_n 1, 1) := by decide +kernel
theorem dX11_beside_83 : decode prog_13_method_74_code 83 = .ok (.iaload, 1) := by decide +kernel
theorem dX11_beside_84 : decode prog_13_method_74_code 84 = .ok (.invokevirtual 221, 3) := by decide +kernel
theorem dX11_beside_87 : decode prog_13_method_74_code 87 = .ok (.istore 4, 2) := by decide +kernel
theorem dX11_beside_89 : decode prog_13_method_74_code 89 = .ok (.aload_n 0, 1) := by decide +kernel
theorem dX11_beside_90 : decode prog_13_method_74_code 90 = .ok (.iload_n 3, 1) := by decide +kernel
theorem dX11_beside_91 : decode prog_13_method_74_code 91 = .ok (.aload_n 0, 1) := by decide +kernel
theorem dX11_beside_92 : decode prog_13_method_74_code 92 = .ok (.getfield 9, 3) := by decide +kernel
theorem dX11_beside_95 : decode prog_13_method_74_code 95 = .ok (.iload_n 1, 1) := by decide +kernel
theorem dX11_beside_96 : decode prog_13_method_74_code 96 = .ok (.iaload, 1) := by decide +kernel
theorem dX11_beside_97 : decode prog_13_method_74_code 97 = .ok (.aload_n 0, 1) := by decide +kernel
theorem dX11_beside_98 : decode prog_13_method_74_code 98 = .ok (.getfield 9, 3) := by decide +kernel
theorem dX11_beside_101 : decode prog_13_method_74_code 101 = .ok (.iload_n 2, 1) := by decide +kernel
theorem dX11_beside_102 : decode prog_13_method_74_code 102 = .ok (.iaload, 1) := by decide +kernel
theorem dX11_beside_103 : decode prog_13_method_74_code 103 = .ok (.iadd, 1) := by decide +kernel
theorem dX11_beside_104 : decode prog_13_method_74_code 104 = .ok (.iload 4, 2) := by decide +kernel
theorem dX11_beside_106 : decode prog_13_method_74_code 106 = .ok (.invokevirtual 224, 3) := by decide +kernel
theorem dX11_beside_109 : decode prog_13_method_74_code 109 = .ok (.aload_n 0, 1) := by decide +kernel
theorem dX11_beside_110 : decode prog_13_method_74_code 110 = .ok (.getfield 9, 3) := by decide +kernel
theorem dX11_beside_113 : decode prog_13_method_74_code 113 = .ok (.iload_n 3, 1) := by decide +kernel
theorem dX11_beside_114 : decode prog_13_method_74_code 114 = .ok (.iaload, 1) := by decide +kernel
theorem dX11_beside_115 : decode prog_13_method_74_code 115 = .ok (.ireturn, 1) := by decide +kernel
theorem sX11_beside {Q : Int → Hp → Prop} {h : Hp} {l1 l2 l3 : Int}
    (hP : ((l1 < 0 ∨ l1 > 3) →
     Q (-1) h) ∧
    ((l1 ≥ 0 ∧ l1 ≤ 3) →
     ((l2 < 0 ∨ l2 > 3) →
      Q (-1) h) ∧
     ((l2 ≥ 0 ∧ l2 ≤ 3) →
      ((l3 ≥ 0 ∧ l3 ≤ 3) →
       (ix l1 4 ∧ ix l2 4 ∧ rj ((h 104 l1) + (h 104 l2))) ∧
       ((((h 104 l1) + (h 104 l2)) ≤ 8) →
        (ix l1 4 ∧ ix l2 4 ∧ rj ((h 105 l1) + (h 105 l2))) ∧
        ((((h 105 l1) + (h 105 l2)) ≤ 40) →
         CV 0 mX11_remembers [vr 103] h (fun h9 =>
          CI 0 mX11_collects [vr 103, vi l1, vi 0, vi 0] h9 (fun r12 h11 =>
           (ix l1 4) ∧
           CI 0 mX11_collects [vr 103, vi l2, vi r12, vi (h11 104 l1)] h11 (fun r15 h14 =>
            (ix l1 4 ∧ ix l2 4 ∧ rj ((h14 104 l1) + (h14 104 l2))) ∧
            CV 2 mX11_becomes [vr 103, vi l3, vi ((h14 104 l1) + (h14 104 l2)), vi r15] h14 (fun h17 =>
             (ix l3 4) ∧
             Q (h17 104 l3) h17))))) ∧
        ((((h 105 l1) + (h 105 l2)) > 40) →
         Q (-3) h)) ∧
       ((((h 104 l1) + (h 104 l2)) > 8) →
        Q (-6) h)) ∧
      ((l3 < 0 ∨ l3 > 3) →
       Q (-1) h)))) :
    CI 3 mX11_beside [vr 103, vi l1, vi l2, vi l3] h Q := by
  refine CI_of_E fX11_beside.1 rfl (Nat.le_of_ble_eq_true rfl) ?_
  show E 3 mX11_beside 0 [(0, vr 103), (1, vi l1), (2, vi l2), (3, vi l3)] [] h (qi Q)
  refine E_iload_n 1 1 dX11_beside_0 rfl rfl ?_
  refine E_invSI [vi l1] dX11_beside_1 fX11_isNet lX11_88 (by decide) rfl rfl (Nat.le_of_ble_eq_true rfl) (sX11_isNet (h := h) (l0 := l1) ?_)
  refine E_if_eq 21 dX11_beside_4 rfl (fun hc => ?_) (fun hc => ?_)
  · replace hP := hP.1 (by have := ite0 hc; omega)
    refine E_iconst dX11_beside_21 (rg_of rfl) ?_
    exact E_retI dX11_beside_22 rfl hP
  · replace hP := hP.2 (by have := ite1 hc; omega)
    refine E_iload_n 2 2 dX11_beside_7 rfl rfl ?_
    refine E_invSI [vi l2] dX11_beside_8 fX11_isNet lX11_88 (by decide) rfl rfl (Nat.le_of_ble_eq_true rfl) (sX11_isNet (h := h) (l0 := l2) ?_)
    refine E_if_eq 21 dX11_beside_11 rfl (fun hc => ?_) (fun hc => ?_)
    · replace hP := hP.1 (by have := ite0 hc; omega)
      refine E_iconst dX11_beside_21 (rg_of rfl) ?_
      exact E_retI dX11_beside_22 rfl hP
    · replace hP := hP.2 (by have := ite1 hc; omega)
      refine E_iload_n 3 3 dX11_beside_14 rfl rfl ?_
      refine E_invSI [vi l3] dX11_beside_15 fX11_isNet lX11_88 (by decide) rfl rfl (Nat.le_of_ble_eq_true rfl) (sX11_isNet (h := h) (l0 := l3) ?_)
      refine E_if_ne 23 dX11_beside_18 rfl (fun hc => ?_) (fun hc => ?_)
      · replace hP := hP.1 (by have := ite1' hc; omega)
        obtain ⟨⟨v6_0, v6_1, v6_2⟩, hP⟩ := hP
        refine E_aload_n 0 0 dX11_beside_23 rfl rfl ?_
        refine E_gR 104 0 dX11_beside_24 FX11_9 ic_103 (by decide) ?_
        refine E_iload_n 1 1 dX11_beside_27 rfl rfl ?_
        refine E_iaload dX11_beside_28 ic_104 v6_0.1 v6_0.2 ?_
        refine E_aload_n 0 0 dX11_beside_29 rfl rfl ?_
        refine E_gR 104 0 dX11_beside_30 FX11_9 ic_103 (by decide) ?_
        refine E_iload_n 2 2 dX11_beside_33 rfl rfl ?_
        refine E_iaload dX11_beside_34 ic_104 v6_1.1 v6_1.2 ?_
        refine E_iadd dX11_beside_35 (rgI v6_2) ?_
        refine E_bipush dX11_beside_36 (by decide) ?_
        refine E_icmp_le 44 dX11_beside_38 rfl (fun hc => ?_) (fun hc => ?_)
        · replace hP := hP.1 (hc)
          obtain ⟨⟨v7_0, v7_1, v7_2⟩, hP⟩ := hP
          refine E_aload_n 0 0 dX11_beside_44 rfl rfl ?_
          refine E_gR 105 1 dX11_beside_45 FX11_13 ic_103 (by decide) ?_
          refine E_iload_n 1 1 dX11_beside_48 rfl rfl ?_
          refine E_iaload dX11_beside_49 ic_105 v7_0.1 v7_0.2 ?_
          refine E_aload_n 0 0 dX11_beside_50 rfl rfl ?_
          refine E_gR 105 1 dX11_beside_51 FX11_13 ic_103 (by decide) ?_
          refine E_iload_n 2 2 dX11_beside_54 rfl rfl ?_
          refine E_iaload dX11_beside_55 ic_105 v7_1.1 v7_1.2 ?_
          refine E_iadd dX11_beside_56 (rgI v7_2) ?_
          refine E_bipush dX11_beside_57 (by decide) ?_
          refine E_icmp_le 65 dX11_beside_59 rfl (fun hc => ?_) (fun hc => ?_)
          · replace hP := hP.1 (hc)
            refine E_aload_n 0 0 dX11_beside_65 rfl rfl ?_
            refine E_invVV [] dX11_beside_66 fX11_remembers lX11_92 ic_103 rfl (by decide) rfl rfl (Nat.le_of_ble_eq_true rfl) (CV_mono hP (fun h9 hP => ?_))
            refine E_aload_n 0 0 dX11_beside_69 rfl rfl ?_
            refine E_iload_n 2 2 dX11_beside_70 rfl rfl ?_
            refine E_aload_n 0 0 dX11_beside_71 rfl rfl ?_
            refine E_iload_n 1 1 dX11_beside_72 rfl rfl ?_
            refine E_iconst dX11_beside_73 (rg_of rfl) ?_
            refine E_iconst dX11_beside_74 (rg_of rfl) ?_
            refine E_invVI [vi l1, vi 0, vi 0] dX11_beside_75 fX11_collects lX11_221 ic_103 rfl (by decide) rfl rfl (Nat.le_of_ble_eq_true rfl) (CI_mono hP (fun r12 h11 hP => ?_))
            obtain ⟨v13_0, hP⟩ := hP
            refine E_aload_n 0 0 dX11_beside_78 rfl rfl ?_
            refine E_gR 104 0 dX11_beside_79 FX11_9 ic_103 (by decide) ?_
            refine E_iload_n 1 1 dX11_beside_82 rfl rfl ?_
            refine E_iaload dX11_beside_83 ic_104 v13_0.1 v13_0.2 ?_
            refine E_invVI [vi l2, vi r12, vi (h11 104 l1)] dX11_beside_84 fX11_collects lX11_221 ic_103 rfl (by decide) rfl rfl (Nat.le_of_ble_eq_true rfl) (CI_mono hP (fun r15 h14 hP => ?_))
            obtain ⟨⟨v16_0, v16_1, v16_2⟩, hP⟩ := hP
            refine E_istore dX11_beside_87 (by decide) rfl ?_
            refine E_aload_n 1 0 dX11_beside_89 rfl rfl ?_
            refine E_iload_n 4 3 dX11_beside_90 rfl rfl ?_
            refine E_aload_n 1 0 dX11_beside_91 rfl rfl ?_
            refine E_gR 104 0 dX11_beside_92 FX11_9 ic_103 (by decide) ?_
            refine E_iload_n 2 1 dX11_beside_95 rfl rfl ?_
            refine E_iaload dX11_beside_96 ic_104 v16_0.1 v16_0.2 ?_
            refine E_aload_n 1 0 dX11_beside_97 rfl rfl ?_
            refine E_gR 104 0 dX11_beside_98 FX11_9 ic_103 (by decide) ?_
            refine E_iload_n 3 2 dX11_beside_101 rfl rfl ?_
            refine E_iaload dX11_beside_102 ic_104 v16_1.1 v16_1.2 ?_
            refine E_iadd dX11_beside_103 (rgI v16_2) ?_
            refine E_iload 0 dX11_beside_104 rfl ?_
            refine E_invVV [vi l3, vi ((h14 104 l1) + (h14 104 l2)), vi r15] dX11_beside_106 fX11_becomes lX11_224 ic_103 rfl (by decide) rfl rfl (Nat.le_of_ble_eq_true rfl) (CV_mono hP (fun h17 hP => ?_))
            obtain ⟨v18_0, hP⟩ := hP
            refine E_aload_n 1 0 dX11_beside_109 rfl rfl ?_
            refine E_gR 104 0 dX11_beside_110 FX11_9 ic_103 (by decide) ?_
            refine E_iload_n 4 3 dX11_beside_113 rfl rfl ?_
            refine E_iaload dX11_beside_114 ic_104 v18_0.1 v18_0.2 ?_
            exact E_retI dX11_beside_115 rfl hP
          · replace hP := hP.2 (by omega)
            refine E_bipush dX11_beside_62 (by decide) ?_
            exact E_retI dX11_beside_64 rfl hP
        · replace hP := hP.2 (by omega)
          refine E_bipush dX11_beside_41 (by decide) ?_
          exact E_retI dX11_beside_43 rfl hP
      · replace hP := hP.2 (by have := ite0 hc; omega)
        refine E_iconst dX11_beside_21 (rg_of rfl) ?_
        exact E_retI dX11_beside_22 rfl hP
theorem dX11_isShelf_0 : decode prog_13_method_75_code 0 = .ok (.iload_n 0, 1) := by decide +kernel
theorem dX11_isShelf_1 : decode prog_13_method_75_code 1 = .ok (.iconst 0, 1) := by decide +kernel
theorem dX11_isShelf_2 : decode prog_13_method_75_code 2 = .ok (.iconst 2, 1) := by decide +kernel
theorem dX11_isShelf_3 : decode prog_13_method_75_code 3 = .ok (.invokestatic 80, 3) := by decide +kernel
theorem dX11_isShelf_6 : decode prog_13_method_75_code 6 = .ok (.ireturn, 1) := by decide +kernel
theorem sX11_isShelf {Q : Int → Hp → Prop} {h : Hp} {l0 : Int}
    (hP : Q (if l0 ≥ 0 ∧ l0 ≤ 2 then (1 : Int) else 0) h) :
    CI 1 mX11_isShelf [vi l0] h Q := by
  refine CI_of_E fX11_isShelf.1 rfl (Nat.le_of_ble_eq_true rfl) ?_
  show E 1 mX11_isShelf 0 [(0, vi l0)] [] h (qi Q)
  refine E_iload_n 0 0 dX11_isShelf_0 rfl rfl ?_
  refine E_iconst dX11_isShelf_1 (rg_of rfl) ?_
  refine E_iconst dX11_isShelf_2 (rg_of rfl) ?_
  refine E_invSI [vi l0, vi 0, vi 2] dX11_isShelf_3 fX11_isIn lX11_80 (by decide) rfl rfl (Nat.le_of_ble_eq_true rfl) (sX11_isIn (h := h) (l0 := l0) (l1 := 0) (l2 := 2) ?_)
  exact E_retZ dX11_isShelf_6 rfl (b01 _) hP
theorem dX11_above_0 : decode prog_13_method_76_code 0 = .ok (.iload_n 0, 1) := by decide +kernel
theorem dX11_above_1 : decode prog_13_method_76_code 1 = .ok (.iconst 2, 1) := by decide +kernel
theorem dX11_above_2 : decode prog_13_method_76_code 2 = .ok (.if_icmp .ne 7, 3) := by decide +kernel
theorem dX11_above_5 : decode prog_13_method_76_code 5 = .ok (.iconst 1, 1) := by decide +kernel
theorem dX11_above_6 : decode prog_13_method_76_code 6 = .ok (.goto 30, 3) := by decide +kernel
theorem dX11_above_9 : decode prog_13_method_76_code 9 = .ok (.iload_n 0, 1) := by decide +kernel
theorem dX11_above_10 : decode prog_13_method_76_code 10 = .ok (.iconst 4, 1) := by decide +kernel
theorem dX11_above_11 : decode prog_13_method_76_code 11 = .ok (.if_icmp .ne 7, 3) := by decide +kernel
theorem dX11_above_14 : decode prog_13_method_76_code 14 = .ok (.iconst 3, 1) := by decide +kernel
theorem dX11_above_15 : decode prog_13_method_76_code 15 = .ok (.goto 21, 3) := by decide +kernel
theorem dX11_above_18 : decode prog_13_method_76_code 18 = .ok (.iload_n 0, 1) := by decide +kernel
theorem dX11_above_19 : decode prog_13_method_76_code 19 = .ok (.iconst 5, 1) := by decide +kernel
theorem dX11_above_20 : decode prog_13_method_76_code 20 = .ok (.if_icmp .ne 7, 3) := by decide +kernel
theorem dX11_above_23 : decode prog_13_method_76_code 23 = .ok (.iconst 4, 1) := by decide +kernel
theorem dX11_above_24 : decode prog_13_method_76_code 24 = .ok (.goto 12, 3) := by decide +kernel
theorem dX11_above_27 : decode prog_13_method_76_code 27 = .ok (.iload_n 0, 1) := by decide +kernel
theorem dX11_above_28 : decode prog_13_method_76_code 28 = .ok (.ifCond .ne 7, 3) := by decide +kernel
theorem dX11_above_31 : decode prog_13_method_76_code 31 = .ok (.iconst (-1), 1) := by decide +kernel
theorem dX11_above_32 : decode prog_13_method_76_code 32 = .ok (.goto 4, 3) := by decide +kernel
theorem dX11_above_35 : decode prog_13_method_76_code 35 = .ok (.iconst 0, 1) := by decide +kernel
theorem dX11_above_36 : decode prog_13_method_76_code 36 = .ok (.ireturn, 1) := by decide +kernel
theorem sX11_above {Q : Int → Hp → Prop} {h : Hp} {l0 : Int}
    (hP : Q (if l0 ≠ 2 then (if l0 ≠ 4 then (if l0 ≠ 5 then (if l0 ≠ 0 then 0 else (-1)) else 4) else 3) else 1) h) :
    CI 0 mX11_above [vi l0] h Q := by
  refine CI_of_E fX11_above.1 rfl (Nat.le_of_ble_eq_true rfl) ?_
  show E 0 mX11_above 0 [(0, vi l0)] [] h (qi Q)
  refine E_iload_n 0 0 dX11_above_0 rfl rfl ?_
  refine E_iconst dX11_above_1 (rg_of rfl) ?_
  have hJ : E 0 mX11_above 36 [(0, vi l0)] [vi (if l0 ≠ 2 then (if l0 ≠ 4 then (if l0 ≠ 5 then (if l0 ≠ 0 then 0 else (-1)) else 4) else 3) else 1)] h (qi Q) := by
    exact E_retI dX11_above_36 rfl hP
  refine E_icmp_ne 9 dX11_above_2 rfl (fun hc => ?_) (fun hc => ?_)
  · have hp2 := (hc : l0 ≠ 2)
    refine E_iload_n 0 0 dX11_above_9 rfl rfl ?_
    refine E_iconst dX11_above_10 (rg_of rfl) ?_
    refine E_icmp_ne 18 dX11_above_11 rfl (fun hc => ?_) (fun hc => ?_)
    · have hp11 := (hc : l0 ≠ 4)
      refine E_iload_n 0 0 dX11_above_18 rfl rfl ?_
      refine E_iconst dX11_above_19 (rg_of rfl) ?_
      refine E_icmp_ne 27 dX11_above_20 rfl (fun hc => ?_) (fun hc => ?_)
      · have hp20 := (hc : l0 ≠ 5)
        refine E_iload_n 0 0 dX11_above_27 rfl rfl ?_
        refine E_if_ne 35 dX11_above_28 rfl (fun hc => ?_) (fun hc => ?_)
        · have hp28 := (hc : l0 ≠ 0)
          refine E_iconst dX11_above_35 (rg_of rfl) ?_
          exact E_top (by first | exact (if_pos (by omega)).symm | exact (if_neg (by omega)).symm | (repeat first | rw [if_pos (by omega)] | rw [if_neg (by omega)])) hJ
        · have hp28 := (by omega : l0 = 0)
          refine E_iconst dX11_above_31 (rg_of rfl) ?_
          refine E_goto 36 dX11_above_32 rfl ?_
          exact E_top (by first | exact (if_pos (by omega)).symm | exact (if_neg (by omega)).symm | (repeat first | rw [if_pos (by omega)] | rw [if_neg (by omega)])) hJ
      · have hp20 := (by omega : l0 = 5)
        refine E_iconst dX11_above_23 (rg_of rfl) ?_
        refine E_goto 36 dX11_above_24 rfl ?_
        exact E_top (by first | exact (if_pos (by omega)).symm | exact (if_neg (by omega)).symm | (repeat first | rw [if_pos (by omega)] | rw [if_neg (by omega)])) hJ
    · have hp11 := (by omega : l0 = 4)
      refine E_iconst dX11_above_14 (rg_of rfl) ?_
      refine E_goto 36 dX11_above_15 rfl ?_
      exact E_top (by first | exact (if_pos (by omega)).symm | exact (if_neg (by omega)).symm | (repeat first | rw [if_pos (by omega)] | rw [if_neg (by omega)])) hJ
  · have hp2 := (by omega : l0 = 2)
    refine E_iconst dX11_above_5 (rg_of rfl) ?_
    refine E_goto 36 dX11_above_6 rfl ?_
    exact E_top (by first | exact (if_pos (by omega)).symm | exact (if_neg (by omega)).symm | (repeat first | rw [if_pos (by omega)] | rw [if_neg (by omega)])) hJ
theorem dX11_place_0 : decode prog_13_method_77_code 0 = .ok (.iload_n 1, 1) := by decide +kernel
theorem dX11_place_1 : decode prog_13_method_77_code 1 = .ok (.invokestatic 227, 3) := by decide +kernel
theorem dX11_place_4 : decode prog_13_method_77_code 4 = .ok (.ifCond .ne 5, 3) := by decide +kernel
theorem dX11_place_7 : decode prog_13_method_77_code 7 = .ok (.iconst (-1), 1) := by decide +kernel
theorem dX11_place_8 : decode prog_13_method_77_code 8 = .ok (.ireturn, 1) := by decide +kernel
theorem dX11_place_9 : decode prog_13_method_77_code 9 = .ok (.iload_n 2, 1) := by decide +kernel
theorem dX11_place_10 : decode prog_13_method_77_code 10 = .ok (.iconst 0, 1) := by decide +kernel
theorem dX11_place_11 : decode prog_13_method_77_code 11 = .ok (.iconst 5, 1) := by decide +kernel
theorem dX11_place_12 : decode prog_13_method_77_code 12 = .ok (.invokestatic 80, 3) := by decide +kernel
theorem dX11_place_15 : decode prog_13_method_77_code 15 = .ok (.istore 5, 2) := by decide +kernel
theorem dX11_place_17 : decode prog_13_method_77_code 17 = .ok (.iload_n 2, 1) := by decide +kernel
theorem dX11_place_18 : decode prog_13_method_77_code 18 = .ok (.iconst 1, 1) := by decide +kernel
theorem dX11_place_19 : decode prog_13_method_77_code 19 = .ok (.if_icmp .eq 8, 3) := by decide +kernel
theorem dX11_place_22 : decode prog_13_method_77_code 22 = .ok (.iload_n 2, 1) := by decide +kernel
theorem dX11_place_23 : decode prog_13_method_77_code 23 = .ok (.iconst 2, 1) := by decide +kernel
theorem dX11_place_24 : decode prog_13_method_77_code 24 = .ok (.if_icmp .ne 37, 3) := by decide +kernel
theorem dX11_place_27 : decode prog_13_method_77_code 27 = .ok (.iload_n 3, 1) := by decide +kernel
theorem dX11_place_28 : decode prog_13_method_77_code 28 = .ok (.iconst 0, 1) := by decide +kernel
theorem dX11_place_29 : decode prog_13_method_77_code 29 = .ok (.bipush 7, 2) := by decide +kernel
theorem dX11_place_31 : decode prog_13_method_77_code 31 = .ok (.invokestatic 80, 3) := by decide +kernel
theorem dX11_place_34 : decode prog_13_method_77_code 34 = .ok (.ifCond .eq 24, 3) := by decide +kernel
theorem dX11_place_37 : decode prog_13_method_77_code 37 = .ok (.iload 4, 2) := by decide +kernel
theorem dX11_place_39 : decode prog_13_method_77_code 39 = .ok (.iconst 0, 1) := by decide +kernel
theorem dX11_place_40 : decode prog_13_method_77_code 40 = .ok (.bipush 7, 2) := by decide +kernel
theorem dX11_place_42 : decode prog_13_method_77_code 42 = .ok (.invokestatic 80, 3) := by decide +kernel
theorem dX11_place_45 : decode prog_13_method_77_code 45 = .ok (.ifCond .eq 13, 3) := by decide +kernel
theorem dX11_place_48 : decode prog_13_method_77_code 48 = .ok (.iload_n 3, 1) := by decide +kernel
theorem dX11_place_49 : decode prog_13_method_77_code 49 = .ok (.iload 4, 2) := by decide +kernel
theorem dX11_place_51 : decode prog_13_method_77_code 51 = .ok (.if_icmp .eq 7, 3) := by decide +kernel
theorem dX11_place_54 : decode prog_13_method_77_code 54 = .ok (.iconst 1, 1) := by decide +kernel
theorem dX11_place_55 : decode prog_13_method_77_code 55 = .ok (.goto 4, 3) := by decide +kernel
theorem dX11_place_58 : decode prog_13_method_77_code 58 = .ok (.iconst 0, 1) := by decide +kernel
theorem dX11_place_59 : decode prog_13_method_77_code 59 = .ok (.istore 5, 2) := by decide +kernel
theorem dX11_place_61 : decode prog_13_method_77_code 61 = .ok (.iload_n 2, 1) := by decide +kernel
theorem dX11_place_62 : decode prog_13_method_77_code 62 = .ok (.iconst 3, 1) := by decide +kernel
theorem dX11_place_63 : decode prog_13_method_77_code 63 = .ok (.if_icmp .lt 14, 3) := by decide +kernel
theorem dX11_place_66 : decode prog_13_method_77_code 66 = .ok (.iload 5, 2) := by decide +kernel
theorem dX11_place_68 : decode prog_13_method_77_code 68 = .ok (.iload_n 3, 1) := by decide +kernel
theorem dX11_place_69 : decode prog_13_method_77_code 69 = .ok (.iconst 0, 1) := by decide +kernel
theorem dX11_place_70 : decode prog_13_method_77_code 70 = .ok (.iconst 1, 1) := by decide +kernel
theorem dX11_place_71 : decode prog_13_method_77_code 71 = .ok (.invokestatic 80, 3) := by decide +kernel
theorem dX11_place_74 : decode prog_13_method_77_code 74 = .ok (.iand, 1) := by decide +kernel
theorem dX11_place_75 : decode prog_13_method_77_code 75 = .ok (.istore 5, 2) := by decide +kernel
theorem dX11_place_77 : decode prog_13_method_77_code 77 = .ok (.iload_n 2, 1) := by decide +kernel
theorem dX11_place_78 : decode prog_13_method_77_code 78 = .ok (.iconst 4, 1) := by decide +kernel
theorem dX11_place_79 : decode prog_13_method_77_code 79 = .ok (.if_icmp .lt 16, 3) := by decide +kernel
theorem dX11_place_82 : decode prog_13_method_77_code 82 = .ok (.iload 5, 2) := by decide +kernel
theorem dX11_place_84 : decode prog_13_method_77_code 84 = .ok (.iload 4, 2) := by decide +kernel
theorem dX11_place_86 : decode prog_13_method_77_code 86 = .ok (.iconst 0, 1) := by decide +kernel
theorem dX11_place_87 : decode prog_13_method_77_code 87 = .ok (.bipush 9, 2) := by decide +kernel
theorem dX11_place_89 : decode prog_13_method_77_code 89 = .ok (.invokestatic 80, 3) := by decide +kernel
theorem dX11_place_92 : decode prog_13_method_77_code 92 = .ok (.iand, 1) := by decide +kernel
theorem dX11_place_93 : decode prog_13_method_77_code 93 = .ok (.istore 5, 2) := by decide +kernel
theorem dX11_place_95 : decode prog_13_method_77_code 95 = .ok (.iload 5, 2) := by decide +kernel
theorem dX11_place_97 : decode prog_13_method_77_code 97 = .ok (.ifCond .ne 6, 3) := by decide +kernel
theorem dX11_place_100 : decode prog_13_method_77_code 100 = .ok (.bipush (-2), 2) := by decide +kernel
theorem dX11_place_102 : decode prog_13_method_77_code 102 = .ok (.ireturn, 1) := by decide +kernel
theorem dX11_place_103 : decode prog_13_method_77_code 103 = .ok (.aload_n 0, 1) := by decide +kernel
theorem dX11_place_104 : decode prog_13_method_77_code 104 = .ok (.getfield 37, 3) := by decide +kernel
theorem dX11_place_107 : decode prog_13_method_77_code 107 = .ok (.iload_n 1, 1) := by decide +kernel
theorem dX11_place_108 : decode prog_13_method_77_code 108 = .ok (.iload_n 2, 1) := by decide +kernel
theorem dX11_place_109 : decode prog_13_method_77_code 109 = .ok (.iastore, 1) := by decide +kernel
theorem dX11_place_110 : decode prog_13_method_77_code 110 = .ok (.aload_n 0, 1) := by decide +kernel
theorem dX11_place_111 : decode prog_13_method_77_code 111 = .ok (.getfield 40, 3) := by decide +kernel
theorem dX11_place_114 : decode prog_13_method_77_code 114 = .ok (.iload_n 1, 1) := by decide +kernel
theorem dX11_place_115 : decode prog_13_method_77_code 115 = .ok (.iload_n 3, 1) := by decide +kernel
theorem dX11_place_116 : decode prog_13_method_77_code 116 = .ok (.iastore, 1) := by decide +kernel
theorem dX11_place_117 : decode prog_13_method_77_code 117 = .ok (.aload_n 0, 1) := by decide +kernel
theorem dX11_place_118 : decode prog_13_method_77_code 118 = .ok (.getfield 43, 3) := by decide +kernel
theorem dX11_place_121 : decode prog_13_method_77_code 121 = .ok (.iload_n 1, 1) := by decide +kernel
theorem dX11_place_122 : decode prog_13_method_77_code 122 = .ok (.iload 4, 2) := by decide +kernel
theorem dX11_place_124 : decode prog_13_method_77_code 124 = .ok (.iastore, 1) := by decide +kernel
theorem dX11_place_125 : decode prog_13_method_77_code 125 = .ok (.iconst 0, 1) := by decide +kernel
theorem dX11_place_126 : decode prog_13_method_77_code 126 = .ok (.istore 6, 2) := by decide +kernel
theorem dX11_place_128 : decode prog_13_method_77_code 128 = .ok (.iconst 0, 1) := by decide +kernel
theorem dX11_place_129 : decode prog_13_method_77_code 129 = .ok (.istore 7, 2) := by decide +kernel
theorem dX11_place_131 : decode prog_13_method_77_code 131 = .ok (.iload 7, 2) := by decide +kernel
theorem dX11_place_133 : decode prog_13_method_77_code 133 = .ok (.iconst 3, 1) := by decide +kernel
theorem dX11_place_134 : decode prog_13_method_77_code 134 = .ok (.if_icmp .ge 29, 3) := by decide +kernel
theorem dX11_place_137 : decode prog_13_method_77_code 137 = .ok (.iload 6, 2) := by decide +kernel
theorem dX11_place_139 : decode prog_13_method_77_code 139 = .ok (.aload_n 0, 1) := by decide +kernel
theorem dX11_place_140 : decode prog_13_method_77_code 140 = .ok (.getfield 37, 3) := by decide +kernel
theorem dX11_place_143 : decode prog_13_method_77_code 143 = .ok (.iload 7, 2) := by decide +kernel
theorem dX11_place_145 : decode prog_13_method_77_code 145 = .ok (.iaload, 1) := by decide +kernel
theorem dX11_place_146 : decode prog_13_method_77_code 146 = .ok (.ifCond .ge 7, 3) := by decide +kernel
theorem dX11_place_149 : decode prog_13_method_77_code 149 = .ok (.iconst 0, 1) := by decide +kernel
theorem dX11_place_150 : decode prog_13_method_77_code 150 = .ok (.goto 4, 3) := by decide +kernel
theorem dX11_place_153 : decode prog_13_method_77_code 153 = .ok (.iconst 1, 1) := by decide +kernel
theorem dX11_place_154 : decode prog_13_method_77_code 154 = .ok (.iadd, 1) := by decide +kernel
theorem dX11_place_155 : decode prog_13_method_77_code 155 = .ok (.istore 6, 2) := by decide +kernel
theorem dX11_place_157 : decode prog_13_method_77_code 157 = .ok (.iinc 7 1, 3) := by decide +kernel
theorem dX11_place_160 : decode prog_13_method_77_code 160 = .ok (.goto (-29), 3) := by decide +kernel
theorem dX11_place_163 : decode prog_13_method_77_code 163 = .ok (.iload 6, 2) := by decide +kernel
theorem dX11_place_165 : decode prog_13_method_77_code 165 = .ok (.ireturn, 1) := by decide +kernel
theorem sX11_place_131 {Q : Int → Hp → Prop} {h : Hp} {l6 l7 : Int}
    (hP : ((l7 ≥ 3) →
     Q l6 h) ∧
    ((l7 < 3) →
     (ix l7 3) ∧
     (rj (l6 + (if (h 113 l7) ≥ 0 then (1 : Int) else 0))) ∧
     (∀ x5 : Int, x5 = (l6 + (if (h 113 l7) ≥ 0 then (1 : Int) else 0)) →
     (rj (l7 + 1)) ∧
     E 2 mX11_place 131 [(0, vr 103), (6, vi x5), (7, vi (l7 + 1))] [] h (qi Q)))) :
    E 2 mX11_place 131 [(0, vr 103), (6, vi l6), (7, vi l7)] [] h (qi Q) := by
  refine E_iload 2 dX11_place_131 rfl ?_
  refine E_iconst dX11_place_133 (rg_of rfl) ?_
  refine E_icmp_ge 163 dX11_place_134 rfl (fun hc => ?_) (fun hc => ?_)
  · replace hP := hP.1 (hc)
    refine E_iload 1 dX11_place_163 rfl ?_
    exact E_retI dX11_place_165 rfl hP
  · replace hP := hP.2 (by omega)
    obtain ⟨v3_0, hP⟩ := hP
    refine E_iload 1 dX11_place_137 rfl ?_
    refine E_aload_n 0 0 dX11_place_139 rfl rfl ?_
    refine E_gR 113 12 dX11_place_140 FX11_37 ic_103 (by decide) ?_
    refine E_iload 2 dX11_place_143 rfl ?_
    refine E_iaload dX11_place_145 ic_113 v3_0.1 v3_0.2 ?_
    have hJ : E 2 mX11_place 154 [(0, vr 103), (6, vi l6), (7, vi l7)] [vi (if (h 113 l7) ≥ 0 then (1 : Int) else 0), vi l6] h (qi Q) := by
      obtain ⟨v4_0, hP⟩ := hP
      refine E_iadd dX11_place_154 (rgI v4_0) ?_
      obtain ⟨x5, hx5⟩ : ∃ x : Int, x = (l6 + (if (h 113 l7) ≥ 0 then (1 : Int) else 0)) := ⟨_, rfl⟩
      refine E_top hx5.symm ?_
      replace hP := hP x5 hx5
      refine E_istore dX11_place_155 (by decide) rfl ?_
      obtain ⟨v6_0, hP⟩ := hP
      refine E_iinc 2 dX11_place_157 rfl (rgI v6_0) (by decide) rfl ?_
      refine E_goto 131 dX11_place_160 rfl ?_
      exact E_sub [2, 1, 0] rfl hP
    refine E_if_ge 153 dX11_place_146 rfl (fun hc => ?_) (fun hc => ?_)
    · have hp146 := (hc : (h 113 l7) ≥ 0)
      refine E_iconst dX11_place_153 (rg_of rfl) ?_
      exact E_top (if_pos (by omega)).symm hJ
    · have hp146 := (by omega : (h 113 l7) < 0)
      refine E_iconst dX11_place_149 (rg_of rfl) ?_
      refine E_goto 154 dX11_place_150 rfl ?_
      exact E_top (if_neg (by omega)).symm hJ
theorem sX11_place_95 {Q : Int → Hp → Prop} {h : Hp} {l1 l2 l3 l4 l5 : Int}
    (hP : ((l5 ≠ 0) →
     (ix l1 3) ∧
     E 2 mX11_place 131 [(0, vr 103), (6, vi 0), (7, vi 0)] [] (up (up (up h 113 l1 l2) 114 l1 l3) 115 l1 l4) (qi Q)) ∧
    ((l5 = 0) →
     Q (-2) h)) :
    E 2 mX11_place 95 [(0, vr 103), (1, vi l1), (2, vi l2), (3, vi l3), (4, vi l4), (5, vi l5)] [] h (qi Q) := by
  refine E_iload 5 dX11_place_95 rfl ?_
  refine E_if_ne 103 dX11_place_97 rfl (fun hc => ?_) (fun hc => ?_)
  · replace hP := hP.1 (hc)
    obtain ⟨v2_0, hP⟩ := hP
    refine E_aload_n 0 0 dX11_place_103 rfl rfl ?_
    refine E_gR 113 12 dX11_place_104 FX11_37 ic_103 (by decide) ?_
    refine E_iload_n 1 1 dX11_place_107 rfl rfl ?_
    refine E_iload_n 2 2 dX11_place_108 rfl rfl ?_
    refine E_iastore dX11_place_109 ic_113 v2_0.1 v2_0.2 ?_
    refine E_aload_n 0 0 dX11_place_110 rfl rfl ?_
    refine E_gR 114 13 dX11_place_111 FX11_40 ic_103 (by decide) ?_
    refine E_iload_n 1 1 dX11_place_114 rfl rfl ?_
    refine E_iload_n 3 3 dX11_place_115 rfl rfl ?_
    refine E_iastore dX11_place_116 ic_114 v2_0.1 v2_0.2 ?_
    refine E_aload_n 0 0 dX11_place_117 rfl rfl ?_
    refine E_gR 115 14 dX11_place_118 FX11_43 ic_103 (by decide) ?_
    refine E_iload_n 1 1 dX11_place_121 rfl rfl ?_
    refine E_iload 4 dX11_place_122 rfl ?_
    refine E_iastore dX11_place_124 ic_115 v2_0.1 v2_0.2 ?_
    refine E_iconst dX11_place_125 (rg_of rfl) ?_
    refine E_istore dX11_place_126 (by decide) rfl ?_
    refine E_iconst dX11_place_128 (rg_of rfl) ?_
    refine E_istore dX11_place_129 (by decide) rfl ?_
    exact E_sub [2, 1, 0] rfl hP
  · replace hP := hP.2 (by omega)
    refine E_bipush dX11_place_100 (by decide) ?_
    exact E_retI dX11_place_102 rfl hP
theorem sX11_place_77 {Q : Int → Hp → Prop} {h : Hp} {l1 l2 l3 l4 l5 : Int}
    (hP : ((l2 < 4) →
     E 2 mX11_place 95 [(0, vr 103), (1, vi l1), (2, vi l2), (3, vi l3), (4, vi l4), (5, vi l5)] [] h (qi Q)) ∧
    ((l2 ≥ 4) →
     (∀ x4 : Int, x4 = (j_iand l5 (if l4 ≥ 0 ∧ l4 ≤ 9 then (1 : Int) else 0)) →
     E 2 mX11_place 95 [(0, vr 103), (1, vi l1), (2, vi l2), (3, vi l3), (4, vi l4), (5, vi x4)] [] h (qi Q)))) :
    E 2 mX11_place 77 [(0, vr 103), (1, vi l1), (2, vi l2), (3, vi l3), (4, vi l4), (5, vi l5)] [] h (qi Q) := by
  refine E_iload_n 2 2 dX11_place_77 rfl rfl ?_
  refine E_iconst dX11_place_78 (rg_of rfl) ?_
  refine E_icmp_lt 95 dX11_place_79 rfl (fun hc => ?_) (fun hc => ?_)
  · replace hP := hP.1 (hc)
    exact hP
  · replace hP := hP.2 (by omega)
    refine E_iload 5 dX11_place_82 rfl ?_
    refine E_iload 4 dX11_place_84 rfl ?_
    refine E_iconst dX11_place_86 (rg_of rfl) ?_
    refine E_bipush dX11_place_87 (by decide) ?_
    refine E_invSI [vi l4, vi 0, vi 9] dX11_place_89 fX11_isIn lX11_80 (by decide) rfl rfl (Nat.le_of_ble_eq_true rfl) (sX11_isIn (h := h) (l0 := l4) (l1 := 0) (l2 := 9) ?_)
    refine E_iand dX11_place_92 ?_
    obtain ⟨x4, hx4⟩ : ∃ x : Int, x = (j_iand l5 (if l4 ≥ 0 ∧ l4 ≤ 9 then (1 : Int) else 0)) := ⟨_, rfl⟩
    refine E_top hx4.symm ?_
    replace hP := hP x4 hx4
    refine E_istore dX11_place_93 (by decide) rfl ?_
    exact E_sub [1, 2, 3, 4, 5, 0] rfl hP
theorem sX11_place_61 {Q : Int → Hp → Prop} {h : Hp} {l1 l2 l3 l4 l5 : Int}
    (hP : ((l2 < 3) →
     E 2 mX11_place 77 [(0, vr 103), (1, vi l1), (2, vi l2), (3, vi l3), (4, vi l4), (5, vi l5)] [] h (qi Q)) ∧
    ((l2 ≥ 3) →
     (∀ x4 : Int, x4 = (j_iand l5 (if l3 ≥ 0 ∧ l3 ≤ 1 then (1 : Int) else 0)) →
     E 2 mX11_place 77 [(0, vr 103), (1, vi l1), (2, vi l2), (3, vi l3), (4, vi l4), (5, vi x4)] [] h (qi Q)))) :
    E 2 mX11_place 61 [(0, vr 103), (1, vi l1), (2, vi l2), (3, vi l3), (4, vi l4), (5, vi l5)] [] h (qi Q) := by
  refine E_iload_n 2 2 dX11_place_61 rfl rfl ?_
  refine E_iconst dX11_place_62 (rg_of rfl) ?_
  refine E_icmp_lt 77 dX11_place_63 rfl (fun hc => ?_) (fun hc => ?_)
  · replace hP := hP.1 (hc)
    exact hP
  · replace hP := hP.2 (by omega)
    refine E_iload 5 dX11_place_66 rfl ?_
    refine E_iload_n 3 3 dX11_place_68 rfl rfl ?_
    refine E_iconst dX11_place_69 (rg_of rfl) ?_
    refine E_iconst dX11_place_70 (rg_of rfl) ?_
    refine E_invSI [vi l3, vi 0, vi 1] dX11_place_71 fX11_isIn lX11_80 (by decide) rfl rfl (Nat.le_of_ble_eq_true rfl) (sX11_isIn (h := h) (l0 := l3) (l1 := 0) (l2 := 1) ?_)
    refine E_iand dX11_place_74 ?_
    obtain ⟨x4, hx4⟩ : ∃ x : Int, x = (j_iand l5 (if l3 ≥ 0 ∧ l3 ≤ 1 then (1 : Int) else 0)) := ⟨_, rfl⟩
    refine E_top hx4.symm ?_
    replace hP := hP x4 hx4
    refine E_istore dX11_place_75 (by decide) rfl ?_
    exact E_sub [1, 2, 3, 4, 5, 0] rfl hP
theorem sX11_place {Q : Int → Hp → Prop} {h : Hp} {l1 l2 l3 l4 : Int}
    (hP : ((l1 ≥ 0 ∧ l1 ≤ 2) →
     ((l2 = 1) →
      E 2 mX11_place 61 [(0, vr 103), (1, vi l1), (2, vi l2), (3, vi l3), (4, vi l4), (5, vi (if (l3 ≥ 0 ∧ l3 ≤ 7) ∧ ((l4 ≥ 0 ∧ l4 ≤ 7) ∧ (l3 ≠ l4)) then (1 : Int) else 0))] [] h (qi Q)) ∧
     ((l2 ≠ 1) →
      ((l2 ≠ 2) →
       E 2 mX11_place 61 [(0, vr 103), (1, vi l1), (2, vi l2), (3, vi l3), (4, vi l4), (5, vi (if l2 ≥ 0 ∧ l2 ≤ 5 then (1 : Int) else 0))] [] h (qi Q)) ∧
      ((l2 = 2) →
       E 2 mX11_place 61 [(0, vr 103), (1, vi l1), (2, vi l2), (3, vi l3), (4, vi l4), (5, vi (if (l3 ≥ 0 ∧ l3 ≤ 7) ∧ ((l4 ≥ 0 ∧ l4 ≤ 7) ∧ (l3 ≠ l4)) then (1 : Int) else 0))] [] h (qi Q)))) ∧
    ((l1 < 0 ∨ l1 > 2) →
     Q (-1) h)) :
    CI 2 mX11_place [vr 103, vi l1, vi l2, vi l3, vi l4] h Q := by
  refine CI_of_E fX11_place.1 rfl (Nat.le_of_ble_eq_true rfl) ?_
  show E 2 mX11_place 0 [(0, vr 103), (1, vi l1), (2, vi l2), (3, vi l3), (4, vi l4)] [] h (qi Q)
  refine E_iload_n 1 1 dX11_place_0 rfl rfl ?_
  refine E_invSI [vi l1] dX11_place_1 fX11_isShelf lX11_227 (by decide) rfl rfl (Nat.le_of_ble_eq_true rfl) (sX11_isShelf (h := h) (l0 := l1) ?_)
  refine E_if_ne 9 dX11_place_4 rfl (fun hc => ?_) (fun hc => ?_)
  · replace hP := hP.1 (by have := ite1' hc; omega)
    refine E_iload_n 2 2 dX11_place_9 rfl rfl ?_
    refine E_iconst dX11_place_10 (rg_of rfl) ?_
    refine E_iconst dX11_place_11 (rg_of rfl) ?_
    refine E_invSI [vi l2, vi 0, vi 5] dX11_place_12 fX11_isIn lX11_80 (by decide) rfl rfl (Nat.le_of_ble_eq_true rfl) (sX11_isIn (h := h) (l0 := l2) (l1 := 0) (l2 := 5) ?_)
    refine E_istore dX11_place_15 (by decide) rfl ?_
    refine E_iload_n 3 2 dX11_place_17 rfl rfl ?_
    refine E_iconst dX11_place_18 (rg_of rfl) ?_
    refine E_icmp_eq 27 dX11_place_19 rfl (fun hc => ?_) (fun hc => ?_)
    · replace hP := hP.1 (hc)
      refine E_iload_n 4 3 dX11_place_27 rfl rfl ?_
      refine E_iconst dX11_place_28 (rg_of rfl) ?_
      refine E_bipush dX11_place_29 (by decide) ?_
      refine E_invSI [vi l3, vi 0, vi 7] dX11_place_31 fX11_isIn lX11_80 (by decide) rfl rfl (Nat.le_of_ble_eq_true rfl) (sX11_isIn (h := h) (l0 := l3) (l1 := 0) (l2 := 7) ?_)
      have hJ : E 2 mX11_place 59 [(5, vi (if l2 ≥ 0 ∧ l2 ≤ 5 then (1 : Int) else 0)), (0, vr 103), (1, vi l1), (2, vi l2), (3, vi l3), (4, vi l4)] [vi (if (l3 ≥ 0 ∧ l3 ≤ 7) ∧ ((l4 ≥ 0 ∧ l4 ≤ 7) ∧ (l3 ≠ l4)) then (1 : Int) else 0)] h (qi Q) := by
        refine E_istore dX11_place_59 (by decide) rfl ?_
        exact E_sub [1, 2, 3, 4, 5, 0] rfl hP
      refine E_if_eq 58 dX11_place_34 rfl (fun hc => ?_) (fun hc => ?_)
      · have hp34 := (by have := ite0 hc; omega : l3 < 0 ∨ l3 > 7)
        refine E_iconst dX11_place_58 (rg_of rfl) ?_
        exact E_top (if_neg (by omega)).symm hJ
      · have hp34 := (by have := ite1 hc; omega : l3 ≥ 0 ∧ l3 ≤ 7)
        refine E_iload 5 dX11_place_37 rfl ?_
        refine E_iconst dX11_place_39 (rg_of rfl) ?_
        refine E_bipush dX11_place_40 (by decide) ?_
        refine E_invSI [vi l4, vi 0, vi 7] dX11_place_42 fX11_isIn lX11_80 (by decide) rfl rfl (Nat.le_of_ble_eq_true rfl) (sX11_isIn (h := h) (l0 := l4) (l1 := 0) (l2 := 7) ?_)
        refine E_if_eq 58 dX11_place_45 rfl (fun hc => ?_) (fun hc => ?_)
        · have hp45 := (by have := ite0 hc; omega : l4 < 0 ∨ l4 > 7)
          refine E_iconst dX11_place_58 (rg_of rfl) ?_
          exact E_top (if_neg (by omega)).symm hJ
        · have hp45 := (by have := ite1 hc; omega : l4 ≥ 0 ∧ l4 ≤ 7)
          refine E_iload_n 4 3 dX11_place_48 rfl rfl ?_
          refine E_iload 5 dX11_place_49 rfl ?_
          refine E_icmp_eq 58 dX11_place_51 rfl (fun hc => ?_) (fun hc => ?_)
          · have hp51 := (hc : l3 = l4)
            refine E_iconst dX11_place_58 (rg_of rfl) ?_
            exact E_top (if_neg (by omega)).symm hJ
          · have hp51 := (by omega : l3 ≠ l4)
            refine E_iconst dX11_place_54 (rg_of rfl) ?_
            refine E_goto 59 dX11_place_55 rfl ?_
            exact E_top (if_pos (by omega)).symm hJ
    · replace hP := hP.2 (by omega)
      refine E_iload_n 3 2 dX11_place_22 rfl rfl ?_
      refine E_iconst dX11_place_23 (rg_of rfl) ?_
      refine E_icmp_ne 61 dX11_place_24 rfl (fun hc => ?_) (fun hc => ?_)
      · replace hP := hP.1 (hc)
        exact E_sub [1, 2, 3, 4, 5, 0] rfl hP
      · replace hP := hP.2 (by omega)
        refine E_iload_n 4 3 dX11_place_27 rfl rfl ?_
        refine E_iconst dX11_place_28 (rg_of rfl) ?_
        refine E_bipush dX11_place_29 (by decide) ?_
        refine E_invSI [vi l3, vi 0, vi 7] dX11_place_31 fX11_isIn lX11_80 (by decide) rfl rfl (Nat.le_of_ble_eq_true rfl) (sX11_isIn (h := h) (l0 := l3) (l1 := 0) (l2 := 7) ?_)
        have hJ : E 2 mX11_place 59 [(5, vi (if l2 ≥ 0 ∧ l2 ≤ 5 then (1 : Int) else 0)), (0, vr 103), (1, vi l1), (2, vi l2), (3, vi l3), (4, vi l4)] [vi (if (l3 ≥ 0 ∧ l3 ≤ 7) ∧ ((l4 ≥ 0 ∧ l4 ≤ 7) ∧ (l3 ≠ l4)) then (1 : Int) else 0)] h (qi Q) := by
          refine E_istore dX11_place_59 (by decide) rfl ?_
          exact E_sub [1, 2, 3, 4, 5, 0] rfl hP
        refine E_if_eq 58 dX11_place_34 rfl (fun hc => ?_) (fun hc => ?_)
        · have hp34 := (by have := ite0 hc; omega : l3 < 0 ∨ l3 > 7)
          refine E_iconst dX11_place_58 (rg_of rfl) ?_
          exact E_top (if_neg (by omega)).symm hJ
        · have hp34 := (by have := ite1 hc; omega : l3 ≥ 0 ∧ l3 ≤ 7)
          refine E_iload 5 dX11_place_37 rfl ?_
          refine E_iconst dX11_place_39 (rg_of rfl) ?_
          refine E_bipush dX11_place_40 (by decide) ?_
          refine E_invSI [vi l4, vi 0, vi 7] dX11_place_42 fX11_isIn lX11_80 (by decide) rfl rfl (Nat.le_of_ble_eq_true rfl) (sX11_isIn (h := h) (l0 := l4) (l1 := 0) (l2 := 7) ?_)
          refine E_if_eq 58 dX11_place_45 rfl (fun hc => ?_) (fun hc => ?_)
          · have hp45 := (by have := ite0 hc; omega : l4 < 0 ∨ l4 > 7)
            refine E_iconst dX11_place_58 (rg_of rfl) ?_
            exact E_top (if_neg (by omega)).symm hJ
          · have hp45 := (by have := ite1 hc; omega : l4 ≥ 0 ∧ l4 ≤ 7)
            refine E_iload_n 4 3 dX11_place_48 rfl rfl ?_
            refine E_iload 5 dX11_place_49 rfl ?_
            refine E_icmp_eq 58 dX11_place_51 rfl (fun hc => ?_) (fun hc => ?_)
            · have hp51 := (hc : l3 = l4)
              refine E_iconst dX11_place_58 (rg_of rfl) ?_
              exact E_top (if_neg (by omega)).symm hJ
            · have hp51 := (by omega : l3 ≠ l4)
              refine E_iconst dX11_place_54 (rg_of rfl) ?_
              refine E_goto 59 dX11_place_55 rfl ?_
              exact E_top (if_pos (by omega)).symm hJ
  · replace hP := hP.2 (by have := ite0 hc; omega)
    refine E_iconst dX11_place_7 (rg_of rfl) ?_
    exact E_retI dX11_place_8 rfl hP
theorem dX11_discard_0 : decode prog_13_method_78_code 0 = .ok (.iload_n 1, 1) := by decide +kernel
theorem dX11_discard_1 : decode prog_13_method_78_code 1 = .ok (.invokestatic 227, 3) := by decide +kernel
theorem dX11_discard_4 : decode prog_13_method_78_code 4 = .ok (.ifCond .ne 5, 3) := by decide +kernel
theorem dX11_discard_7 : decode prog_13_method_78_code 7 = .ok (.iconst (-1), 1) := by decide +kernel
theorem dX11_discard_8 : decode prog_13_method_78_code 8 = .ok (.ireturn, 1) := by decide +kernel
theorem dX11_discard_9 : decode prog_13_method_78_code 9 = .ok (.aload_n 0, 1) := by decide +kernel
theorem dX11_discard_10 : decode prog_13_method_78_code 10 = .ok (.getfield 37, 3) := by decide +kernel
theorem dX11_discard_13 : decode prog_13_method_78_code 13 = .ok (.iload_n 1, 1) := by decide +kernel
theorem dX11_discard_14 : decode prog_13_method_78_code 14 = .ok (.iaload, 1) := by decide +kernel
theorem dX11_discard_15 : decode prog_13_method_78_code 15 = .ok (.ifCond .ge 6, 3) := by decide +kernel
theorem dX11_discard_18 : decode prog_13_method_78_code 18 = .ok (.bipush (-7), 2) := by decide +kernel
theorem dX11_discard_20 : decode prog_13_method_78_code 20 = .ok (.ireturn, 1) := by decide +kernel
theorem dX11_discard_21 : decode prog_13_method_78_code 21 = .ok (.aload_n 0, 1) := by decide +kernel
theorem dX11_discard_22 : decode prog_13_method_78_code 22 = .ok (.getfield 37, 3) := by decide +kernel
theorem dX11_discard_25 : decode prog_13_method_78_code 25 = .ok (.iload_n 1, 1) := by decide +kernel
theorem dX11_discard_26 : decode prog_13_method_78_code 26 = .ok (.iaload, 1) := by decide +kernel
theorem dX11_discard_27 : decode prog_13_method_78_code 27 = .ok (.istore_n 2, 1) := by decide +kernel
theorem dX11_discard_28 : decode prog_13_method_78_code 28 = .ok (.aload_n 0, 1) := by decide +kernel
theorem dX11_discard_29 : decode prog_13_method_78_code 29 = .ok (.getfield 37, 3) := by decide +kernel
theorem dX11_discard_32 : decode prog_13_method_78_code 32 = .ok (.iload_n 1, 1) := by decide +kernel
theorem dX11_discard_33 : decode prog_13_method_78_code 33 = .ok (.iconst (-1), 1) := by decide +kernel
theorem dX11_discard_34 : decode prog_13_method_78_code 34 = .ok (.iastore, 1) := by decide +kernel
theorem dX11_discard_35 : decode prog_13_method_78_code 35 = .ok (.iload_n 2, 1) := by decide +kernel
theorem dX11_discard_36 : decode prog_13_method_78_code 36 = .ok (.ireturn, 1) := by decide +kernel
theorem sX11_discard {Q : Int → Hp → Prop} {h : Hp} {l1 : Int}
    (hP : ((l1 ≥ 0 ∧ l1 ≤ 2) →
     (ix l1 3) ∧
     (((h 113 l1) ≥ 0) →
      (ix l1 3) ∧
      Q (h 113 l1) (up h 113 l1 (-1))) ∧
     (((h 113 l1) < 0) →
      Q (-7) h)) ∧
    ((l1 < 0 ∨ l1 > 2) →
     Q (-1) h)) :
    CI 2 mX11_discard [vr 103, vi l1] h Q := by
  refine CI_of_E fX11_discard.1 rfl (Nat.le_of_ble_eq_true rfl) ?_
  show E 2 mX11_discard 0 [(0, vr 103), (1, vi l1)] [] h (qi Q)
  refine E_iload_n 1 1 dX11_discard_0 rfl rfl ?_
  refine E_invSI [vi l1] dX11_discard_1 fX11_isShelf lX11_227 (by decide) rfl rfl (Nat.le_of_ble_eq_true rfl) (sX11_isShelf (h := h) (l0 := l1) ?_)
  refine E_if_ne 9 dX11_discard_4 rfl (fun hc => ?_) (fun hc => ?_)
  · replace hP := hP.1 (by have := ite1' hc; omega)
    obtain ⟨v2_0, hP⟩ := hP
    refine E_aload_n 0 0 dX11_discard_9 rfl rfl ?_
    refine E_gR 113 12 dX11_discard_10 FX11_37 ic_103 (by decide) ?_
    refine E_iload_n 1 1 dX11_discard_13 rfl rfl ?_
    refine E_iaload dX11_discard_14 ic_113 v2_0.1 v2_0.2 ?_
    refine E_if_ge 21 dX11_discard_15 rfl (fun hc => ?_) (fun hc => ?_)
    · replace hP := hP.1 (hc)
      obtain ⟨v3_0, hP⟩ := hP
      refine E_aload_n 0 0 dX11_discard_21 rfl rfl ?_
      refine E_gR 113 12 dX11_discard_22 FX11_37 ic_103 (by decide) ?_
      refine E_iload_n 1 1 dX11_discard_25 rfl rfl ?_
      refine E_iaload dX11_discard_26 ic_113 v3_0.1 v3_0.2 ?_
      refine E_istore_n dX11_discard_27 rfl (by decide) rfl ?_
      refine E_aload_n 1 0 dX11_discard_28 rfl rfl ?_
      refine E_gR 113 12 dX11_discard_29 FX11_37 ic_103 (by decide) ?_
      refine E_iload_n 2 1 dX11_discard_32 rfl rfl ?_
      refine E_iconst dX11_discard_33 (rg_of rfl) ?_
      refine E_iastore dX11_discard_34 ic_113 v3_0.1 v3_0.2 ?_
      refine E_iload_n 0 2 dX11_discard_35 rfl rfl ?_
      exact E_retI dX11_discard_36 rfl hP
    · replace hP := hP.2 (by omega)
      refine E_bipush dX11_discard_18 (by decide) ?_
      exact E_retI dX11_discard_20 rfl hP
  · replace hP := hP.2 (by have := ite0 hc; omega)
    refine E_iconst dX11_discard_7 (rg_of rfl) ?_
    exact E_retI dX11_discard_8 rfl hP
theorem dX11_castBlock_0 : decode prog_13_method_79_code 0 = .ok (.iload_n 1, 1) := by decide +kernel
theorem dX11_castBlock_1 : decode prog_13_method_79_code 1 = .ok (.invokestatic 227, 3) := by decide +kernel
theorem dX11_castBlock_4 : decode prog_13_method_79_code 4 = .ok (.ifCond .ne 5, 3) := by decide +kernel
theorem dX11_castBlock_7 : decode prog_13_method_79_code 7 = .ok (.iconst (-1), 1) := by decide +kernel
theorem dX11_castBlock_8 : decode prog_13_method_79_code 8 = .ok (.ireturn, 1) := by decide +kernel
theorem dX11_castBlock_9 : decode prog_13_method_79_code 9 = .ok (.iload_n 2, 1) := by decide +kernel
theorem dX11_castBlock_10 : decode prog_13_method_79_code 10 = .ok (.iconst 0, 1) := by decide +kernel
theorem dX11_castBlock_11 : decode prog_13_method_79_code 11 = .ok (.iconst 5, 1) := by decide +kernel
theorem dX11_castBlock_12 : decode prog_13_method_79_code 12 = .ok (.invokestatic 80, 3) := by decide +kernel
theorem dX11_castBlock_15 : decode prog_13_method_79_code 15 = .ok (.ifCond .ne 6, 3) := by decide +kernel
theorem dX11_castBlock_18 : decode prog_13_method_79_code 18 = .ok (.bipush (-2), 2) := by decide +kernel
theorem dX11_castBlock_20 : decode prog_13_method_79_code 20 = .ok (.ireturn, 1) := by decide +kernel
theorem dX11_castBlock_21 : decode prog_13_method_79_code 21 = .ok (.aload_n 0, 1) := by decide +kernel
theorem dX11_castBlock_22 : decode prog_13_method_79_code 22 = .ok (.getfield 37, 3) := by decide +kernel
theorem dX11_castBlock_25 : decode prog_13_method_79_code 25 = .ok (.iload_n 1, 1) := by decide +kernel
theorem dX11_castBlock_26 : decode prog_13_method_79_code 26 = .ok (.iaload, 1) := by decide +kernel
theorem dX11_castBlock_27 : decode prog_13_method_79_code 27 = .ok (.ifCond .ge 6, 3) := by decide +kernel
theorem dX11_castBlock_30 : decode prog_13_method_79_code 30 = .ok (.bipush (-7), 2) := by decide +kernel
theorem dX11_castBlock_32 : decode prog_13_method_79_code 32 = .ok (.ireturn, 1) := by decide +kernel
theorem dX11_castBlock_33 : decode prog_13_method_79_code 33 = .ok (.aload_n 0, 1) := by decide +kernel
theorem dX11_castBlock_34 : decode prog_13_method_79_code 34 = .ok (.getfield 37, 3) := by decide +kernel
theorem dX11_castBlock_37 : decode prog_13_method_79_code 37 = .ok (.iload_n 1, 1) := by decide +kernel
theorem dX11_castBlock_38 : decode prog_13_method_79_code 38 = .ok (.iaload, 1) := by decide +kernel
theorem dX11_castBlock_39 : decode prog_13_method_79_code 39 = .ok (.istore_n 3, 1) := by decide +kernel
theorem dX11_castBlock_40 : decode prog_13_method_79_code 40 = .ok (.iload_n 3, 1) := by decide +kernel
theorem dX11_castBlock_41 : decode prog_13_method_79_code 41 = .ok (.ifCond .lt 16, 3) := by decide +kernel
theorem dX11_castBlock_44 : decode prog_13_method_79_code 44 = .ok (.iload_n 3, 1) := by decide +kernel
theorem dX11_castBlock_45 : decode prog_13_method_79_code 45 = .ok (.iload_n 2, 1) := by decide +kernel
theorem dX11_castBlock_46 : decode prog_13_method_79_code 46 = .ok (.if_icmp .eq 11, 3) := by decide +kernel
theorem dX11_castBlock_49 : decode prog_13_method_79_code 49 = .ok (.iload_n 3, 1) := by decide +kernel
theorem dX11_castBlock_50 : decode prog_13_method_79_code 50 = .ok (.invokestatic 230, 3) := by decide +kernel
theorem dX11_castBlock_53 : decode prog_13_method_79_code 53 = .ok (.istore_n 3, 1) := by decide +kernel
theorem dX11_castBlock_54 : decode prog_13_method_79_code 54 = .ok (.goto (-14), 3) := by decide +kernel
theorem dX11_castBlock_57 : decode prog_13_method_79_code 57 = .ok (.iload_n 3, 1) := by decide +kernel
theorem dX11_castBlock_58 : decode prog_13_method_79_code 58 = .ok (.iload_n 2, 1) := by decide +kernel
theorem dX11_castBlock_59 : decode prog_13_method_79_code 59 = .ok (.if_icmp .ne 12, 3) := by decide +kernel
theorem dX11_castBlock_62 : decode prog_13_method_79_code 62 = .ok (.aload_n 0, 1) := by decide +kernel
theorem dX11_castBlock_63 : decode prog_13_method_79_code 63 = .ok (.getfield 37, 3) := by decide +kernel
theorem dX11_castBlock_66 : decode prog_13_method_79_code 66 = .ok (.iload_n 1, 1) := by decide +kernel
theorem dX11_castBlock_67 : decode prog_13_method_79_code 67 = .ok (.iaload, 1) := by decide +kernel
theorem dX11_castBlock_68 : decode prog_13_method_79_code 68 = .ok (.goto 5, 3) := by decide +kernel
theorem dX11_castBlock_71 : decode prog_13_method_79_code 71 = .ok (.bipush (-8), 2) := by decide +kernel
theorem dX11_castBlock_73 : decode prog_13_method_79_code 73 = .ok (.ireturn, 1) := by decide +kernel
theorem sX11_castBlock_40 {Q : Int → Hp → Prop} {h : Hp} {l1 l2 l3 : Int}
    (hP : ((l3 < 0) →
     (((l3 = l2) → (ix l1 3))) ∧
     Q (if l3 ≠ l2 then (-8) else (h 113 l1)) h) ∧
    ((l3 ≥ 0) →
     ((l3 = l2) →
      (((l3 = l2) → (ix l1 3))) ∧
      Q (if l3 ≠ l2 then (-8) else (h 113 l1)) h) ∧
     ((l3 ≠ l2) →
      (∀ x8 : Int, x8 = (if l3 ≠ 2 then (if l3 ≠ 4 then (if l3 ≠ 5 then (if l3 ≠ 0 then 0 else (-1)) else 4) else 3) else 1) →
      E 2 mX11_castBlock 40 [(0, vr 103), (1, vi l1), (2, vi l2), (3, vi x8)] [] h (qi Q))))) :
    E 2 mX11_castBlock 40 [(0, vr 103), (1, vi l1), (2, vi l2), (3, vi l3)] [] h (qi Q) := by
  refine E_iload_n 3 3 dX11_castBlock_40 rfl rfl ?_
  refine E_if_lt 57 dX11_castBlock_41 rfl (fun hc => ?_) (fun hc => ?_)
  · replace hP := hP.1 (hc)
    obtain ⟨v2_0, hP⟩ := hP
    refine E_iload_n 3 3 dX11_castBlock_57 rfl rfl ?_
    refine E_iload_n 2 2 dX11_castBlock_58 rfl rfl ?_
    have hJ : E 2 mX11_castBlock 73 [(0, vr 103), (1, vi l1), (2, vi l2), (3, vi l3)] [vi (if l3 ≠ l2 then (-8) else (h 113 l1))] h (qi Q) := by
      exact E_retI dX11_castBlock_73 rfl hP
    refine E_icmp_ne 71 dX11_castBlock_59 rfl (fun hc => ?_) (fun hc => ?_)
    · have hp59 := (hc : l3 ≠ l2)
      refine E_bipush dX11_castBlock_71 (by decide) ?_
      exact E_top (by first | exact (if_pos (by omega)).symm | exact (if_neg (by omega)).symm | (repeat first | rw [if_pos (by omega)] | rw [if_neg (by omega)])) hJ
    · have hp59 := (by omega : l3 = l2)
      refine E_aload_n 0 0 dX11_castBlock_62 rfl rfl ?_
      refine E_gR 113 12 dX11_castBlock_63 FX11_37 ic_103 (by decide) ?_
      refine E_iload_n 1 1 dX11_castBlock_66 rfl rfl ?_
      refine E_iaload dX11_castBlock_67 ic_113 (v2_0 (by omega)).1 (v2_0 (by omega)).2 ?_
      refine E_goto 73 dX11_castBlock_68 rfl ?_
      exact E_top (by first | exact (if_pos (by omega)).symm | exact (if_neg (by omega)).symm | (repeat first | rw [if_pos (by omega)] | rw [if_neg (by omega)])) hJ
  · replace hP := hP.2 (by omega)
    refine E_iload_n 3 3 dX11_castBlock_44 rfl rfl ?_
    refine E_iload_n 2 2 dX11_castBlock_45 rfl rfl ?_
    refine E_icmp_eq 57 dX11_castBlock_46 rfl (fun hc => ?_) (fun hc => ?_)
    · replace hP := hP.1 (hc)
      obtain ⟨v5_0, hP⟩ := hP
      refine E_iload_n 3 3 dX11_castBlock_57 rfl rfl ?_
      refine E_iload_n 2 2 dX11_castBlock_58 rfl rfl ?_
      have hJ : E 2 mX11_castBlock 73 [(0, vr 103), (1, vi l1), (2, vi l2), (3, vi l3)] [vi (if l3 ≠ l2 then (-8) else (h 113 l1))] h (qi Q) := by
        exact E_retI dX11_castBlock_73 rfl hP
      refine E_icmp_ne 71 dX11_castBlock_59 rfl (fun hc => ?_) (fun hc => ?_)
      · have hp59 := (hc : l3 ≠ l2)
        refine E_bipush dX11_castBlock_71 (by decide) ?_
        exact E_top (by first | exact (if_pos (by omega)).symm | exact (if_neg (by omega)).symm | (repeat first | rw [if_pos (by omega)] | rw [if_neg (by omega)])) hJ
      · have hp59 := (by omega : l3 = l2)
        refine E_aload_n 0 0 dX11_castBlock_62 rfl rfl ?_
        refine E_gR 113 12 dX11_castBlock_63 FX11_37 ic_103 (by decide) ?_
        refine E_iload_n 1 1 dX11_castBlock_66 rfl rfl ?_
        refine E_iaload dX11_castBlock_67 ic_113 (v5_0 (by omega)).1 (v5_0 (by omega)).2 ?_
        refine E_goto 73 dX11_castBlock_68 rfl ?_
        exact E_top (by first | exact (if_pos (by omega)).symm | exact (if_neg (by omega)).symm | (repeat first | rw [if_pos (by omega)] | rw [if_neg (by omega)])) hJ
    · replace hP := hP.2 (by omega)
      refine E_iload_n 3 3 dX11_castBlock_49 rfl rfl ?_
      refine E_invSI [vi l3] dX11_castBlock_50 fX11_above lX11_230 (by decide) rfl rfl (Nat.le_of_ble_eq_true rfl) (sX11_above (h := h) (l0 := l3) ?_)
      obtain ⟨x8, hx8⟩ : ∃ x : Int, x = (if l3 ≠ 2 then (if l3 ≠ 4 then (if l3 ≠ 5 then (if l3 ≠ 0 then 0 else (-1)) else 4) else 3) else 1) := ⟨_, rfl⟩
      refine E_top hx8.symm ?_
      replace hP := hP x8 hx8
      refine E_istore_n dX11_castBlock_53 rfl (by decide) rfl ?_
      refine E_goto 40 dX11_castBlock_54 rfl ?_
      exact E_sub [1, 2, 3, 0] rfl hP
theorem sX11_castBlock {Q : Int → Hp → Prop} {h : Hp} {l1 l2 : Int}
    (hP : ((l1 ≥ 0 ∧ l1 ≤ 2) →
     ((l2 ≥ 0 ∧ l2 ≤ 5) →
      (ix l1 3) ∧
      (((h 113 l1) ≥ 0) →
       (ix l1 3) ∧
       E 2 mX11_castBlock 40 [(0, vr 103), (1, vi l1), (2, vi l2), (3, vi (h 113 l1))] [] h (qi Q)) ∧
      (((h 113 l1) < 0) →
       Q (-7) h)) ∧
     ((l2 < 0 ∨ l2 > 5) →
      Q (-2) h)) ∧
    ((l1 < 0 ∨ l1 > 2) →
     Q (-1) h)) :
    CI 2 mX11_castBlock [vr 103, vi l1, vi l2] h Q := by
  refine CI_of_E fX11_castBlock.1 rfl (Nat.le_of_ble_eq_true rfl) ?_
  show E 2 mX11_castBlock 0 [(0, vr 103), (1, vi l1), (2, vi l2)] [] h (qi Q)
  refine E_iload_n 1 1 dX11_castBlock_0 rfl rfl ?_
  refine E_invSI [vi l1] dX11_castBlock_1 fX11_isShelf lX11_227 (by decide) rfl rfl (Nat.le_of_ble_eq_true rfl) (sX11_isShelf (h := h) (l0 := l1) ?_)
  refine E_if_ne 9 dX11_castBlock_4 rfl (fun hc => ?_) (fun hc => ?_)
  · replace hP := hP.1 (by have := ite1' hc; omega)
    refine E_iload_n 2 2 dX11_castBlock_9 rfl rfl ?_
    refine E_iconst dX11_castBlock_10 (rg_of rfl) ?_
    refine E_iconst dX11_castBlock_11 (rg_of rfl) ?_
    refine E_invSI [vi l2, vi 0, vi 5] dX11_castBlock_12 fX11_isIn lX11_80 (by decide) rfl rfl (Nat.le_of_ble_eq_true rfl) (sX11_isIn (h := h) (l0 := l2) (l1 := 0) (l2 := 5) ?_)
    refine E_if_ne 21 dX11_castBlock_15 rfl (fun hc => ?_) (fun hc => ?_)
    · replace hP := hP.1 (by have := ite1' hc; omega)
      obtain ⟨v3_0, hP⟩ := hP
      refine E_aload_n 0 0 dX11_castBlock_21 rfl rfl ?_
      refine E_gR 113 12 dX11_castBlock_22 FX11_37 ic_103 (by decide) ?_
      refine E_iload_n 1 1 dX11_castBlock_25 rfl rfl ?_
      refine E_iaload dX11_castBlock_26 ic_113 v3_0.1 v3_0.2 ?_
      refine E_if_ge 33 dX11_castBlock_27 rfl (fun hc => ?_) (fun hc => ?_)
      · replace hP := hP.1 (hc)
        obtain ⟨v4_0, hP⟩ := hP
        refine E_aload_n 0 0 dX11_castBlock_33 rfl rfl ?_
        refine E_gR 113 12 dX11_castBlock_34 FX11_37 ic_103 (by decide) ?_
        refine E_iload_n 1 1 dX11_castBlock_37 rfl rfl ?_
        refine E_iaload dX11_castBlock_38 ic_113 v4_0.1 v4_0.2 ?_
        refine E_istore_n dX11_castBlock_39 rfl (by decide) rfl ?_
        exact E_sub [1, 2, 3, 0] rfl hP
      · replace hP := hP.2 (by omega)
        refine E_bipush dX11_castBlock_30 (by decide) ?_
        exact E_retI dX11_castBlock_32 rfl hP
    · replace hP := hP.2 (by have := ite0 hc; omega)
      refine E_bipush dX11_castBlock_18 (by decide) ?_
      exact E_retI dX11_castBlock_20 rfl hP
  · replace hP := hP.2 (by have := ite0 hc; omega)
    refine E_iconst dX11_castBlock_7 (rg_of rfl) ?_
    exact E_retI dX11_castBlock_8 rfl hP
theorem dX11_makes__0 : decode prog_13_method_80_code 0 = .ok (.aload_n 0, 1) := by decide +kernel
theorem dX11_makes__1 : decode prog_13_method_80_code 1 = .ok (.getfield 74, 3) := by decide +kernel
theorem dX11_makes__4 : decode prog_13_method_80_code 4 = .ok (.aload_n 0, 1) := by decide +kernel
theorem dX11_makes__5 : decode prog_13_method_80_code 5 = .ok (.getfield 233, 3) := by decide +kernel
theorem dX11_makes__8 : decode prog_13_method_80_code 8 = .ok (.iload_n 1, 1) := by decide +kernel
theorem dX11_makes__9 : decode prog_13_method_80_code 9 = .ok (.iastore, 1) := by decide +kernel
theorem dX11_makes__10 : decode prog_13_method_80_code 10 = .ok (.aload_n 0, 1) := by decide +kernel
theorem dX11_makes__11 : decode prog_13_method_80_code 11 = .ok (.getfield 77, 3) := by decide +kernel
theorem dX11_makes__14 : decode prog_13_method_80_code 14 = .ok (.aload_n 0, 1) := by decide +kernel
theorem dX11_makes__15 : decode prog_13_method_80_code 15 = .ok (.getfield 233, 3) := by decide +kernel
theorem dX11_makes__18 : decode prog_13_method_80_code 18 = .ok (.iload_n 2, 1) := by decide +kernel
theorem dX11_makes__19 : decode prog_13_method_80_code 19 = .ok (.iastore, 1) := by decide +kernel
theorem dX11_makes__20 : decode prog_13_method_80_code 20 = .ok (.aload_n 0, 1) := by decide +kernel
theorem dX11_makes__21 : decode prog_13_method_80_code 21 = .ok (.dup, 1) := by decide +kernel
theorem dX11_makes__22 : decode prog_13_method_80_code 22 = .ok (.getfield 233, 3) := by decide +kernel
theorem dX11_makes__25 : decode prog_13_method_80_code 25 = .ok (.iconst 1, 1) := by decide +kernel
theorem dX11_makes__26 : decode prog_13_method_80_code 26 = .ok (.iadd, 1) := by decide +kernel
theorem dX11_makes__27 : decode prog_13_method_80_code 27 = .ok (.putfield 233, 3) := by decide +kernel
theorem dX11_makes__30 : decode prog_13_method_80_code 30 = .ok (.return_, 1) := by decide +kernel
theorem sX11_makes_ {Q : Hp → Prop} {h : Hp} {l1 l2 : Int}
    (hP : (ix (h 103 33) 80 ∧ rj ((h 103 33) + 1)) ∧
    Q (up (up (up h 125 (h 103 33) l1) 126 (h 103 33) l2) 103 33 ((h 103 33) + 1))) :
    CV 0 mX11_makes_ [vr 103, vi l1, vi l2] h Q := by
  refine CV_of_E fX11_makes_.1 rfl (Nat.le_of_ble_eq_true rfl) ?_
  show E 0 mX11_makes_ 0 [(0, vr 103), (1, vi l1), (2, vi l2)] [] h (qv Q)
  obtain ⟨⟨v1_0, v1_1⟩, hP⟩ := hP
  refine E_aload_n 0 0 dX11_makes__0 rfl rfl ?_
  refine E_gR 125 31 dX11_makes__1 FX11_74 ic_103 (by decide) ?_
  refine E_aload_n 0 0 dX11_makes__4 rfl rfl ?_
  refine E_gI 33 33 dX11_makes__5 FX11_233 ic_103 rfl ?_
  refine E_iload_n 1 1 dX11_makes__8 rfl rfl ?_
  refine E_iastore dX11_makes__9 ic_125 v1_0.1 v1_0.2 ?_
  refine E_aload_n 0 0 dX11_makes__10 rfl rfl ?_
  refine E_gR 126 32 dX11_makes__11 FX11_77 ic_103 (by decide) ?_
  refine E_aload_n 0 0 dX11_makes__14 rfl rfl ?_
  refine E_gI 33 33 dX11_makes__15 FX11_233 ic_103 rfl ?_
  refine E_top (y := (h 103 33)) (by simp [up]) ?_
  refine E_iload_n 2 2 dX11_makes__18 rfl rfl ?_
  refine E_iastore dX11_makes__19 ic_126 v1_0.1 v1_0.2 ?_
  refine E_aload_n 0 0 dX11_makes__20 rfl rfl ?_
  refine E_dup dX11_makes__21 rfl ?_
  refine E_gI 33 33 dX11_makes__22 FX11_233 ic_103 rfl ?_
  refine E_top (y := (h 103 33)) (by simp [up]) ?_
  refine E_iconst dX11_makes__25 (rg_of rfl) ?_
  refine E_iadd dX11_makes__26 (rgI v1_1) ?_
  refine E_pI 33 33 dX11_makes__27 PX11_233 ic_103 rfl ?_
  exact E_retV dX11_makes__30 rfl hP
theorem dX11_makesLayer_0 : decode prog_13_method_81_code 0 = .ok (.iload_n 1, 1) := by decide +kernel
theorem dX11_makesLayer_1 : decode prog_13_method_81_code 1 = .ok (.istore_n 3, 1) := by decide +kernel
theorem dX11_makesLayer_2 : decode prog_13_method_81_code 2 = .ok (.iload_n 3, 1) := by decide +kernel
theorem dX11_makesLayer_3 : decode prog_13_method_81_code 3 = .ok (.iconst 1, 1) := by decide +kernel
theorem dX11_makesLayer_4 : decode prog_13_method_81_code 4 = .ok (.iadd, 1) := by decide +kernel
theorem dX11_makesLayer_5 : decode prog_13_method_81_code 5 = .ok (.iload_n 2, 1) := by decide +kernel
theorem dX11_makesLayer_6 : decode prog_13_method_81_code 6 = .ok (.if_icmp .ge 17, 3) := by decide +kernel
theorem dX11_makesLayer_9 : decode prog_13_method_81_code 9 = .ok (.aload_n 0, 1) := by decide +kernel
theorem dX11_makesLayer_10 : decode prog_13_method_81_code 10 = .ok (.iload_n 3, 1) := by decide +kernel
theorem dX11_makesLayer_11 : decode prog_13_method_81_code 11 = .ok (.iload_n 3, 1) := by decide +kernel
theorem dX11_makesLayer_12 : decode prog_13_method_81_code 12 = .ok (.iconst 1, 1) := by decide +kernel
theorem dX11_makesLayer_13 : decode prog_13_method_81_code 13 = .ok (.iadd, 1) := by decide +kernel
theorem dX11_makesLayer_14 : decode prog_13_method_81_code 14 = .ok (.invokevirtual 236, 3) := by decide +kernel
theorem dX11_makesLayer_17 : decode prog_13_method_81_code 17 = .ok (.iinc 3 2, 3) := by decide +kernel
theorem dX11_makesLayer_20 : decode prog_13_method_81_code 20 = .ok (.goto (-18), 3) := by decide +kernel
theorem dX11_makesLayer_23 : decode prog_13_method_81_code 23 = .ok (.return_, 1) := by decide +kernel
theorem sX11_makesLayer_2 {Q : Hp → Prop} {h : Hp} {l2 l3 : Int}
    (hP : (rj (l3 + 1)) ∧
    (((l3 + 1) ≥ l2) →
     Q h) ∧
    (((l3 + 1) < l2) →
     (rj (l3 + 1) ∧ ix (h 103 33) 80 ∧ rj ((h 103 33) + 1) ∧ rj (l3 + 2)) ∧
     E 1 mX11_makesLayer 2 [(0, vr 103), (2, vi l2), (3, vi (l3 + 2))] [] (up (up (up h 125 (h 103 33) l3) 126 (h 103 33) (l3 + 1)) 103 33 ((h 103 33) + 1)) (qv Q))) :
    E 1 mX11_makesLayer 2 [(0, vr 103), (2, vi l2), (3, vi l3)] [] h (qv Q) := by
  obtain ⟨v1_0, hP⟩ := hP
  refine E_iload_n 2 3 dX11_makesLayer_2 rfl rfl ?_
  refine E_iconst dX11_makesLayer_3 (rg_of rfl) ?_
  refine E_iadd dX11_makesLayer_4 (rgI v1_0) ?_
  refine E_iload_n 1 2 dX11_makesLayer_5 rfl rfl ?_
  refine E_icmp_ge 23 dX11_makesLayer_6 rfl (fun hc => ?_) (fun hc => ?_)
  · replace hP := hP.1 (hc)
    exact E_retV dX11_makesLayer_23 rfl hP
  · replace hP := hP.2 (by omega)
    obtain ⟨⟨v3_0, v3_1, v3_2, v3_3⟩, hP⟩ := hP
    refine E_aload_n 0 0 dX11_makesLayer_9 rfl rfl ?_
    refine E_iload_n 2 3 dX11_makesLayer_10 rfl rfl ?_
    refine E_iload_n 2 3 dX11_makesLayer_11 rfl rfl ?_
    refine E_iconst dX11_makesLayer_12 (rg_of rfl) ?_
    refine E_iadd dX11_makesLayer_13 (rgI v3_0) ?_
    refine E_invVV [vi l3, vi (l3 + 1)] dX11_makesLayer_14 fX11_makes_ lX11_236 ic_103 rfl (by decide) rfl rfl (Nat.le_of_ble_eq_true rfl) (sX11_makes_ (h := h) (l1 := l3) (l2 := (l3 + 1)) ⟨⟨v3_1, v3_2⟩, ?_⟩)
    refine E_iinc 2 dX11_makesLayer_17 rfl (rgI v3_3) (by decide) rfl ?_
    refine E_goto 2 dX11_makesLayer_20 rfl ?_
    exact E_sub [1, 2, 0] rfl hP
theorem sX11_makesLayer {Q : Hp → Prop} {h : Hp} {l1 l2 : Int}
    (hP : E 1 mX11_makesLayer 2 [(0, vr 103), (2, vi l2), (3, vi l1)] [] h (qv Q)) :
    CV 1 mX11_makesLayer [vr 103, vi l1, vi l2] h Q := by
  refine CV_of_E fX11_makesLayer.1 rfl (Nat.le_of_ble_eq_true rfl) ?_
  show E 1 mX11_makesLayer 0 [(0, vr 103), (1, vi l1), (2, vi l2)] [] h (qv Q)
  refine E_iload_n 1 1 dX11_makesLayer_0 rfl rfl ?_
  refine E_istore_n dX11_makesLayer_1 rfl (by decide) rfl ?_
  exact E_sub [1, 3, 0] rfl hP
theorem dX11_isMade_0 : decode prog_13_method_82_code 0 = .ok (.aload_n 0, 1) := by decide +kernel
theorem dX11_isMade_1 : decode prog_13_method_82_code 1 = .ok (.iconst 0, 1) := by decide +kernel
theorem dX11_isMade_2 : decode prog_13_method_82_code 2 = .ok (.putfield 233, 3) := by decide +kernel
theorem dX11_isMade_5 : decode prog_13_method_82_code 5 = .ok (.aload_n 0, 1) := by decide +kernel
theorem dX11_isMade_6 : decode prog_13_method_82_code 6 = .ok (.getfield 40, 3) := by decide +kernel
theorem dX11_isMade_9 : decode prog_13_method_82_code 9 = .ok (.iload_n 1, 1) := by decide +kernel
theorem dX11_isMade_10 : decode prog_13_method_82_code 10 = .ok (.iaload, 1) := by decide +kernel
theorem dX11_isMade_11 : decode prog_13_method_82_code 11 = .ok (.istore_n 3, 1) := by decide +kernel
theorem dX11_isMade_12 : decode prog_13_method_82_code 12 = .ok (.aload_n 0, 1) := by decide +kernel
theorem dX11_isMade_13 : decode prog_13_method_82_code 13 = .ok (.getfield 43, 3) := by decide +kernel
theorem dX11_isMade_16 : decode prog_13_method_82_code 16 = .ok (.iload_n 1, 1) := by decide +kernel
theorem dX11_isMade_17 : decode prog_13_method_82_code 17 = .ok (.iaload, 1) := by decide +kernel
theorem dX11_isMade_18 : decode prog_13_method_82_code 18 = .ok (.istore 4, 2) := by decide +kernel
theorem dX11_isMade_20 : decode prog_13_method_82_code 20 = .ok (.aload_n 0, 1) := by decide +kernel
theorem dX11_isMade_21 : decode prog_13_method_82_code 21 = .ok (.getfield 37, 3) := by decide +kernel
theorem dX11_isMade_24 : decode prog_13_method_82_code 24 = .ok (.iload_n 1, 1) := by decide +kernel
theorem dX11_isMade_25 : decode prog_13_method_82_code 25 = .ok (.iaload, 1) := by decide +kernel
theorem dX11_isMade_26 : decode prog_13_method_82_code 26 = .ok (.iconst 1, 1) := by decide +kernel
theorem dX11_isMade_27 : decode prog_13_method_82_code 27 = .ok (.if_icmp .eq 13, 3) := by decide +kernel
theorem dX11_isMade_30 : decode prog_13_method_82_code 30 = .ok (.aload_n 0, 1) := by decide +kernel
theorem dX11_isMade_31 : decode prog_13_method_82_code 31 = .ok (.getfield 37, 3) := by decide +kernel
theorem dX11_isMade_34 : decode prog_13_method_82_code 34 = .ok (.iload_n 1, 1) := by decide +kernel
theorem dX11_isMade_35 : decode prog_13_method_82_code 35 = .ok (.iaload, 1) := by decide +kernel
theorem dX11_isMade_36 : decode prog_13_method_82_code 36 = .ok (.iconst 2, 1) := by decide +kernel
theorem dX11_isMade_37 : decode prog_13_method_82_code 37 = .ok (.if_icmp .ne 48, 3) := by decide +kernel
theorem dX11_isMade_40 : decode prog_13_method_82_code 40 = .ok (.iload_n 3, 1) := by decide +kernel
theorem dX11_isMade_41 : decode prog_13_method_82_code 41 = .ok (.iload_n 2, 1) := by decide +kernel
theorem dX11_isMade_42 : decode prog_13_method_82_code 42 = .ok (.if_icmp .ge 9, 3) := by decide +kernel
theorem dX11_isMade_45 : decode prog_13_method_82_code 45 = .ok (.iload 4, 2) := by decide +kernel
theorem dX11_isMade_47 : decode prog_13_method_82_code 47 = .ok (.iload_n 2, 1) := by decide +kernel
theorem dX11_isMade_48 : decode prog_13_method_82_code 48 = .ok (.if_icmp .lt 5, 3) := by decide +kernel
theorem dX11_isMade_51 : decode prog_13_method_82_code 51 = .ok (.iconst 0, 1) := by decide +kernel
theorem dX11_isMade_52 : decode prog_13_method_82_code 52 = .ok (.ireturn, 1) := by decide +kernel
theorem dX11_isMade_53 : decode prog_13_method_82_code 53 = .ok (.aload_n 0, 1) := by decide +kernel
theorem dX11_isMade_54 : decode prog_13_method_82_code 54 = .ok (.iload_n 3, 1) := by decide +kernel
theorem dX11_isMade_55 : decode prog_13_method_82_code 55 = .ok (.iload 4, 2) := by decide +kernel
theorem dX11_isMade_57 : decode prog_13_method_82_code 57 = .ok (.invokevirtual 236, 3) := by decide +kernel
theorem dX11_isMade_60 : decode prog_13_method_82_code 60 = .ok (.aload_n 0, 1) := by decide +kernel
theorem dX11_isMade_61 : decode prog_13_method_82_code 61 = .ok (.getfield 37, 3) := by decide +kernel
theorem dX11_isMade_64 : decode prog_13_method_82_code 64 = .ok (.iload_n 1, 1) := by decide +kernel
theorem dX11_isMade_65 : decode prog_13_method_82_code 65 = .ok (.iaload, 1) := by decide +kernel
theorem dX11_isMade_66 : decode prog_13_method_82_code 66 = .ok (.iconst 2, 1) := by decide +kernel
theorem dX11_isMade_67 : decode prog_13_method_82_code 67 = .ok (.if_icmp .ne 18, 3) := by decide +kernel
theorem dX11_isMade_70 : decode prog_13_method_82_code 70 = .ok (.aload_n 0, 1) := by decide +kernel
theorem dX11_isMade_71 : decode prog_13_method_82_code 71 = .ok (.iload_n 2, 1) := by decide +kernel
theorem dX11_isMade_72 : decode prog_13_method_82_code 72 = .ok (.iconst 1, 1) := by decide +kernel
theorem dX11_isMade_73 : decode prog_13_method_82_code 73 = .ok (.isub, 1) := by decide +kernel
theorem dX11_isMade_74 : decode prog_13_method_82_code 74 = .ok (.iload 4, 2) := by decide +kernel
theorem dX11_isMade_76 : decode prog_13_method_82_code 76 = .ok (.isub, 1) := by decide +kernel
theorem dX11_isMade_77 : decode prog_13_method_82_code 77 = .ok (.iload_n 2, 1) := by decide +kernel
theorem dX11_isMade_78 : decode prog_13_method_82_code 78 = .ok (.iconst 1, 1) := by decide +kernel
theorem dX11_isMade_79 : decode prog_13_method_82_code 79 = .ok (.isub, 1) := by decide +kernel
theorem dX11_isMade_80 : decode prog_13_method_82_code 80 = .ok (.iload_n 3, 1) := by decide +kernel
theorem dX11_isMade_81 : decode prog_13_method_82_code 81 = .ok (.isub, 1) := by decide +kernel
theorem dX11_isMade_82 : decode prog_13_method_82_code 82 = .ok (.invokevirtual 236, 3) := by decide +kernel
theorem dX11_isMade_85 : decode prog_13_method_82_code 85 = .ok (.aload_n 0, 1) := by decide +kernel
theorem dX11_isMade_86 : decode prog_13_method_82_code 86 = .ok (.getfield 37, 3) := by decide +kernel
theorem dX11_isMade_89 : decode prog_13_method_82_code 89 = .ok (.iload_n 1, 1) := by decide +kernel
theorem dX11_isMade_90 : decode prog_13_method_82_code 90 = .ok (.iaload, 1) := by decide +kernel
theorem dX11_isMade_91 : decode prog_13_method_82_code 91 = .ok (.iconst 3, 1) := by decide +kernel
theorem dX11_isMade_92 : decode prog_13_method_82_code 92 = .ok (.if_icmp .ne 9, 3) := by decide +kernel
theorem dX11_isMade_95 : decode prog_13_method_82_code 95 = .ok (.aload_n 0, 1) := by decide +kernel
theorem dX11_isMade_96 : decode prog_13_method_82_code 96 = .ok (.iload_n 3, 1) := by decide +kernel
theorem dX11_isMade_97 : decode prog_13_method_82_code 97 = .ok (.iload_n 2, 1) := by decide +kernel
theorem dX11_isMade_98 : decode prog_13_method_82_code 98 = .ok (.invokevirtual 238, 3) := by decide +kernel
theorem dX11_isMade_101 : decode prog_13_method_82_code 101 = .ok (.iconst 0, 1) := by decide +kernel
theorem dX11_isMade_102 : decode prog_13_method_82_code 102 = .ok (.istore 5, 2) := by decide +kernel
theorem dX11_isMade_104 : decode prog_13_method_82_code 104 = .ok (.aload_n 0, 1) := by decide +kernel
theorem dX11_isMade_105 : decode prog_13_method_82_code 105 = .ok (.getfield 37, 3) := by decide +kernel
theorem dX11_isMade_108 : decode prog_13_method_82_code 108 = .ok (.iload_n 1, 1) := by decide +kernel
theorem dX11_isMade_109 : decode prog_13_method_82_code 109 = .ok (.iaload, 1) := by decide +kernel
theorem dX11_isMade_110 : decode prog_13_method_82_code 110 = .ok (.iconst 4, 1) := by decide +kernel
theorem dX11_isMade_111 : decode prog_13_method_82_code 111 = .ok (.if_icmp .lt 35, 3) := by decide +kernel
theorem dX11_isMade_114 : decode prog_13_method_82_code 114 = .ok (.iload 5, 2) := by decide +kernel
theorem dX11_isMade_116 : decode prog_13_method_82_code 116 = .ok (.iload 4, 2) := by decide +kernel
theorem dX11_isMade_118 : decode prog_13_method_82_code 118 = .ok (.if_icmp .ge 28, 3) := by decide +kernel
theorem dX11_isMade_121 : decode prog_13_method_82_code 121 = .ok (.aload_n 0, 1) := by decide +kernel
theorem dX11_isMade_122 : decode prog_13_method_82_code 122 = .ok (.iload 5, 2) := by decide +kernel
theorem dX11_isMade_124 : decode prog_13_method_82_code 124 = .ok (.iconst 2, 1) := by decide +kernel
theorem dX11_isMade_125 : decode prog_13_method_82_code 125 = .ok (.irem, 1) := by decide +kernel
theorem dX11_isMade_126 : decode prog_13_method_82_code 126 = .ok (.ifCond .ne 7, 3) := by decide +kernel
theorem dX11_isMade_129 : decode prog_13_method_82_code 129 = .ok (.iload_n 3, 1) := by decide +kernel
theorem dX11_isMade_130 : decode prog_13_method_82_code 130 = .ok (.goto 6, 3) := by decide +kernel
theorem dX11_isMade_133 : decode prog_13_method_82_code 133 = .ok (.iconst 1, 1) := by decide +kernel
theorem dX11_isMade_134 : decode prog_13_method_82_code 134 = .ok (.iload_n 3, 1) := by decide +kernel
theorem dX11_isMade_135 : decode prog_13_method_82_code 135 = .ok (.isub, 1) := by decide +kernel
theorem dX11_isMade_136 : decode prog_13_method_82_code 136 = .ok (.iload_n 2, 1) := by decide +kernel
theorem dX11_isMade_137 : decode prog_13_method_82_code 137 = .ok (.invokevirtual 238, 3) := by decide +kernel
theorem dX11_isMade_140 : decode prog_13_method_82_code 140 = .ok (.iinc 5 1, 3) := by decide +kernel
theorem dX11_isMade_143 : decode prog_13_method_82_code 143 = .ok (.goto (-39), 3) := by decide +kernel
theorem dX11_isMade_146 : decode prog_13_method_82_code 146 = .ok (.aload_n 0, 1) := by decide +kernel
theorem dX11_isMade_147 : decode prog_13_method_82_code 147 = .ok (.getfield 37, 3) := by decide +kernel
theorem dX11_isMade_150 : decode prog_13_method_82_code 150 = .ok (.iload_n 1, 1) := by decide +kernel
theorem dX11_isMade_151 : decode prog_13_method_82_code 151 = .ok (.iaload, 1) := by decide +kernel
theorem dX11_isMade_152 : decode prog_13_method_82_code 152 = .ok (.iconst 5, 1) := by decide +kernel
theorem dX11_isMade_153 : decode prog_13_method_82_code 153 = .ok (.if_icmp .ne 9, 3) := by decide +kernel
theorem dX11_isMade_156 : decode prog_13_method_82_code 156 = .ok (.aload_n 0, 1) := by decide +kernel
theorem dX11_isMade_157 : decode prog_13_method_82_code 157 = .ok (.iload_n 3, 1) := by decide +kernel
theorem dX11_isMade_158 : decode prog_13_method_82_code 158 = .ok (.iload_n 2, 1) := by decide +kernel
theorem dX11_isMade_159 : decode prog_13_method_82_code 159 = .ok (.invokevirtual 238, 3) := by decide +kernel
theorem dX11_isMade_162 : decode prog_13_method_82_code 162 = .ok (.iconst 1, 1) := by decide +kernel
theorem dX11_isMade_163 : decode prog_13_method_82_code 163 = .ok (.ireturn, 1) := by decide +kernel
theorem sX11_isMade_146 {Q : Int → Hp → Prop} {h : Hp} {l1 l2 l3 : Int}
    (hP : (ix l1 3) ∧
    (((h 113 l1) ≠ 5) →
     Q 1 h) ∧
    (((h 113 l1) = 5) →
     CV 1 mX11_makesLayer [vr 103, vi l3, vi l2] h (fun h4 =>
      Q 1 h4))) :
    E 2 mX11_isMade 146 [(0, vr 103), (1, vi l1), (2, vi l2), (3, vi l3)] [] h (qi Q) := by
  obtain ⟨v1_0, hP⟩ := hP
  refine E_aload_n 0 0 dX11_isMade_146 rfl rfl ?_
  refine E_gR 113 12 dX11_isMade_147 FX11_37 ic_103 (by decide) ?_
  refine E_iload_n 1 1 dX11_isMade_150 rfl rfl ?_
  refine E_iaload dX11_isMade_151 ic_113 v1_0.1 v1_0.2 ?_
  refine E_iconst dX11_isMade_152 (rg_of rfl) ?_
  refine E_icmp_ne 162 dX11_isMade_153 rfl (fun hc => ?_) (fun hc => ?_)
  · replace hP := hP.1 (hc)
    refine E_iconst dX11_isMade_162 (rg_of rfl) ?_
    exact E_retZ dX11_isMade_163 rfl (Or.inr rfl) hP
  · replace hP := hP.2 (by omega)
    refine E_aload_n 0 0 dX11_isMade_156 rfl rfl ?_
    refine E_iload_n 3 3 dX11_isMade_157 rfl rfl ?_
    refine E_iload_n 2 2 dX11_isMade_158 rfl rfl ?_
    refine E_invVV [vi l3, vi l2] dX11_isMade_159 fX11_makesLayer lX11_238 ic_103 rfl (by decide) rfl rfl (Nat.le_of_ble_eq_true rfl) (CV_mono hP (fun h4 hP => ?_))
    refine E_iconst dX11_isMade_162 (rg_of rfl) ?_
    exact E_retZ dX11_isMade_163 rfl (Or.inr rfl) hP
theorem sX11_isMade_104 {Q : Int → Hp → Prop} {h : Hp} {l1 l2 l3 l4 l5 : Int}
    (hP : (ix l1 3) ∧
    (((h 113 l1) < 4) →
     E 2 mX11_isMade 146 [(0, vr 103), (1, vi l1), (2, vi l2), (3, vi l3)] [] h (qi Q)) ∧
    (((h 113 l1) ≥ 4) →
     ((l5 ≥ l4) →
      E 2 mX11_isMade 146 [(0, vr 103), (1, vi l1), (2, vi l2), (3, vi l3)] [] h (qi Q)) ∧
     ((l5 < l4) →
      ((((j_irem l5 2) ≠ 0) → (rj (1 - l3)))) ∧
      CV 1 mX11_makesLayer [vr 103, vi (if (j_irem l5 2) ≠ 0 then (1 - l3) else l3), vi l2] h (fun h7 =>
       (rj (l5 + 1)) ∧
       E 2 mX11_isMade 104 [(0, vr 103), (1, vi l1), (2, vi l2), (3, vi l3), (4, vi l4), (5, vi (l5 + 1))] [] h7 (qi Q))))) :
    E 2 mX11_isMade 104 [(0, vr 103), (1, vi l1), (2, vi l2), (3, vi l3), (4, vi l4), (5, vi l5)] [] h (qi Q) := by
  obtain ⟨v1_0, hP⟩ := hP
  refine E_aload_n 0 0 dX11_isMade_104 rfl rfl ?_
  refine E_gR 113 12 dX11_isMade_105 FX11_37 ic_103 (by decide) ?_
  refine E_iload_n 1 1 dX11_isMade_108 rfl rfl ?_
  refine E_iaload dX11_isMade_109 ic_113 v1_0.1 v1_0.2 ?_
  refine E_iconst dX11_isMade_110 (rg_of rfl) ?_
  refine E_icmp_lt 146 dX11_isMade_111 rfl (fun hc => ?_) (fun hc => ?_)
  · replace hP := hP.1 (hc)
    exact E_sub [0, 1, 2, 3] rfl hP
  · replace hP := hP.2 (by omega)
    refine E_iload 5 dX11_isMade_114 rfl ?_
    refine E_iload 4 dX11_isMade_116 rfl ?_
    refine E_icmp_ge 146 dX11_isMade_118 rfl (fun hc => ?_) (fun hc => ?_)
    · replace hP := hP.1 (hc)
      exact E_sub [0, 1, 2, 3] rfl hP
    · replace hP := hP.2 (by omega)
      obtain ⟨v5_0, hP⟩ := hP
      refine E_aload_n 0 0 dX11_isMade_121 rfl rfl ?_
      refine E_iload 5 dX11_isMade_122 rfl ?_
      refine E_iconst dX11_isMade_124 (rg_of rfl) ?_
      refine E_irem dX11_isMade_125 (by decide) ?_
      have hJ : E 2 mX11_isMade 136 [(0, vr 103), (1, vi l1), (2, vi l2), (3, vi l3), (4, vi l4), (5, vi l5)] [vi (if (j_irem l5 2) ≠ 0 then (1 - l3) else l3), vr 103] h (qi Q) := by
        refine E_iload_n 2 2 dX11_isMade_136 rfl rfl ?_
        refine E_invVV [vi (if (j_irem l5 2) ≠ 0 then (1 - l3) else l3), vi l2] dX11_isMade_137 fX11_makesLayer lX11_238 ic_103 rfl (by decide) rfl rfl (Nat.le_of_ble_eq_true rfl) (CV_mono hP (fun h7 hP => ?_))
        obtain ⟨v8_0, hP⟩ := hP
        refine E_iinc 5 dX11_isMade_140 rfl (rgI v8_0) (by decide) rfl ?_
        refine E_goto 104 dX11_isMade_143 rfl ?_
        exact E_sub [1, 2, 3, 4, 5, 0] rfl hP
      refine E_if_ne 133 dX11_isMade_126 rfl (fun hc => ?_) (fun hc => ?_)
      · have hp126 := (hc : (j_irem l5 2) ≠ 0)
        refine E_iconst dX11_isMade_133 (rg_of rfl) ?_
        refine E_iload_n 3 3 dX11_isMade_134 rfl rfl ?_
        refine E_isub dX11_isMade_135 (rgI (v5_0 (by omega))) ?_
        exact E_top (by first | exact (if_pos (by omega)).symm | exact (if_neg (by omega)).symm | (repeat first | rw [if_pos (by omega)] | rw [if_neg (by omega)])) hJ
      · have hp126 := (by omega : (j_irem l5 2) = 0)
        refine E_iload_n 3 3 dX11_isMade_129 rfl rfl ?_
        refine E_goto 136 dX11_isMade_130 rfl ?_
        exact E_top (by first | exact (if_pos (by omega)).symm | exact (if_neg (by omega)).symm | (repeat first | rw [if_pos (by omega)] | rw [if_neg (by omega)])) hJ
theorem sX11_isMade_85 {Q : Int → Hp → Prop} {h : Hp} {l1 l2 l3 l4 : Int}
    (hP : (ix l1 3) ∧
    (((h 113 l1) ≠ 3) →
     E 2 mX11_isMade 104 [(0, vr 103), (1, vi l1), (2, vi l2), (3, vi l3), (4, vi l4), (5, vi 0)] [] h (qi Q)) ∧
    (((h 113 l1) = 3) →
     CV 1 mX11_makesLayer [vr 103, vi l3, vi l2] h (fun h4 =>
      E 2 mX11_isMade 104 [(0, vr 103), (1, vi l1), (2, vi l2), (3, vi l3), (4, vi l4), (5, vi 0)] [] h4 (qi Q)))) :
    E 2 mX11_isMade 85 [(0, vr 103), (1, vi l1), (2, vi l2), (3, vi l3), (4, vi l4)] [] h (qi Q) := by
  obtain ⟨v1_0, hP⟩ := hP
  refine E_aload_n 0 0 dX11_isMade_85 rfl rfl ?_
  refine E_gR 113 12 dX11_isMade_86 FX11_37 ic_103 (by decide) ?_
  refine E_iload_n 1 1 dX11_isMade_89 rfl rfl ?_
  refine E_iaload dX11_isMade_90 ic_113 v1_0.1 v1_0.2 ?_
  refine E_iconst dX11_isMade_91 (rg_of rfl) ?_
  refine E_icmp_ne 101 dX11_isMade_92 rfl (fun hc => ?_) (fun hc => ?_)
  · replace hP := hP.1 (hc)
    refine E_iconst dX11_isMade_101 (rg_of rfl) ?_
    refine E_istore dX11_isMade_102 (by decide) rfl ?_
    exact E_sub [1, 2, 3, 4, 5, 0] rfl hP
  · replace hP := hP.2 (by omega)
    refine E_aload_n 0 0 dX11_isMade_95 rfl rfl ?_
    refine E_iload_n 3 3 dX11_isMade_96 rfl rfl ?_
    refine E_iload_n 2 2 dX11_isMade_97 rfl rfl ?_
    refine E_invVV [vi l3, vi l2] dX11_isMade_98 fX11_makesLayer lX11_238 ic_103 rfl (by decide) rfl rfl (Nat.le_of_ble_eq_true rfl) (CV_mono hP (fun h4 hP => ?_))
    refine E_iconst dX11_isMade_101 (rg_of rfl) ?_
    refine E_istore dX11_isMade_102 (by decide) rfl ?_
    exact E_sub [1, 2, 3, 4, 5, 0] rfl hP
theorem sX11_isMade {Q : Int → Hp → Prop} {h : Hp} {l1 l2 : Int}
    (hP : (ix l1 3) ∧
    (((h 113 l1) = 1) →
     (((h 114 l1) ≥ l2) →
      Q 0 (up h 103 33 0)) ∧
     (((h 114 l1) < l2) →
      (((h 115 l1) < l2) →
       (ix ((up h 103 33 0) 103 33) 80 ∧ rj (((up h 103 33 0) 103 33) + 1) ∧ ix l1 3) ∧
       (((h 113 l1) ≠ 2) →
        E 2 mX11_isMade 85 [(0, vr 103), (1, vi l1), (2, vi l2), (3, vi (h 114 l1)), (4, vi (h 115 l1))] [] (up (up (up (up h 103 33 0) 125 ((up h 103 33 0) 103 33) (h 114 l1)) 126 ((up h 103 33 0) 103 33) (h 115 l1)) 103 33 (((up h 103 33 0) 103 33) + 1)) (qi Q)) ∧
       (((h 113 l1) = 2) →
        (rj (l2 - 1) ∧ rj ((l2 - 1) - (h 115 l1)) ∧ rj ((l2 - 1) - (h 114 l1)) ∧ ix ((up (up (up (up h 103 33 0) 125 ((up h 103 33 0) 103 33) (h 114 l1)) 126 ((up h 103 33 0) 103 33) (h 115 l1)) 103 33 (((up h 103 33 0) 103 33) + 1)) 103 33) 80 ∧ rj (((up (up (up (up h 103 33 0) 125 ((up h 103 33 0) 103 33) (h 114 l1)) 126 ((up h 103 33 0) 103 33) (h 115 l1)) 103 33 (((up h 103 33 0) 103 33) + 1)) 103 33) + 1)) ∧
        E 2 mX11_isMade 85 [(0, vr 103), (1, vi l1), (2, vi l2), (3, vi (h 114 l1)), (4, vi (h 115 l1))] [] (up (up (up (up (up (up (up h 103 33 0) 125 ((up h 103 33 0) 103 33) (h 114 l1)) 126 ((up h 103 33 0) 103 33) (h 115 l1)) 103 33 (((up h 103 33 0) 103 33) + 1)) 125 ((up (up (up (up h 103 33 0) 125 ((up h 103 33 0) 103 33) (h 114 l1)) 126 ((up h 103 33 0) 103 33) (h 115 l1)) 103 33 (((up h 103 33 0) 103 33) + 1)) 103 33) ((l2 - 1) - (h 115 l1))) 126 ((up (up (up (up h 103 33 0) 125 ((up h 103 33 0) 103 33) (h 114 l1)) 126 ((up h 103 33 0) 103 33) (h 115 l1)) 103 33 (((up h 103 33 0) 103 33) + 1)) 103 33) ((l2 - 1) - (h 114 l1))) 103 33 (((up (up (up (up h 103 33 0) 125 ((up h 103 33 0) 103 33) (h 114 l1)) 126 ((up h 103 33 0) 103 33) (h 115 l1)) 103 33 (((up h 103 33 0) 103 33) + 1)) 103 33) + 1)) (qi Q))) ∧
      (((h 115 l1) ≥ l2) →
       Q 0 (up h 103 33 0)))) ∧
    (((h 113 l1) ≠ 1) →
     (ix l1 3) ∧
     (((h 113 l1) ≠ 2) →
      E 2 mX11_isMade 85 [(0, vr 103), (1, vi l1), (2, vi l2), (3, vi (h 114 l1)), (4, vi (h 115 l1))] [] (up h 103 33 0) (qi Q)) ∧
     (((h 113 l1) = 2) →
      (((h 114 l1) ≥ l2) →
       Q 0 (up h 103 33 0)) ∧
      (((h 114 l1) < l2) →
       (((h 115 l1) < l2) →
        (ix ((up h 103 33 0) 103 33) 80 ∧ rj (((up h 103 33 0) 103 33) + 1) ∧ ix l1 3) ∧
        (((h 113 l1) ≠ 2) →
         E 2 mX11_isMade 85 [(0, vr 103), (1, vi l1), (2, vi l2), (3, vi (h 114 l1)), (4, vi (h 115 l1))] [] (up (up (up (up h 103 33 0) 125 ((up h 103 33 0) 103 33) (h 114 l1)) 126 ((up h 103 33 0) 103 33) (h 115 l1)) 103 33 (((up h 103 33 0) 103 33) + 1)) (qi Q)) ∧
        (((h 113 l1) = 2) →
         (rj (l2 - 1) ∧ rj ((l2 - 1) - (h 115 l1)) ∧ rj ((l2 - 1) - (h 114 l1)) ∧ ix ((up (up (up (up h 103 33 0) 125 ((up h 103 33 0) 103 33) (h 114 l1)) 126 ((up h 103 33 0) 103 33) (h 115 l1)) 103 33 (((up h 103 33 0) 103 33) + 1)) 103 33) 80 ∧ rj (((up (up (up (up h 103 33 0) 125 ((up h 103 33 0) 103 33) (h 114 l1)) 126 ((up h 103 33 0) 103 33) (h 115 l1)) 103 33 (((up h 103 33 0) 103 33) + 1)) 103 33) + 1)) ∧
         E 2 mX11_isMade 85 [(0, vr 103), (1, vi l1), (2, vi l2), (3, vi (h 114 l1)), (4, vi (h 115 l1))] [] (up (up (up (up (up (up (up h 103 33 0) 125 ((up h 103 33 0) 103 33) (h 114 l1)) 126 ((up h 103 33 0) 103 33) (h 115 l1)) 103 33 (((up h 103 33 0) 103 33) + 1)) 125 ((up (up (up (up h 103 33 0) 125 ((up h 103 33 0) 103 33) (h 114 l1)) 126 ((up h 103 33 0) 103 33) (h 115 l1)) 103 33 (((up h 103 33 0) 103 33) + 1)) 103 33) ((l2 - 1) - (h 115 l1))) 126 ((up (up (up (up h 103 33 0) 125 ((up h 103 33 0) 103 33) (h 114 l1)) 126 ((up h 103 33 0) 103 33) (h 115 l1)) 103 33 (((up h 103 33 0) 103 33) + 1)) 103 33) ((l2 - 1) - (h 114 l1))) 103 33 (((up (up (up (up h 103 33 0) 125 ((up h 103 33 0) 103 33) (h 114 l1)) 126 ((up h 103 33 0) 103 33) (h 115 l1)) 103 33 (((up h 103 33 0) 103 33) + 1)) 103 33) + 1)) (qi Q))) ∧
       (((h 115 l1) ≥ l2) →
        Q 0 (up h 103 33 0)))))) :
    CI 2 mX11_isMade [vr 103, vi l1, vi l2] h Q := by
  refine CI_of_E fX11_isMade.1 rfl (Nat.le_of_ble_eq_true rfl) ?_
  show E 2 mX11_isMade 0 [(0, vr 103), (1, vi l1), (2, vi l2)] [] h (qi Q)
  obtain ⟨v1_0, hP⟩ := hP
  refine E_aload_n 0 0 dX11_isMade_0 rfl rfl ?_
  refine E_iconst dX11_isMade_1 (rg_of rfl) ?_
  refine E_pI 33 33 dX11_isMade_2 PX11_233 ic_103 rfl ?_
  refine E_aload_n 0 0 dX11_isMade_5 rfl rfl ?_
  refine E_gR 114 13 dX11_isMade_6 FX11_40 ic_103 (by decide) ?_
  refine E_iload_n 1 1 dX11_isMade_9 rfl rfl ?_
  refine E_iaload dX11_isMade_10 ic_114 v1_0.1 v1_0.2 ?_
  refine E_top (y := (h 114 l1)) (by simp [up]) ?_
  refine E_istore_n dX11_isMade_11 rfl (by decide) rfl ?_
  refine E_aload_n 1 0 dX11_isMade_12 rfl rfl ?_
  refine E_gR 115 14 dX11_isMade_13 FX11_43 ic_103 (by decide) ?_
  refine E_iload_n 2 1 dX11_isMade_16 rfl rfl ?_
  refine E_iaload dX11_isMade_17 ic_115 v1_0.1 v1_0.2 ?_
  refine E_top (y := (h 115 l1)) (by simp [up]) ?_
  refine E_istore dX11_isMade_18 (by decide) rfl ?_
  refine E_aload_n 2 0 dX11_isMade_20 rfl rfl ?_
  refine E_gR 113 12 dX11_isMade_21 FX11_37 ic_103 (by decide) ?_
  refine E_iload_n 3 1 dX11_isMade_24 rfl rfl ?_
  refine E_iaload dX11_isMade_25 ic_113 v1_0.1 v1_0.2 ?_
  refine E_top (y := (h 113 l1)) (by simp [up]) ?_
  refine E_iconst dX11_isMade_26 (rg_of rfl) ?_
  refine E_icmp_eq 40 dX11_isMade_27 rfl (fun hc => ?_) (fun hc => ?_)
  · replace hP := hP.1 (hc)
    refine E_iload_n 1 3 dX11_isMade_40 rfl rfl ?_
    refine E_iload_n 4 2 dX11_isMade_41 rfl rfl ?_
    refine E_icmp_ge 51 dX11_isMade_42 rfl (fun hc => ?_) (fun hc => ?_)
    · replace hP := hP.1 (hc)
      refine E_iconst dX11_isMade_51 (rg_of rfl) ?_
      exact E_retZ dX11_isMade_52 rfl (Or.inl rfl) hP
    · replace hP := hP.2 (by omega)
      refine E_iload 0 dX11_isMade_45 rfl ?_
      refine E_iload_n 4 2 dX11_isMade_47 rfl rfl ?_
      refine E_icmp_lt 53 dX11_isMade_48 rfl (fun hc => ?_) (fun hc => ?_)
      · replace hP := hP.1 (hc)
        obtain ⟨⟨v5_0, v5_1, v5_2⟩, hP⟩ := hP
        refine E_aload_n 2 0 dX11_isMade_53 rfl rfl ?_
        refine E_iload_n 1 3 dX11_isMade_54 rfl rfl ?_
        refine E_iload 0 dX11_isMade_55 rfl ?_
        refine E_invVV [vi (h 114 l1), vi (h 115 l1)] dX11_isMade_57 fX11_makes_ lX11_236 ic_103 rfl (by decide) rfl rfl (Nat.le_of_ble_eq_true rfl) (sX11_makes_ (h := (up h 103 33 0)) (l1 := (h 114 l1)) (l2 := (h 115 l1)) ⟨⟨v5_0, v5_1⟩, ?_⟩)
        refine E_aload_n 2 0 dX11_isMade_60 rfl rfl ?_
        refine E_gR 113 12 dX11_isMade_61 FX11_37 ic_103 (by decide) ?_
        refine E_iload_n 3 1 dX11_isMade_64 rfl rfl ?_
        refine E_iaload dX11_isMade_65 ic_113 v5_2.1 v5_2.2 ?_
        refine E_top (y := (h 113 l1)) (by simp [up]) ?_
        refine E_iconst dX11_isMade_66 (rg_of rfl) ?_
        refine E_icmp_ne 85 dX11_isMade_67 rfl (fun hc => ?_) (fun hc => ?_)
        · replace hP := hP.1 (hc)
          exact E_sub [2, 3, 4, 1, 0] rfl hP
        · replace hP := hP.2 (by omega)
          obtain ⟨⟨v7_0, v7_1, v7_2, v7_3, v7_4⟩, hP⟩ := hP
          refine E_aload_n 2 0 dX11_isMade_70 rfl rfl ?_
          refine E_iload_n 4 2 dX11_isMade_71 rfl rfl ?_
          refine E_iconst dX11_isMade_72 (rg_of rfl) ?_
          refine E_isub dX11_isMade_73 (rgI v7_0) ?_
          refine E_iload 0 dX11_isMade_74 rfl ?_
          refine E_isub dX11_isMade_76 (rgI v7_1) ?_
          refine E_iload_n 4 2 dX11_isMade_77 rfl rfl ?_
          refine E_iconst dX11_isMade_78 (rg_of rfl) ?_
          refine E_isub dX11_isMade_79 (rgI v7_0) ?_
          refine E_iload_n 1 3 dX11_isMade_80 rfl rfl ?_
          refine E_isub dX11_isMade_81 (rgI v7_2) ?_
          refine E_invVV [vi ((l2 - 1) - (h 115 l1)), vi ((l2 - 1) - (h 114 l1))] dX11_isMade_82 fX11_makes_ lX11_236 ic_103 rfl (by decide) rfl rfl (Nat.le_of_ble_eq_true rfl) (sX11_makes_ (h := (up (up (up (up h 103 33 0) 125 ((up h 103 33 0) 103 33) (h 114 l1)) 126 ((up h 103 33 0) 103 33) (h 115 l1)) 103 33 (((up h 103 33 0) 103 33) + 1))) (l1 := ((l2 - 1) - (h 115 l1))) (l2 := ((l2 - 1) - (h 114 l1))) ⟨⟨v7_3, v7_4⟩, ?_⟩)
          exact E_sub [2, 3, 4, 1, 0] rfl hP
      · replace hP := hP.2 (by omega)
        refine E_iconst dX11_isMade_51 (rg_of rfl) ?_
        exact E_retZ dX11_isMade_52 rfl (Or.inl rfl) hP
  · replace hP := hP.2 (by omega)
    obtain ⟨v9_0, hP⟩ := hP
    refine E_aload_n 2 0 dX11_isMade_30 rfl rfl ?_
    refine E_gR 113 12 dX11_isMade_31 FX11_37 ic_103 (by decide) ?_
    refine E_iload_n 3 1 dX11_isMade_34 rfl rfl ?_
    refine E_iaload dX11_isMade_35 ic_113 v9_0.1 v9_0.2 ?_
    refine E_top (y := (h 113 l1)) (by simp [up]) ?_
    refine E_iconst dX11_isMade_36 (rg_of rfl) ?_
    refine E_icmp_ne 85 dX11_isMade_37 rfl (fun hc => ?_) (fun hc => ?_)
    · replace hP := hP.1 (hc)
      exact E_sub [2, 3, 4, 1, 0] rfl hP
    · replace hP := hP.2 (by omega)
      refine E_iload_n 1 3 dX11_isMade_40 rfl rfl ?_
      refine E_iload_n 4 2 dX11_isMade_41 rfl rfl ?_
      refine E_icmp_ge 51 dX11_isMade_42 rfl (fun hc => ?_) (fun hc => ?_)
      · replace hP := hP.1 (hc)
        refine E_iconst dX11_isMade_51 (rg_of rfl) ?_
        exact E_retZ dX11_isMade_52 rfl (Or.inl rfl) hP
      · replace hP := hP.2 (by omega)
        refine E_iload 0 dX11_isMade_45 rfl ?_
        refine E_iload_n 4 2 dX11_isMade_47 rfl rfl ?_
        refine E_icmp_lt 53 dX11_isMade_48 rfl (fun hc => ?_) (fun hc => ?_)
        · replace hP := hP.1 (hc)
          obtain ⟨⟨v14_0, v14_1, v14_2⟩, hP⟩ := hP
          refine E_aload_n 2 0 dX11_isMade_53 rfl rfl ?_
          refine E_iload_n 1 3 dX11_isMade_54 rfl rfl ?_
          refine E_iload 0 dX11_isMade_55 rfl ?_
          refine E_invVV [vi (h 114 l1), vi (h 115 l1)] dX11_isMade_57 fX11_makes_ lX11_236 ic_103 rfl (by decide) rfl rfl (Nat.le_of_ble_eq_true rfl) (sX11_makes_ (h := (up h 103 33 0)) (l1 := (h 114 l1)) (l2 := (h 115 l1)) ⟨⟨v14_0, v14_1⟩, ?_⟩)
          refine E_aload_n 2 0 dX11_isMade_60 rfl rfl ?_
          refine E_gR 113 12 dX11_isMade_61 FX11_37 ic_103 (by decide) ?_
          refine E_iload_n 3 1 dX11_isMade_64 rfl rfl ?_
          refine E_iaload dX11_isMade_65 ic_113 v14_2.1 v14_2.2 ?_
          refine E_top (y := (h 113 l1)) (by simp [up]) ?_
          refine E_iconst dX11_isMade_66 (rg_of rfl) ?_
          refine E_icmp_ne 85 dX11_isMade_67 rfl (fun hc => ?_) (fun hc => ?_)
          · replace hP := hP.1 (hc)
            exact E_sub [2, 3, 4, 1, 0] rfl hP
          · replace hP := hP.2 (by omega)
            obtain ⟨⟨v16_0, v16_1, v16_2, v16_3, v16_4⟩, hP⟩ := hP
            refine E_aload_n 2 0 dX11_isMade_70 rfl rfl ?_
            refine E_iload_n 4 2 dX11_isMade_71 rfl rfl ?_
            refine E_iconst dX11_isMade_72 (rg_of rfl) ?_
            refine E_isub dX11_isMade_73 (rgI v16_0) ?_
            refine E_iload 0 dX11_isMade_74 rfl ?_
            refine E_isub dX11_isMade_76 (rgI v16_1) ?_
            refine E_iload_n 4 2 dX11_isMade_77 rfl rfl ?_
            refine E_iconst dX11_isMade_78 (rg_of rfl) ?_
            refine E_isub dX11_isMade_79 (rgI v16_0) ?_
            refine E_iload_n 1 3 dX11_isMade_80 rfl rfl ?_
            refine E_isub dX11_isMade_81 (rgI v16_2) ?_
            refine E_invVV [vi ((l2 - 1) - (h 115 l1)), vi ((l2 - 1) - (h 114 l1))] dX11_isMade_82 fX11_makes_ lX11_236 ic_103 rfl (by decide) rfl rfl (Nat.le_of_ble_eq_true rfl) (sX11_makes_ (h := (up (up (up (up h 103 33 0) 125 ((up h 103 33 0) 103 33) (h 114 l1)) 126 ((up h 103 33 0) 103 33) (h 115 l1)) 103 33 (((up h 103 33 0) 103 33) + 1))) (l1 := ((l2 - 1) - (h 115 l1))) (l2 := ((l2 - 1) - (h 114 l1))) ⟨⟨v16_3, v16_4⟩, ?_⟩)
            exact E_sub [2, 3, 4, 1, 0] rfl hP
        · replace hP := hP.2 (by omega)
          refine E_iconst dX11_isMade_51 (rg_of rfl) ?_
          exact E_retZ dX11_isMade_52 rfl (Or.inl rfl) hP
theorem dX11_blockSize_0 : decode prog_13_method_83_code 0 = .ok (.iload_n 1, 1) := by decide +kernel
theorem dX11_blockSize_1 : decode prog_13_method_83_code 1 = .ok (.invokestatic 227, 3) := by decide +kernel
theorem dX11_blockSize_4 : decode prog_13_method_83_code 4 = .ok (.ifCond .ne 5, 3) := by decide +kernel
theorem dX11_blockSize_7 : decode prog_13_method_83_code 7 = .ok (.iconst (-1), 1) := by decide +kernel
theorem dX11_blockSize_8 : decode prog_13_method_83_code 8 = .ok (.ireturn, 1) := by decide +kernel
theorem dX11_blockSize_9 : decode prog_13_method_83_code 9 = .ok (.iload_n 2, 1) := by decide +kernel
theorem dX11_blockSize_10 : decode prog_13_method_83_code 10 = .ok (.iconst 2, 1) := by decide +kernel
theorem dX11_blockSize_11 : decode prog_13_method_83_code 11 = .ok (.bipush 8, 2) := by decide +kernel
theorem dX11_blockSize_13 : decode prog_13_method_83_code 13 = .ok (.invokestatic 80, 3) := by decide +kernel
theorem dX11_blockSize_16 : decode prog_13_method_83_code 16 = .ok (.ifCond .ne 6, 3) := by decide +kernel
theorem dX11_blockSize_19 : decode prog_13_method_83_code 19 = .ok (.bipush (-2), 2) := by decide +kernel
theorem dX11_blockSize_21 : decode prog_13_method_83_code 21 = .ok (.ireturn, 1) := by decide +kernel
theorem dX11_blockSize_22 : decode prog_13_method_83_code 22 = .ok (.aload_n 0, 1) := by decide +kernel
theorem dX11_blockSize_23 : decode prog_13_method_83_code 23 = .ok (.getfield 37, 3) := by decide +kernel
theorem dX11_blockSize_26 : decode prog_13_method_83_code 26 = .ok (.iload_n 1, 1) := by decide +kernel
theorem dX11_blockSize_27 : decode prog_13_method_83_code 27 = .ok (.iaload, 1) := by decide +kernel
theorem dX11_blockSize_28 : decode prog_13_method_83_code 28 = .ok (.ifCond .ge 6, 3) := by decide +kernel
theorem dX11_blockSize_31 : decode prog_13_method_83_code 31 = .ok (.bipush (-7), 2) := by decide +kernel
theorem dX11_blockSize_33 : decode prog_13_method_83_code 33 = .ok (.ireturn, 1) := by decide +kernel
theorem dX11_blockSize_34 : decode prog_13_method_83_code 34 = .ok (.aload_n 0, 1) := by decide +kernel
theorem dX11_blockSize_35 : decode prog_13_method_83_code 35 = .ok (.iload_n 1, 1) := by decide +kernel
theorem dX11_blockSize_36 : decode prog_13_method_83_code 36 = .ok (.iload_n 2, 1) := by decide +kernel
theorem dX11_blockSize_37 : decode prog_13_method_83_code 37 = .ok (.invokevirtual 241, 3) := by decide +kernel
theorem dX11_blockSize_40 : decode prog_13_method_83_code 40 = .ok (.ifCond .eq 10, 3) := by decide +kernel
theorem dX11_blockSize_43 : decode prog_13_method_83_code 43 = .ok (.aload_n 0, 1) := by decide +kernel
theorem dX11_blockSize_44 : decode prog_13_method_83_code 44 = .ok (.getfield 233, 3) := by decide +kernel
theorem dX11_blockSize_47 : decode prog_13_method_83_code 47 = .ok (.goto 5, 3) := by decide +kernel
theorem dX11_blockSize_50 : decode prog_13_method_83_code 50 = .ok (.bipush (-5), 2) := by decide +kernel
theorem dX11_blockSize_52 : decode prog_13_method_83_code 52 = .ok (.ireturn, 1) := by decide +kernel
theorem sX11_blockSize {Q : Int → Hp → Prop} {h : Hp} {l1 l2 : Int}
    (hP : ((l1 ≥ 0 ∧ l1 ≤ 2) →
     ((l2 ≥ 2 ∧ l2 ≤ 8) →
      (ix l1 3) ∧
      (((h 113 l1) ≥ 0) →
       CI 2 mX11_isMade [vr 103, vi l1, vi l2] h (fun r6 h5 =>
        Q (if r6 = 0 then (-5) else (h5 103 33)) h5)) ∧
      (((h 113 l1) < 0) →
       Q (-7) h)) ∧
     ((l2 < 2 ∨ l2 > 8) →
      Q (-2) h)) ∧
    ((l1 < 0 ∨ l1 > 2) →
     Q (-1) h)) :
    CI 3 mX11_blockSize [vr 103, vi l1, vi l2] h Q := by
  refine CI_of_E fX11_blockSize.1 rfl (Nat.le_of_ble_eq_true rfl) ?_
  show E 3 mX11_blockSize 0 [(0, vr 103), (1, vi l1), (2, vi l2)] [] h (qi Q)
  refine E_iload_n 1 1 dX11_blockSize_0 rfl rfl ?_
  refine E_invSI [vi l1] dX11_blockSize_1 fX11_isShelf lX11_227 (by decide) rfl rfl (Nat.le_of_ble_eq_true rfl) (sX11_isShelf (h := h) (l0 := l1) ?_)
  refine E_if_ne 9 dX11_blockSize_4 rfl (fun hc => ?_) (fun hc => ?_)
  · replace hP := hP.1 (by have := ite1' hc; omega)
    refine E_iload_n 2 2 dX11_blockSize_9 rfl rfl ?_
    refine E_iconst dX11_blockSize_10 (rg_of rfl) ?_
    refine E_bipush dX11_blockSize_11 (by decide) ?_
    refine E_invSI [vi l2, vi 2, vi 8] dX11_blockSize_13 fX11_isIn lX11_80 (by decide) rfl rfl (Nat.le_of_ble_eq_true rfl) (sX11_isIn (h := h) (l0 := l2) (l1 := 2) (l2 := 8) ?_)
    refine E_if_ne 22 dX11_blockSize_16 rfl (fun hc => ?_) (fun hc => ?_)
    · replace hP := hP.1 (by have := ite1' hc; omega)
      obtain ⟨v3_0, hP⟩ := hP
      refine E_aload_n 0 0 dX11_blockSize_22 rfl rfl ?_
      refine E_gR 113 12 dX11_blockSize_23 FX11_37 ic_103 (by decide) ?_
      refine E_iload_n 1 1 dX11_blockSize_26 rfl rfl ?_
      refine E_iaload dX11_blockSize_27 ic_113 v3_0.1 v3_0.2 ?_
      refine E_if_ge 34 dX11_blockSize_28 rfl (fun hc => ?_) (fun hc => ?_)
      · replace hP := hP.1 (hc)
        refine E_aload_n 0 0 dX11_blockSize_34 rfl rfl ?_
        refine E_iload_n 1 1 dX11_blockSize_35 rfl rfl ?_
        refine E_iload_n 2 2 dX11_blockSize_36 rfl rfl ?_
        refine E_invVI [vi l1, vi l2] dX11_blockSize_37 fX11_isMade lX11_241 ic_103 rfl (by decide) rfl rfl (Nat.le_of_ble_eq_true rfl) (CI_mono hP (fun r6 h5 hP => ?_))
        have hJ : E 3 mX11_blockSize 52 [(0, vr 103), (1, vi l1), (2, vi l2)] [vi (if r6 = 0 then (-5) else (h5 103 33))] h5 (qi Q) := by
          exact E_retI dX11_blockSize_52 rfl hP
        refine E_if_eq 50 dX11_blockSize_40 rfl (fun hc => ?_) (fun hc => ?_)
        · have hp40 := (hc : r6 = 0)
          refine E_bipush dX11_blockSize_50 (by decide) ?_
          exact E_top (by first | exact (if_pos (by omega)).symm | exact (if_neg (by omega)).symm | (repeat first | rw [if_pos (by omega)] | rw [if_neg (by omega)])) hJ
        · have hp40 := (by omega : r6 ≠ 0)
          refine E_aload_n 0 0 dX11_blockSize_43 rfl rfl ?_
          refine E_gI 33 33 dX11_blockSize_44 FX11_233 ic_103 rfl ?_
          refine E_goto 52 dX11_blockSize_47 rfl ?_
          exact E_top (by first | exact (if_pos (by omega)).symm | exact (if_neg (by omega)).symm | (repeat first | rw [if_pos (by omega)] | rw [if_neg (by omega)])) hJ
      · replace hP := hP.2 (by omega)
        refine E_bipush dX11_blockSize_31 (by decide) ?_
        exact E_retI dX11_blockSize_33 rfl hP
    · replace hP := hP.2 (by have := ite0 hc; omega)
      refine E_bipush dX11_blockSize_19 (by decide) ?_
      exact E_retI dX11_blockSize_21 rfl hP
  · replace hP := hP.2 (by have := ite0 hc; omega)
    refine E_iconst dX11_blockSize_7 (rg_of rfl) ?_
    exact E_retI dX11_blockSize_8 rfl hP
theorem dX11_applyBlock_0 : decode prog_13_method_84_code 0 = .ok (.iload_n 1, 1) := by decide +kernel
theorem dX11_applyBlock_1 : decode prog_13_method_84_code 1 = .ok (.invokestatic 227, 3) := by decide +kernel
theorem dX11_applyBlock_4 : decode prog_13_method_84_code 4 = .ok (.ifCond .eq 10, 3) := by decide +kernel
theorem dX11_applyBlock_7 : decode prog_13_method_84_code 7 = .ok (.iload_n 2, 1) := by decide +kernel
theorem dX11_applyBlock_8 : decode prog_13_method_84_code 8 = .ok (.invokestatic 88, 3) := by decide +kernel
theorem dX11_applyBlock_11 : decode prog_13_method_84_code 11 = .ok (.ifCond .ne 5, 3) := by decide +kernel
theorem dX11_applyBlock_14 : decode prog_13_method_84_code 14 = .ok (.iconst (-1), 1) := by decide +kernel
theorem dX11_applyBlock_15 : decode prog_13_method_84_code 15 = .ok (.ireturn, 1) := by decide +kernel
theorem dX11_applyBlock_16 : decode prog_13_method_84_code 16 = .ok (.aload_n 0, 1) := by decide +kernel
theorem dX11_applyBlock_17 : decode prog_13_method_84_code 17 = .ok (.getfield 37, 3) := by decide +kernel
theorem dX11_applyBlock_20 : decode prog_13_method_84_code 20 = .ok (.iload_n 1, 1) := by decide +kernel
theorem dX11_applyBlock_21 : decode prog_13_method_84_code 21 = .ok (.iaload, 1) := by decide +kernel
theorem dX11_applyBlock_22 : decode prog_13_method_84_code 22 = .ok (.ifCond .ge 6, 3) := by decide +kernel
theorem dX11_applyBlock_25 : decode prog_13_method_84_code 25 = .ok (.bipush (-7), 2) := by decide +kernel
theorem dX11_applyBlock_27 : decode prog_13_method_84_code 27 = .ok (.ireturn, 1) := by decide +kernel
theorem dX11_applyBlock_28 : decode prog_13_method_84_code 28 = .ok (.aload_n 0, 1) := by decide +kernel
theorem dX11_applyBlock_29 : decode prog_13_method_84_code 29 = .ok (.iload_n 1, 1) := by decide +kernel
theorem dX11_applyBlock_30 : decode prog_13_method_84_code 30 = .ok (.aload_n 0, 1) := by decide +kernel
theorem dX11_applyBlock_31 : decode prog_13_method_84_code 31 = .ok (.getfield 9, 3) := by decide +kernel
theorem dX11_applyBlock_34 : decode prog_13_method_84_code 34 = .ok (.iload_n 2, 1) := by decide +kernel
theorem dX11_applyBlock_35 : decode prog_13_method_84_code 35 = .ok (.iaload, 1) := by decide +kernel
theorem dX11_applyBlock_36 : decode prog_13_method_84_code 36 = .ok (.invokevirtual 241, 3) := by decide +kernel
theorem dX11_applyBlock_39 : decode prog_13_method_84_code 39 = .ok (.ifCond .ne 6, 3) := by decide +kernel
theorem dX11_applyBlock_42 : decode prog_13_method_84_code 42 = .ok (.bipush (-5), 2) := by decide +kernel
theorem dX11_applyBlock_44 : decode prog_13_method_84_code 44 = .ok (.ireturn, 1) := by decide +kernel
theorem dX11_applyBlock_45 : decode prog_13_method_84_code 45 = .ok (.aload_n 0, 1) := by decide +kernel
theorem dX11_applyBlock_46 : decode prog_13_method_84_code 46 = .ok (.getfield 13, 3) := by decide +kernel
theorem dX11_applyBlock_49 : decode prog_13_method_84_code 49 = .ok (.iload_n 2, 1) := by decide +kernel
theorem dX11_applyBlock_50 : decode prog_13_method_84_code 50 = .ok (.iaload, 1) := by decide +kernel
theorem dX11_applyBlock_51 : decode prog_13_method_84_code 51 = .ok (.aload_n 0, 1) := by decide +kernel
theorem dX11_applyBlock_52 : decode prog_13_method_84_code 52 = .ok (.getfield 233, 3) := by decide +kernel
theorem dX11_applyBlock_55 : decode prog_13_method_84_code 55 = .ok (.iadd, 1) := by decide +kernel
theorem dX11_applyBlock_56 : decode prog_13_method_84_code 56 = .ok (.bipush 40, 2) := by decide +kernel
theorem dX11_applyBlock_58 : decode prog_13_method_84_code 58 = .ok (.if_icmp .le 6, 3) := by decide +kernel
theorem dX11_applyBlock_61 : decode prog_13_method_84_code 61 = .ok (.bipush (-3), 2) := by decide +kernel
theorem dX11_applyBlock_63 : decode prog_13_method_84_code 63 = .ok (.ireturn, 1) := by decide +kernel
theorem dX11_applyBlock_64 : decode prog_13_method_84_code 64 = .ok (.aload_n 0, 1) := by decide +kernel
theorem dX11_applyBlock_65 : decode prog_13_method_84_code 65 = .ok (.invokevirtual 92, 3) := by decide +kernel
theorem dX11_applyBlock_68 : decode prog_13_method_84_code 68 = .ok (.iconst 0, 1) := by decide +kernel
theorem dX11_applyBlock_69 : decode prog_13_method_84_code 69 = .ok (.istore_n 3, 1) := by decide +kernel
theorem dX11_applyBlock_70 : decode prog_13_method_84_code 70 = .ok (.iload_n 3, 1) := by decide +kernel
theorem dX11_applyBlock_71 : decode prog_13_method_84_code 71 = .ok (.aload_n 0, 1) := by decide +kernel
theorem dX11_applyBlock_72 : decode prog_13_method_84_code 72 = .ok (.getfield 233, 3) := by decide +kernel
theorem dX11_applyBlock_75 : decode prog_13_method_84_code 75 = .ok (.if_icmp .ge 26, 3) := by decide +kernel
theorem dX11_applyBlock_78 : decode prog_13_method_84_code 78 = .ok (.aload_n 0, 1) := by decide +kernel
theorem dX11_applyBlock_79 : decode prog_13_method_84_code 79 = .ok (.iload_n 2, 1) := by decide +kernel
theorem dX11_applyBlock_80 : decode prog_13_method_84_code 80 = .ok (.aload_n 0, 1) := by decide +kernel
theorem dX11_applyBlock_81 : decode prog_13_method_84_code 81 = .ok (.getfield 74, 3) := by decide +kernel
theorem dX11_applyBlock_84 : decode prog_13_method_84_code 84 = .ok (.iload_n 3, 1) := by decide +kernel
theorem dX11_applyBlock_85 : decode prog_13_method_84_code 85 = .ok (.iaload, 1) := by decide +kernel
theorem dX11_applyBlock_86 : decode prog_13_method_84_code 86 = .ok (.aload_n 0, 1) := by decide +kernel
theorem dX11_applyBlock_87 : decode prog_13_method_84_code 87 = .ok (.getfield 77, 3) := by decide +kernel
theorem dX11_applyBlock_90 : decode prog_13_method_84_code 90 = .ok (.iload_n 3, 1) := by decide +kernel
theorem dX11_applyBlock_91 : decode prog_13_method_84_code 91 = .ok (.iaload, 1) := by decide +kernel
theorem dX11_applyBlock_92 : decode prog_13_method_84_code 92 = .ok (.invokevirtual 217, 3) := by decide +kernel
theorem dX11_applyBlock_95 : decode prog_13_method_84_code 95 = .ok (.iinc 3 1, 3) := by decide +kernel
theorem dX11_applyBlock_98 : decode prog_13_method_84_code 98 = .ok (.goto (-28), 3) := by decide +kernel
theorem dX11_applyBlock_101 : decode prog_13_method_84_code 101 = .ok (.aload_n 0, 1) := by decide +kernel
theorem dX11_applyBlock_102 : decode prog_13_method_84_code 102 = .ok (.getfield 233, 3) := by decide +kernel
theorem dX11_applyBlock_105 : decode prog_13_method_84_code 105 = .ok (.ireturn, 1) := by decide +kernel
theorem sX11_applyBlock_70 {Q : Int → Hp → Prop} {h : Hp} {l2 l3 : Int}
    (hP : ((l3 ≥ (h 103 33)) →
     Q (h 103 33) h) ∧
    ((l3 < (h 103 33)) →
     (ix l3 80) ∧
     CV 1 mX11_appends [vr 103, vi l2, vi (h 125 l3), vi (h 126 l3)] h (fun h4 =>
      (rj (l3 + 1)) ∧
      E 3 mX11_applyBlock 70 [(0, vr 103), (2, vi l2), (3, vi (l3 + 1))] [] h4 (qi Q)))) :
    E 3 mX11_applyBlock 70 [(0, vr 103), (2, vi l2), (3, vi l3)] [] h (qi Q) := by
  refine E_iload_n 2 3 dX11_applyBlock_70 rfl rfl ?_
  refine E_aload_n 0 0 dX11_applyBlock_71 rfl rfl ?_
  refine E_gI 33 33 dX11_applyBlock_72 FX11_233 ic_103 rfl ?_
  refine E_icmp_ge 101 dX11_applyBlock_75 rfl (fun hc => ?_) (fun hc => ?_)
  · replace hP := hP.1 (hc)
    refine E_aload_n 0 0 dX11_applyBlock_101 rfl rfl ?_
    refine E_gI 33 33 dX11_applyBlock_102 FX11_233 ic_103 rfl ?_
    exact E_retI dX11_applyBlock_105 rfl hP
  · replace hP := hP.2 (by omega)
    obtain ⟨v3_0, hP⟩ := hP
    refine E_aload_n 0 0 dX11_applyBlock_78 rfl rfl ?_
    refine E_iload_n 1 2 dX11_applyBlock_79 rfl rfl ?_
    refine E_aload_n 0 0 dX11_applyBlock_80 rfl rfl ?_
    refine E_gR 125 31 dX11_applyBlock_81 FX11_74 ic_103 (by decide) ?_
    refine E_iload_n 2 3 dX11_applyBlock_84 rfl rfl ?_
    refine E_iaload dX11_applyBlock_85 ic_125 v3_0.1 v3_0.2 ?_
    refine E_aload_n 0 0 dX11_applyBlock_86 rfl rfl ?_
    refine E_gR 126 32 dX11_applyBlock_87 FX11_77 ic_103 (by decide) ?_
    refine E_iload_n 2 3 dX11_applyBlock_90 rfl rfl ?_
    refine E_iaload dX11_applyBlock_91 ic_126 v3_0.1 v3_0.2 ?_
    refine E_invVV [vi l2, vi (h 125 l3), vi (h 126 l3)] dX11_applyBlock_92 fX11_appends lX11_217 ic_103 rfl (by decide) rfl rfl (Nat.le_of_ble_eq_true rfl) (CV_mono hP (fun h4 hP => ?_))
    obtain ⟨v5_0, hP⟩ := hP
    refine E_iinc 2 dX11_applyBlock_95 rfl (rgI v5_0) (by decide) rfl ?_
    refine E_goto 70 dX11_applyBlock_98 rfl ?_
    exact E_sub [1, 2, 0] rfl hP
theorem sX11_applyBlock {Q : Int → Hp → Prop} {h : Hp} {l1 l2 : Int}
    (hP : ((l1 < 0 ∨ l1 > 2) →
     Q (-1) h) ∧
    ((l1 ≥ 0 ∧ l1 ≤ 2) →
     ((l2 ≥ 0 ∧ l2 ≤ 3) →
      (ix l1 3) ∧
      (((h 113 l1) ≥ 0) →
       (ix l2 4) ∧
       CI 2 mX11_isMade [vr 103, vi l1, vi (h 104 l2)] h (fun r7 h6 =>
        ((r7 ≠ 0) →
         (ix l2 4 ∧ rj ((h6 105 l2) + (h6 103 33))) ∧
         ((((h6 105 l2) + (h6 103 33)) ≤ 40) →
          CV 0 mX11_remembers [vr 103] h6 (fun h11 =>
           E 3 mX11_applyBlock 70 [(0, vr 103), (2, vi l2), (3, vi 0)] [] h11 (qi Q))) ∧
         ((((h6 105 l2) + (h6 103 33)) > 40) →
          Q (-3) h6)) ∧
        ((r7 = 0) →
         Q (-5) h6))) ∧
      (((h 113 l1) < 0) →
       Q (-7) h)) ∧
     ((l2 < 0 ∨ l2 > 3) →
      Q (-1) h))) :
    CI 3 mX11_applyBlock [vr 103, vi l1, vi l2] h Q := by
  refine CI_of_E fX11_applyBlock.1 rfl (Nat.le_of_ble_eq_true rfl) ?_
  show E 3 mX11_applyBlock 0 [(0, vr 103), (1, vi l1), (2, vi l2)] [] h (qi Q)
  refine E_iload_n 1 1 dX11_applyBlock_0 rfl rfl ?_
  refine E_invSI [vi l1] dX11_applyBlock_1 fX11_isShelf lX11_227 (by decide) rfl rfl (Nat.le_of_ble_eq_true rfl) (sX11_isShelf (h := h) (l0 := l1) ?_)
  refine E_if_eq 14 dX11_applyBlock_4 rfl (fun hc => ?_) (fun hc => ?_)
  · replace hP := hP.1 (by have := ite0 hc; omega)
    refine E_iconst dX11_applyBlock_14 (rg_of rfl) ?_
    exact E_retI dX11_applyBlock_15 rfl hP
  · replace hP := hP.2 (by have := ite1 hc; omega)
    refine E_iload_n 2 2 dX11_applyBlock_7 rfl rfl ?_
    refine E_invSI [vi l2] dX11_applyBlock_8 fX11_isNet lX11_88 (by decide) rfl rfl (Nat.le_of_ble_eq_true rfl) (sX11_isNet (h := h) (l0 := l2) ?_)
    refine E_if_ne 16 dX11_applyBlock_11 rfl (fun hc => ?_) (fun hc => ?_)
    · replace hP := hP.1 (by have := ite1' hc; omega)
      obtain ⟨v4_0, hP⟩ := hP
      refine E_aload_n 0 0 dX11_applyBlock_16 rfl rfl ?_
      refine E_gR 113 12 dX11_applyBlock_17 FX11_37 ic_103 (by decide) ?_
      refine E_iload_n 1 1 dX11_applyBlock_20 rfl rfl ?_
      refine E_iaload dX11_applyBlock_21 ic_113 v4_0.1 v4_0.2 ?_
      refine E_if_ge 28 dX11_applyBlock_22 rfl (fun hc => ?_) (fun hc => ?_)
      · replace hP := hP.1 (hc)
        obtain ⟨v5_0, hP⟩ := hP
        refine E_aload_n 0 0 dX11_applyBlock_28 rfl rfl ?_
        refine E_iload_n 1 1 dX11_applyBlock_29 rfl rfl ?_
        refine E_aload_n 0 0 dX11_applyBlock_30 rfl rfl ?_
        refine E_gR 104 0 dX11_applyBlock_31 FX11_9 ic_103 (by decide) ?_
        refine E_iload_n 2 2 dX11_applyBlock_34 rfl rfl ?_
        refine E_iaload dX11_applyBlock_35 ic_104 v5_0.1 v5_0.2 ?_
        refine E_invVI [vi l1, vi (h 104 l2)] dX11_applyBlock_36 fX11_isMade lX11_241 ic_103 rfl (by decide) rfl rfl (Nat.le_of_ble_eq_true rfl) (CI_mono hP (fun r7 h6 hP => ?_))
        refine E_if_ne 45 dX11_applyBlock_39 rfl (fun hc => ?_) (fun hc => ?_)
        · replace hP := hP.1 (hc)
          obtain ⟨⟨v9_0, v9_1⟩, hP⟩ := hP
          refine E_aload_n 0 0 dX11_applyBlock_45 rfl rfl ?_
          refine E_gR 105 1 dX11_applyBlock_46 FX11_13 ic_103 (by decide) ?_
          refine E_iload_n 2 2 dX11_applyBlock_49 rfl rfl ?_
          refine E_iaload dX11_applyBlock_50 ic_105 v9_0.1 v9_0.2 ?_
          refine E_aload_n 0 0 dX11_applyBlock_51 rfl rfl ?_
          refine E_gI 33 33 dX11_applyBlock_52 FX11_233 ic_103 rfl ?_
          refine E_iadd dX11_applyBlock_55 (rgI v9_1) ?_
          refine E_bipush dX11_applyBlock_56 (by decide) ?_
          refine E_icmp_le 64 dX11_applyBlock_58 rfl (fun hc => ?_) (fun hc => ?_)
          · replace hP := hP.1 (hc)
            refine E_aload_n 0 0 dX11_applyBlock_64 rfl rfl ?_
            refine E_invVV [] dX11_applyBlock_65 fX11_remembers lX11_92 ic_103 rfl (by decide) rfl rfl (Nat.le_of_ble_eq_true rfl) (CV_mono hP (fun h11 hP => ?_))
            refine E_iconst dX11_applyBlock_68 (rg_of rfl) ?_
            refine E_istore_n dX11_applyBlock_69 rfl (by decide) rfl ?_
            exact E_sub [1, 3, 0] rfl hP
          · replace hP := hP.2 (by omega)
            refine E_bipush dX11_applyBlock_61 (by decide) ?_
            exact E_retI dX11_applyBlock_63 rfl hP
        · replace hP := hP.2 (by omega)
          refine E_bipush dX11_applyBlock_42 (by decide) ?_
          exact E_retI dX11_applyBlock_44 rfl hP
      · replace hP := hP.2 (by omega)
        refine E_bipush dX11_applyBlock_25 (by decide) ?_
        exact E_retI dX11_applyBlock_27 rfl hP
    · replace hP := hP.2 (by have := ite0 hc; omega)
      refine E_iconst dX11_applyBlock_14 (rg_of rfl) ?_
      exact E_retI dX11_applyBlock_15 rfl hP
theorem dJ6_bitCount_0f7a4_0 : decode prog_14_method_49_code 0 = .ok (.iload_n 0, 1) := by decide +kernel
theorem dJ6_bitCount_0f7a4_1 : decode prog_14_method_49_code 1 = .ok (.iload_n 0, 1) := by decide +kernel
theorem dJ6_bitCount_0f7a4_2 : decode prog_14_method_49_code 2 = .ok (.iconst 1, 1) := by decide +kernel
theorem dJ6_bitCount_0f7a4_3 : decode prog_14_method_49_code 3 = .ok (.iushr, 1) := by decide +kernel
theorem dJ6_bitCount_0f7a4_4 : decode prog_14_method_49_code 4 = .ok (.ldc_w 265, 3) := by decide +kernel
theorem dJ6_bitCount_0f7a4_7 : decode prog_14_method_49_code 7 = .ok (.iand, 1) := by decide +kernel
theorem dJ6_bitCount_0f7a4_8 : decode prog_14_method_49_code 8 = .ok (.isub, 1) := by decide +kernel
theorem dJ6_bitCount_0f7a4_9 : decode prog_14_method_49_code 9 = .ok (.istore_n 0, 1) := by decide +kernel
theorem dJ6_bitCount_0f7a4_10 : decode prog_14_method_49_code 10 = .ok (.iload_n 0, 1) := by decide +kernel
theorem dJ6_bitCount_0f7a4_11 : decode prog_14_method_49_code 11 = .ok (.ldc_w 266, 3) := by decide +kernel
theorem dJ6_bitCount_0f7a4_14 : decode prog_14_method_49_code 14 = .ok (.iand, 1) := by decide +kernel
theorem dJ6_bitCount_0f7a4_15 : decode prog_14_method_49_code 15 = .ok (.iload_n 0, 1) := by decide +kernel
theorem dJ6_bitCount_0f7a4_16 : decode prog_14_method_49_code 16 = .ok (.iconst 2, 1) := by decide +kernel
theorem dJ6_bitCount_0f7a4_17 : decode prog_14_method_49_code 17 = .ok (.iushr, 1) := by decide +kernel
theorem dJ6_bitCount_0f7a4_18 : decode prog_14_method_49_code 18 = .ok (.ldc_w 266, 3) := by decide +kernel
theorem dJ6_bitCount_0f7a4_21 : decode prog_14_method_49_code 21 = .ok (.iand, 1) := by decide +kernel
theorem dJ6_bitCount_0f7a4_22 : decode prog_14_method_49_code 22 = .ok (.iadd, 1) := by decide +kernel
theorem dJ6_bitCount_0f7a4_23 : decode prog_14_method_49_code 23 = .ok (.istore_n 0, 1) := by decide +kernel
theorem dJ6_bitCount_0f7a4_24 : decode prog_14_method_49_code 24 = .ok (.iload_n 0, 1) := by decide +kernel
theorem dJ6_bitCount_0f7a4_25 : decode prog_14_method_49_code 25 = .ok (.iload_n 0, 1) := by decide +kernel
theorem dJ6_bitCount_0f7a4_26 : decode prog_14_method_49_code 26 = .ok (.iconst 4, 1) := by decide +kernel
theorem dJ6_bitCount_0f7a4_27 : decode prog_14_method_49_code 27 = .ok (.iushr, 1) := by decide +kernel
theorem dJ6_bitCount_0f7a4_28 : decode prog_14_method_49_code 28 = .ok (.iadd, 1) := by decide +kernel
theorem dJ6_bitCount_0f7a4_29 : decode prog_14_method_49_code 29 = .ok (.ldc_w 267, 3) := by decide +kernel
theorem dJ6_bitCount_0f7a4_32 : decode prog_14_method_49_code 32 = .ok (.iand, 1) := by decide +kernel
theorem dJ6_bitCount_0f7a4_33 : decode prog_14_method_49_code 33 = .ok (.istore_n 0, 1) := by decide +kernel
theorem dJ6_bitCount_0f7a4_34 : decode prog_14_method_49_code 34 = .ok (.iload_n 0, 1) := by decide +kernel
theorem dJ6_bitCount_0f7a4_35 : decode prog_14_method_49_code 35 = .ok (.iload_n 0, 1) := by decide +kernel
theorem dJ6_bitCount_0f7a4_36 : decode prog_14_method_49_code 36 = .ok (.bipush 8, 2) := by decide +kernel
theorem dJ6_bitCount_0f7a4_38 : decode prog_14_method_49_code 38 = .ok (.iushr, 1) := by decide +kernel
theorem dJ6_bitCount_0f7a4_39 : decode prog_14_method_49_code 39 = .ok (.iadd, 1) := by decide +kernel
theorem dJ6_bitCount_0f7a4_40 : decode prog_14_method_49_code 40 = .ok (.istore_n 0, 1) := by decide +kernel
theorem dJ6_bitCount_0f7a4_41 : decode prog_14_method_49_code 41 = .ok (.iload_n 0, 1) := by decide +kernel
theorem dJ6_bitCount_0f7a4_42 : decode prog_14_method_49_code 42 = .ok (.iload_n 0, 1) := by decide +kernel
theorem dJ6_bitCount_0f7a4_43 : decode prog_14_method_49_code 43 = .ok (.bipush 16, 2) := by decide +kernel
theorem dJ6_bitCount_0f7a4_45 : decode prog_14_method_49_code 45 = .ok (.iushr, 1) := by decide +kernel
theorem dJ6_bitCount_0f7a4_46 : decode prog_14_method_49_code 46 = .ok (.iadd, 1) := by decide +kernel
theorem dJ6_bitCount_0f7a4_47 : decode prog_14_method_49_code 47 = .ok (.istore_n 0, 1) := by decide +kernel
theorem dJ6_bitCount_0f7a4_48 : decode prog_14_method_49_code 48 = .ok (.iload_n 0, 1) := by decide +kernel
theorem dJ6_bitCount_0f7a4_49 : decode prog_14_method_49_code 49 = .ok (.bipush 63, 2) := by decide +kernel
theorem dJ6_bitCount_0f7a4_51 : decode prog_14_method_49_code 51 = .ok (.iand, 1) := by decide +kernel
theorem dJ6_bitCount_0f7a4_52 : decode prog_14_method_49_code 52 = .ok (.ireturn, 1) := by decide +kernel
theorem sJ6_bitCount_0f7a4 {Q : Int → Hp → Prop} {h : Hp} {l0 : Int}
    (hP : (rj (l0 - (j_iand (j_iushr l0 1) 1431655765))) ∧
    (∀ x2 : Int, x2 = (l0 - (j_iand (j_iushr l0 1) 1431655765)) →
    (rj ((j_iand x2 858993459) + (j_iand (j_iushr x2 2) 858993459))) ∧
    (∀ x4 : Int, x4 = ((j_iand x2 858993459) + (j_iand (j_iushr x2 2) 858993459)) →
    (rj (x4 + (j_iushr x4 4))) ∧
    (∀ x6 : Int, x6 = (j_iand (x4 + (j_iushr x4 4)) 252645135) →
    (rj (x6 + (j_iushr x6 8)) ∧ rj ((x6 + (j_iushr x6 8)) + (j_iushr (x6 + (j_iushr x6 8)) 16))) ∧
    (∀ x8 : Int, x8 = ((x6 + (j_iushr x6 8)) + (j_iushr (x6 + (j_iushr x6 8)) 16)) →
    Q (j_iand x8 63) h))))) :
    CI 0 mJ6_bitCount_0f7a4 [vi l0] h Q := by
  refine CI_of_E fJ6_bitCount_0f7a4.1 rfl (Nat.le_of_ble_eq_true rfl) ?_
  show E 0 mJ6_bitCount_0f7a4 0 [(0, vi l0)] [] h (qi Q)
  obtain ⟨v1_0, hP⟩ := hP
  refine E_iload_n 0 0 dJ6_bitCount_0f7a4_0 rfl rfl ?_
  refine E_iload_n 0 0 dJ6_bitCount_0f7a4_1 rfl rfl ?_
  refine E_iconst dJ6_bitCount_0f7a4_2 (rg_of rfl) ?_
  refine E_iushr dJ6_bitCount_0f7a4_3 ?_
  refine E_ldcw (z := 1431655765) dJ6_bitCount_0f7a4_4 kJ6_265 (by decide) ?_
  refine E_iand dJ6_bitCount_0f7a4_7 ?_
  refine E_isub dJ6_bitCount_0f7a4_8 (rgI v1_0) ?_
  obtain ⟨x2, hx2⟩ : ∃ x : Int, x = (l0 - (j_iand (j_iushr l0 1) 1431655765)) := ⟨_, rfl⟩
  refine E_top hx2.symm ?_
  replace hP := hP x2 hx2
  refine E_istore_n dJ6_bitCount_0f7a4_9 rfl (by decide) rfl ?_
  obtain ⟨v3_0, hP⟩ := hP
  refine E_iload_n 0 0 dJ6_bitCount_0f7a4_10 rfl rfl ?_
  refine E_ldcw (z := 858993459) dJ6_bitCount_0f7a4_11 kJ6_266 (by decide) ?_
  refine E_iand dJ6_bitCount_0f7a4_14 ?_
  refine E_iload_n 0 0 dJ6_bitCount_0f7a4_15 rfl rfl ?_
  refine E_iconst dJ6_bitCount_0f7a4_16 (rg_of rfl) ?_
  refine E_iushr dJ6_bitCount_0f7a4_17 ?_
  refine E_ldcw (z := 858993459) dJ6_bitCount_0f7a4_18 kJ6_266 (by decide) ?_
  refine E_iand dJ6_bitCount_0f7a4_21 ?_
  refine E_iadd dJ6_bitCount_0f7a4_22 (rgI v3_0) ?_
  obtain ⟨x4, hx4⟩ : ∃ x : Int, x = ((j_iand x2 858993459) + (j_iand (j_iushr x2 2) 858993459)) := ⟨_, rfl⟩
  refine E_top hx4.symm ?_
  replace hP := hP x4 hx4
  refine E_istore_n dJ6_bitCount_0f7a4_23 rfl (by decide) rfl ?_
  obtain ⟨v5_0, hP⟩ := hP
  refine E_iload_n 0 0 dJ6_bitCount_0f7a4_24 rfl rfl ?_
  refine E_iload_n 0 0 dJ6_bitCount_0f7a4_25 rfl rfl ?_
  refine E_iconst dJ6_bitCount_0f7a4_26 (rg_of rfl) ?_
  refine E_iushr dJ6_bitCount_0f7a4_27 ?_
  refine E_iadd dJ6_bitCount_0f7a4_28 (rgI v5_0) ?_
  refine E_ldcw (z := 252645135) dJ6_bitCount_0f7a4_29 kJ6_267 (by decide) ?_
  refine E_iand dJ6_bitCount_0f7a4_32 ?_
  obtain ⟨x6, hx6⟩ : ∃ x : Int, x = (j_iand (x4 + (j_iushr x4 4)) 252645135) := ⟨_, rfl⟩
  refine E_top hx6.symm ?_
  replace hP := hP x6 hx6
  refine E_istore_n dJ6_bitCount_0f7a4_33 rfl (by decide) rfl ?_
  obtain ⟨⟨v7_0, v7_1⟩, hP⟩ := hP
  refine E_iload_n 0 0 dJ6_bitCount_0f7a4_34 rfl rfl ?_
  refine E_iload_n 0 0 dJ6_bitCount_0f7a4_35 rfl rfl ?_
  refine E_bipush dJ6_bitCount_0f7a4_36 (by decide) ?_
  refine E_iushr dJ6_bitCount_0f7a4_38 ?_
  refine E_iadd dJ6_bitCount_0f7a4_39 (rgI v7_0) ?_
  refine E_istore_n dJ6_bitCount_0f7a4_40 rfl (by decide) rfl ?_
  refine E_iload_n 0 0 dJ6_bitCount_0f7a4_41 rfl rfl ?_
  refine E_iload_n 0 0 dJ6_bitCount_0f7a4_42 rfl rfl ?_
  refine E_bipush dJ6_bitCount_0f7a4_43 (by decide) ?_
  refine E_iushr dJ6_bitCount_0f7a4_45 ?_
  refine E_iadd dJ6_bitCount_0f7a4_46 (rgI v7_1) ?_
  obtain ⟨x8, hx8⟩ : ∃ x : Int, x = ((x6 + (j_iushr x6 8)) + (j_iushr (x6 + (j_iushr x6 8)) 16)) := ⟨_, rfl⟩
  refine E_top hx8.symm ?_
  replace hP := hP x8 hx8
  refine E_istore_n dJ6_bitCount_0f7a4_47 rfl (by decide) rfl ?_
  refine E_iload_n 0 0 dJ6_bitCount_0f7a4_48 rfl rfl ?_
  refine E_bipush dJ6_bitCount_0f7a4_49 (by decide) ?_
  refine E_iand dJ6_bitCount_0f7a4_51 ?_
  exact E_retI dJ6_bitCount_0f7a4_52 rfl hP
theorem dJ13_bitCount_95d88_0 : decode prog_15_method_50_code 0 = .ok (.lload_n 0, 1) := by decide +kernel
theorem dJ13_bitCount_95d88_1 : decode prog_15_method_50_code 1 = .ok (.lload_n 0, 1) := by decide +kernel
theorem dJ13_bitCount_95d88_2 : decode prog_15_method_50_code 2 = .ok (.iconst 1, 1) := by decide +kernel
theorem dJ13_bitCount_95d88_3 : decode prog_15_method_50_code 3 = .ok (.lushr, 1) := by decide +kernel
theorem dJ13_bitCount_95d88_4 : decode prog_15_method_50_code 4 = .ok (.ldc2_w 314, 3) := by decide +kernel
theorem dJ13_bitCount_95d88_7 : decode prog_15_method_50_code 7 = .ok (.land, 1) := by decide +kernel
theorem dJ13_bitCount_95d88_8 : decode prog_15_method_50_code 8 = .ok (.lsub, 1) := by decide +kernel
theorem dJ13_bitCount_95d88_9 : decode prog_15_method_50_code 9 = .ok (.lstore_n 0, 1) := by decide +kernel
theorem dJ13_bitCount_95d88_10 : decode prog_15_method_50_code 10 = .ok (.lload_n 0, 1) := by decide +kernel
theorem dJ13_bitCount_95d88_11 : decode prog_15_method_50_code 11 = .ok (.ldc2_w 316, 3) := by decide +kernel
theorem dJ13_bitCount_95d88_14 : decode prog_15_method_50_code 14 = .ok (.land, 1) := by decide +kernel
theorem dJ13_bitCount_95d88_15 : decode prog_15_method_50_code 15 = .ok (.lload_n 0, 1) := by decide +kernel
theorem dJ13_bitCount_95d88_16 : decode prog_15_method_50_code 16 = .ok (.iconst 2, 1) := by decide +kernel
theorem dJ13_bitCount_95d88_17 : decode prog_15_method_50_code 17 = .ok (.lushr, 1) := by decide +kernel
theorem dJ13_bitCount_95d88_18 : decode prog_15_method_50_code 18 = .ok (.ldc2_w 316, 3) := by decide +kernel
theorem dJ13_bitCount_95d88_21 : decode prog_15_method_50_code 21 = .ok (.land, 1) := by decide +kernel
theorem dJ13_bitCount_95d88_22 : decode prog_15_method_50_code 22 = .ok (.ladd, 1) := by decide +kernel
theorem dJ13_bitCount_95d88_23 : decode prog_15_method_50_code 23 = .ok (.lstore_n 0, 1) := by decide +kernel
theorem dJ13_bitCount_95d88_24 : decode prog_15_method_50_code 24 = .ok (.lload_n 0, 1) := by decide +kernel
theorem dJ13_bitCount_95d88_25 : decode prog_15_method_50_code 25 = .ok (.lload_n 0, 1) := by decide +kernel
theorem dJ13_bitCount_95d88_26 : decode prog_15_method_50_code 26 = .ok (.iconst 4, 1) := by decide +kernel
theorem dJ13_bitCount_95d88_27 : decode prog_15_method_50_code 27 = .ok (.lushr, 1) := by decide +kernel
theorem dJ13_bitCount_95d88_28 : decode prog_15_method_50_code 28 = .ok (.ladd, 1) := by decide +kernel
theorem dJ13_bitCount_95d88_29 : decode prog_15_method_50_code 29 = .ok (.ldc2_w 318, 3) := by decide +kernel
theorem dJ13_bitCount_95d88_32 : decode prog_15_method_50_code 32 = .ok (.land, 1) := by decide +kernel
theorem dJ13_bitCount_95d88_33 : decode prog_15_method_50_code 33 = .ok (.lstore_n 0, 1) := by decide +kernel
theorem dJ13_bitCount_95d88_34 : decode prog_15_method_50_code 34 = .ok (.lload_n 0, 1) := by decide +kernel
theorem dJ13_bitCount_95d88_35 : decode prog_15_method_50_code 35 = .ok (.lload_n 0, 1) := by decide +kernel
theorem dJ13_bitCount_95d88_36 : decode prog_15_method_50_code 36 = .ok (.bipush 8, 2) := by decide +kernel
theorem dJ13_bitCount_95d88_38 : decode prog_15_method_50_code 38 = .ok (.lushr, 1) := by decide +kernel
theorem dJ13_bitCount_95d88_39 : decode prog_15_method_50_code 39 = .ok (.ladd, 1) := by decide +kernel
theorem dJ13_bitCount_95d88_40 : decode prog_15_method_50_code 40 = .ok (.lstore_n 0, 1) := by decide +kernel
theorem dJ13_bitCount_95d88_41 : decode prog_15_method_50_code 41 = .ok (.lload_n 0, 1) := by decide +kernel
theorem dJ13_bitCount_95d88_42 : decode prog_15_method_50_code 42 = .ok (.lload_n 0, 1) := by decide +kernel
theorem dJ13_bitCount_95d88_43 : decode prog_15_method_50_code 43 = .ok (.bipush 16, 2) := by decide +kernel
theorem dJ13_bitCount_95d88_45 : decode prog_15_method_50_code 45 = .ok (.lushr, 1) := by decide +kernel
theorem dJ13_bitCount_95d88_46 : decode prog_15_method_50_code 46 = .ok (.ladd, 1) := by decide +kernel
theorem dJ13_bitCount_95d88_47 : decode prog_15_method_50_code 47 = .ok (.lstore_n 0, 1) := by decide +kernel
theorem dJ13_bitCount_95d88_48 : decode prog_15_method_50_code 48 = .ok (.lload_n 0, 1) := by decide +kernel
theorem dJ13_bitCount_95d88_49 : decode prog_15_method_50_code 49 = .ok (.lload_n 0, 1) := by decide +kernel
theorem dJ13_bitCount_95d88_50 : decode prog_15_method_50_code 50 = .ok (.bipush 32, 2) := by decide +kernel
theorem dJ13_bitCount_95d88_52 : decode prog_15_method_50_code 52 = .ok (.lushr, 1) := by decide +kernel
theorem dJ13_bitCount_95d88_53 : decode prog_15_method_50_code 53 = .ok (.ladd, 1) := by decide +kernel
theorem dJ13_bitCount_95d88_54 : decode prog_15_method_50_code 54 = .ok (.lstore_n 0, 1) := by decide +kernel
theorem dJ13_bitCount_95d88_55 : decode prog_15_method_50_code 55 = .ok (.lload_n 0, 1) := by decide +kernel
theorem dJ13_bitCount_95d88_56 : decode prog_15_method_50_code 56 = .ok (.l2i, 1) := by decide +kernel
theorem dJ13_bitCount_95d88_57 : decode prog_15_method_50_code 57 = .ok (.bipush 127, 2) := by decide +kernel
theorem dJ13_bitCount_95d88_59 : decode prog_15_method_50_code 59 = .ok (.iand, 1) := by decide +kernel
theorem dJ13_bitCount_95d88_60 : decode prog_15_method_50_code 60 = .ok (.ireturn, 1) := by decide +kernel
theorem sJ13_bitCount_95d88 {Q : Int → Hp → Prop} {h : Hp} {l0 : Int}
    (hP : Q (j_iand (j_l2i (j_ladd (j_ladd (j_ladd (j_land (j_ladd (j_ladd (j_land (j_lsub l0 (j_land (j_lushr l0 1) 6148914691236517205)) 3689348814741910323) (j_land (j_lushr (j_lsub l0 (j_land (j_lushr l0 1) 6148914691236517205)) 2) 3689348814741910323)) (j_lushr (j_ladd (j_land (j_lsub l0 (j_land (j_lushr l0 1) 6148914691236517205)) 3689348814741910323) (j_land (j_lushr (j_lsub l0 (j_land (j_lushr l0 1) 6148914691236517205)) 2) 3689348814741910323)) 4)) 1085102592571150095) (j_lushr (j_land (j_ladd (j_ladd (j_land (j_lsub l0 (j_land (j_lushr l0 1) 6148914691236517205)) 3689348814741910323) (j_land (j_lushr (j_lsub l0 (j_land (j_lushr l0 1) 6148914691236517205)) 2) 3689348814741910323)) (j_lushr (j_ladd (j_land (j_lsub l0 (j_land (j_lushr l0 1) 6148914691236517205)) 3689348814741910323) (j_land (j_lushr (j_lsub l0 (j_land (j_lushr l0 1) 6148914691236517205)) 2) 3689348814741910323)) 4)) 1085102592571150095) 8)) (j_lushr (j_ladd (j_land (j_ladd (j_ladd (j_land (j_lsub l0 (j_land (j_lushr l0 1) 6148914691236517205)) 3689348814741910323) (j_land (j_lushr (j_lsub l0 (j_land (j_lushr l0 1) 6148914691236517205)) 2) 3689348814741910323)) (j_lushr (j_ladd (j_land (j_lsub l0 (j_land (j_lushr l0 1) 6148914691236517205)) 3689348814741910323) (j_land (j_lushr (j_lsub l0 (j_land (j_lushr l0 1) 6148914691236517205)) 2) 3689348814741910323)) 4)) 1085102592571150095) (j_lushr (j_land (j_ladd (j_ladd (j_land (j_lsub l0 (j_land (j_lushr l0 1) 6148914691236517205)) 3689348814741910323) (j_land (j_lushr (j_lsub l0 (j_land (j_lushr l0 1) 6148914691236517205)) 2) 3689348814741910323)) (j_lushr (j_ladd (j_land (j_lsub l0 (j_land (j_lushr l0 1) 6148914691236517205)) 3689348814741910323) (j_land (j_lushr (j_lsub l0 (j_land (j_lushr l0 1) 6148914691236517205)) 2) 3689348814741910323)) 4)) 1085102592571150095) 8)) 16)) (j_lushr (j_ladd (j_ladd (j_land (j_ladd (j_ladd (j_land (j_lsub l0 (j_land (j_lushr l0 1) 6148914691236517205)) 3689348814741910323) (j_land (j_lushr (j_lsub l0 (j_land (j_lushr l0 1) 6148914691236517205)) 2) 3689348814741910323)) (j_lushr (j_ladd (j_land (j_lsub l0 (j_land (j_lushr l0 1) 6148914691236517205)) 3689348814741910323) (j_land (j_lushr (j_lsub l0 (j_land (j_lushr l0 1) 6148914691236517205)) 2) 3689348814741910323)) 4)) 1085102592571150095) (j_lushr (j_land (j_ladd (j_ladd (j_land (j_lsub l0 (j_land (j_lushr l0 1) 6148914691236517205)) 3689348814741910323) (j_land (j_lushr (j_lsub l0 (j_land (j_lushr l0 1) 6148914691236517205)) 2) 3689348814741910323)) (j_lushr (j_ladd (j_land (j_lsub l0 (j_land (j_lushr l0 1) 6148914691236517205)) 3689348814741910323) (j_land (j_lushr (j_lsub l0 (j_land (j_lushr l0 1) 6148914691236517205)) 2) 3689348814741910323)) 4)) 1085102592571150095) 8)) (j_lushr (j_ladd (j_land (j_ladd (j_ladd (j_land (j_lsub l0 (j_land (j_lushr l0 1) 6148914691236517205)) 3689348814741910323) (j_land (j_lushr (j_lsub l0 (j_land (j_lushr l0 1) 6148914691236517205)) 2) 3689348814741910323)) (j_lushr (j_ladd (j_land (j_lsub l0 (j_land (j_lushr l0 1) 6148914691236517205)) 3689348814741910323) (j_land (j_lushr (j_lsub l0 (j_land (j_lushr l0 1) 6148914691236517205)) 2) 3689348814741910323)) 4)) 1085102592571150095) (j_lushr (j_land (j_ladd (j_ladd (j_land (j_lsub l0 (j_land (j_lushr l0 1) 6148914691236517205)) 3689348814741910323) (j_land (j_lushr (j_lsub l0 (j_land (j_lushr l0 1) 6148914691236517205)) 2) 3689348814741910323)) (j_lushr (j_ladd (j_land (j_lsub l0 (j_land (j_lushr l0 1) 6148914691236517205)) 3689348814741910323) (j_land (j_lushr (j_lsub l0 (j_land (j_lushr l0 1) 6148914691236517205)) 2) 3689348814741910323)) 4)) 1085102592571150095) 8)) 16)) 32))) 127) h) :
    CI 0 mJ13_bitCount_95d88 [vl l0] h Q := by
  refine CI_of_E fJ13_bitCount_95d88.1 rfl (Nat.le_of_ble_eq_true rfl) ?_
  show E 0 mJ13_bitCount_95d88 0 [(0, vl l0)] [] h (qi Q)
  refine E_lload_n 0 0 dJ13_bitCount_95d88_0 rfl rfl ?_
  refine E_lload_n 0 0 dJ13_bitCount_95d88_1 rfl rfl ?_
  refine E_iconst dJ13_bitCount_95d88_2 (rg_of rfl) ?_
  refine E_lushr dJ13_bitCount_95d88_3 ?_
  refine E_ldc2 (z := 6148914691236517205) dJ13_bitCount_95d88_4 kJ13_314 (by decide) ?_
  refine E_land dJ13_bitCount_95d88_7 ?_
  refine E_lsub dJ13_bitCount_95d88_8 ?_
  refine E_lstore_n dJ13_bitCount_95d88_9 rfl (by decide) rfl ?_
  refine E_lload_n 0 0 dJ13_bitCount_95d88_10 rfl rfl ?_
  refine E_ldc2 (z := 3689348814741910323) dJ13_bitCount_95d88_11 kJ13_316 (by decide) ?_
  refine E_land dJ13_bitCount_95d88_14 ?_
  refine E_lload_n 0 0 dJ13_bitCount_95d88_15 rfl rfl ?_
  refine E_iconst dJ13_bitCount_95d88_16 (rg_of rfl) ?_
  refine E_lushr dJ13_bitCount_95d88_17 ?_
  refine E_ldc2 (z := 3689348814741910323) dJ13_bitCount_95d88_18 kJ13_316 (by decide) ?_
  refine E_land dJ13_bitCount_95d88_21 ?_
  refine E_ladd dJ13_bitCount_95d88_22 ?_
  refine E_lstore_n dJ13_bitCount_95d88_23 rfl (by decide) rfl ?_
  refine E_lload_n 0 0 dJ13_bitCount_95d88_24 rfl rfl ?_
  refine E_lload_n 0 0 dJ13_bitCount_95d88_25 rfl rfl ?_
  refine E_iconst dJ13_bitCount_95d88_26 (rg_of rfl) ?_
  refine E_lushr dJ13_bitCount_95d88_27 ?_
  refine E_ladd dJ13_bitCount_95d88_28 ?_
  refine E_ldc2 (z := 1085102592571150095) dJ13_bitCount_95d88_29 kJ13_318 (by decide) ?_
  refine E_land dJ13_bitCount_95d88_32 ?_
  refine E_lstore_n dJ13_bitCount_95d88_33 rfl (by decide) rfl ?_
  refine E_lload_n 0 0 dJ13_bitCount_95d88_34 rfl rfl ?_
  refine E_lload_n 0 0 dJ13_bitCount_95d88_35 rfl rfl ?_
  refine E_bipush dJ13_bitCount_95d88_36 (by decide) ?_
  refine E_lushr dJ13_bitCount_95d88_38 ?_
  refine E_ladd dJ13_bitCount_95d88_39 ?_
  refine E_lstore_n dJ13_bitCount_95d88_40 rfl (by decide) rfl ?_
  refine E_lload_n 0 0 dJ13_bitCount_95d88_41 rfl rfl ?_
  refine E_lload_n 0 0 dJ13_bitCount_95d88_42 rfl rfl ?_
  refine E_bipush dJ13_bitCount_95d88_43 (by decide) ?_
  refine E_lushr dJ13_bitCount_95d88_45 ?_
  refine E_ladd dJ13_bitCount_95d88_46 ?_
  refine E_lstore_n dJ13_bitCount_95d88_47 rfl (by decide) rfl ?_
  refine E_lload_n 0 0 dJ13_bitCount_95d88_48 rfl rfl ?_
  refine E_lload_n 0 0 dJ13_bitCount_95d88_49 rfl rfl ?_
  refine E_bipush dJ13_bitCount_95d88_50 (by decide) ?_
  refine E_lushr dJ13_bitCount_95d88_52 ?_
  refine E_ladd dJ13_bitCount_95d88_53 ?_
  refine E_lstore_n dJ13_bitCount_95d88_54 rfl (by decide) rfl ?_
  refine E_lload_n 0 0 dJ13_bitCount_95d88_55 rfl rfl ?_
  refine E_l2i dJ13_bitCount_95d88_56 ?_
  refine E_bipush dJ13_bitCount_95d88_57 (by decide) ?_
  refine E_iand dJ13_bitCount_95d88_59 ?_
  exact E_retI dJ13_bitCount_95d88_60 rfl hP
theorem dJ7_fill_53178_0 : decode prog_18_method_103_code 0 = .ok (.iconst 0, 1) := by decide +kernel
theorem dJ7_fill_53178_1 : decode prog_18_method_103_code 1 = .ok (.istore_n 2, 1) := by decide +kernel
theorem dJ7_fill_53178_2 : decode prog_18_method_103_code 2 = .ok (.aload_n 0, 1) := by decide +kernel
theorem dJ7_fill_53178_3 : decode prog_18_method_103_code 3 = .ok (.arraylength, 1) := by decide +kernel
theorem dJ7_fill_53178_4 : decode prog_18_method_103_code 4 = .ok (.istore_n 3, 1) := by decide +kernel
theorem dJ7_fill_53178_5 : decode prog_18_method_103_code 5 = .ok (.iload_n 2, 1) := by decide +kernel
theorem dJ7_fill_53178_6 : decode prog_18_method_103_code 6 = .ok (.iload_n 3, 1) := by decide +kernel
theorem dJ7_fill_53178_7 : decode prog_18_method_103_code 7 = .ok (.if_icmp .ge 13, 3) := by decide +kernel
theorem dJ7_fill_53178_10 : decode prog_18_method_103_code 10 = .ok (.aload_n 0, 1) := by decide +kernel
theorem dJ7_fill_53178_11 : decode prog_18_method_103_code 11 = .ok (.iload_n 2, 1) := by decide +kernel
theorem dJ7_fill_53178_12 : decode prog_18_method_103_code 12 = .ok (.iload_n 1, 1) := by decide +kernel
theorem dJ7_fill_53178_13 : decode prog_18_method_103_code 13 = .ok (.iastore, 1) := by decide +kernel
theorem dJ7_fill_53178_14 : decode prog_18_method_103_code 14 = .ok (.iinc 2 1, 3) := by decide +kernel
theorem dJ7_fill_53178_17 : decode prog_18_method_103_code 17 = .ok (.goto (-12), 3) := by decide +kernel
theorem dJ7_fill_53178_20 : decode prog_18_method_103_code 20 = .ok (.return_, 1) := by decide +kernel
theorem sJ7_fill_53178_5 {Q : Hp → Prop} {h : Hp} {r0 l1 l2 l3 : Int}
    (hP : ((l2 ≥ l3) →
     Q h) ∧
    ((l2 < l3) →
     (filA r0 ∧ ix l2 8 ∧ rj (l2 + 1)) ∧
     E 0 mJ7_fill_53178 5 [(0, vr r0), (1, vi l1), (2, vi (l2 + 1)), (3, vi l3)] [] (up h r0 l2 l1) (qv Q))) :
    E 0 mJ7_fill_53178 5 [(0, vr r0), (1, vi l1), (2, vi l2), (3, vi l3)] [] h (qv Q) := by
  refine E_iload_n 2 2 dJ7_fill_53178_5 rfl rfl ?_
  refine E_iload_n 3 3 dJ7_fill_53178_6 rfl rfl ?_
  refine E_icmp_ge 20 dJ7_fill_53178_7 rfl (fun hc => ?_) (fun hc => ?_)
  · replace hP := hP.1 (hc)
    exact E_retV dJ7_fill_53178_20 rfl hP
  · replace hP := hP.2 (by omega)
    obtain ⟨⟨v3_0, v3_1, v3_2⟩, hP⟩ := hP
    refine E_aload_n 0 0 dJ7_fill_53178_10 rfl rfl ?_
    refine E_iload_n 2 2 dJ7_fill_53178_11 rfl rfl ?_
    refine E_iload_n 1 1 dJ7_fill_53178_12 rfl rfl ?_
    refine E_iastore dJ7_fill_53178_13 (icFil v3_0) v3_1.1 v3_1.2 ?_
    refine E_iinc 2 dJ7_fill_53178_14 rfl (rgI v3_2) (by decide) rfl ?_
    refine E_goto 5 dJ7_fill_53178_17 rfl ?_
    exact E_sub [1, 2, 0, 3] rfl hP
theorem sJ7_fill_53178 {Q : Hp → Prop} {h : Hp} {r0 l1 : Int}
    (hP : (filA r0) ∧
    E 0 mJ7_fill_53178 5 [(0, vr r0), (1, vi l1), (2, vi 0), (3, vi 8)] [] h (qv Q)) :
    CV 0 mJ7_fill_53178 [vr r0, vi l1] h Q := by
  refine CV_of_E fJ7_fill_53178.1 rfl (Nat.le_of_ble_eq_true rfl) ?_
  show E 0 mJ7_fill_53178 0 [(0, vr r0), (1, vi l1)] [] h (qv Q)
  obtain ⟨v1_0, hP⟩ := hP
  refine E_iconst dJ7_fill_53178_0 (rg_of rfl) ?_
  refine E_istore_n dJ7_fill_53178_1 rfl (by decide) rfl ?_
  refine E_aload_n 1 0 dJ7_fill_53178_2 rfl rfl ?_
  refine E_len 8 dJ7_fill_53178_3 (icFil v1_0) (by decide) rfl ?_
  refine E_istore_n dJ7_fill_53178_4 rfl (by decide) rfl ?_
  exact E_sub [2, 3, 1, 0] rfl hP
theorem dX7_valueAt_0 : decode prog_9_method_9_code 0 = .ok (.aload_n 0, 1) := by decide +kernel
theorem dX7_valueAt_1 : decode prog_9_method_9_code 1 = .ok (.getfield 11, 3) := by decide +kernel
theorem dX7_valueAt_4 : decode prog_9_method_9_code 4 = .ok (.iload_n 1, 1) := by decide +kernel
theorem dX7_valueAt_5 : decode prog_9_method_9_code 5 = .ok (.iconst 4, 1) := by decide +kernel
theorem dX7_valueAt_6 : decode prog_9_method_9_code 6 = .ok (.imul, 1) := by decide +kernel
theorem dX7_valueAt_7 : decode prog_9_method_9_code 7 = .ok (.iload_n 2, 1) := by decide +kernel
theorem dX7_valueAt_8 : decode prog_9_method_9_code 8 = .ok (.bipush 64, 2) := by decide +kernel
theorem dX7_valueAt_10 : decode prog_9_method_9_code 10 = .ok (.idiv, 1) := by decide +kernel
theorem dX7_valueAt_11 : decode prog_9_method_9_code 11 = .ok (.iadd, 1) := by decide +kernel
theorem dX7_valueAt_12 : decode prog_9_method_9_code 12 = .ok (.laload, 1) := by decide +kernel
theorem dX7_valueAt_13 : decode prog_9_method_9_code 13 = .ok (.iload_n 2, 1) := by decide +kernel
theorem dX7_valueAt_14 : decode prog_9_method_9_code 14 = .ok (.bipush 64, 2) := by decide +kernel
theorem dX7_valueAt_16 : decode prog_9_method_9_code 16 = .ok (.irem, 1) := by decide +kernel
theorem dX7_valueAt_17 : decode prog_9_method_9_code 17 = .ok (.lushr, 1) := by decide +kernel
theorem dX7_valueAt_18 : decode prog_9_method_9_code 18 = .ok (.lconst 1, 1) := by decide +kernel
theorem dX7_valueAt_19 : decode prog_9_method_9_code 19 = .ok (.land, 1) := by decide +kernel
theorem dX7_valueAt_20 : decode prog_9_method_9_code 20 = .ok (.l2i, 1) := by decide +kernel
theorem dX7_valueAt_21 : decode prog_9_method_9_code 21 = .ok (.ireturn, 1) := by decide +kernel
theorem sX7_valueAt {Q : Int → Hp → Prop} {h : Hp} {l1 l2 : Int}
    (hP : (rj (l1 * 4) ∧ rj ((l1 * 4) + (j_idiv l2 64)) ∧ ix ((l1 * 4) + (j_idiv l2 64)) 32) ∧
    Q (j_l2i (j_land (j_lushr (h 84 ((l1 * 4) + (j_idiv l2 64))) (j_irem l2 64)) 1)) h) :
    CI 0 mX7_valueAt [vr 83, vi l1, vi l2] h Q := by
  refine CI_of_E fX7_valueAt.1 rfl (Nat.le_of_ble_eq_true rfl) ?_
  show E 0 mX7_valueAt 0 [(0, vr 83), (1, vi l1), (2, vi l2)] [] h (qi Q)
  obtain ⟨⟨v1_0, v1_1, v1_2⟩, hP⟩ := hP
  refine E_aload_n 0 0 dX7_valueAt_0 rfl rfl ?_
  refine E_gR 84 0 dX7_valueAt_1 FX7_11 ic_83 (by decide) ?_
  refine E_iload_n 1 1 dX7_valueAt_4 rfl rfl ?_
  refine E_iconst dX7_valueAt_5 (rg_of rfl) ?_
  refine E_imul dX7_valueAt_6 (rgI v1_0) ?_
  refine E_iload_n 2 2 dX7_valueAt_7 rfl rfl ?_
  refine E_bipush dX7_valueAt_8 (by decide) ?_
  refine E_idiv dX7_valueAt_10 (by decide) ?_
  refine E_iadd dX7_valueAt_11 (rgI v1_1) ?_
  refine E_laload dX7_valueAt_12 ic_84 v1_2.1 v1_2.2 ?_
  refine E_iload_n 2 2 dX7_valueAt_13 rfl rfl ?_
  refine E_bipush dX7_valueAt_14 (by decide) ?_
  refine E_irem dX7_valueAt_16 (by decide) ?_
  refine E_lushr dX7_valueAt_17 ?_
  refine E_lc 1 dX7_valueAt_18 rfl ?_
  refine E_land dX7_valueAt_19 ?_
  refine E_l2i dX7_valueAt_20 ?_
  exact E_retI dX7_valueAt_21 rfl hP
theorem dX7_outputFor_0 : decode prog_9_method_10_code 0 = .ok (.iconst 0, 1) := by decide +kernel
theorem dX7_outputFor_1 : decode prog_9_method_10_code 1 = .ok (.istore_n 2, 1) := by decide +kernel
theorem dX7_outputFor_2 : decode prog_9_method_10_code 2 = .ok (.iconst 0, 1) := by decide +kernel
theorem dX7_outputFor_3 : decode prog_9_method_10_code 3 = .ok (.istore_n 3, 1) := by decide +kernel
theorem dX7_outputFor_4 : decode prog_9_method_10_code 4 = .ok (.iload_n 3, 1) := by decide +kernel
theorem dX7_outputFor_5 : decode prog_9_method_10_code 5 = .ok (.aload_n 0, 1) := by decide +kernel
theorem dX7_outputFor_6 : decode prog_9_method_10_code 6 = .ok (.getfield 15, 3) := by decide +kernel
theorem dX7_outputFor_9 : decode prog_9_method_10_code 9 = .ok (.if_icmp .ge 20, 3) := by decide +kernel
theorem dX7_outputFor_12 : decode prog_9_method_10_code 12 = .ok (.iload_n 2, 1) := by decide +kernel
theorem dX7_outputFor_13 : decode prog_9_method_10_code 13 = .ok (.aload_n 0, 1) := by decide +kernel
theorem dX7_outputFor_14 : decode prog_9_method_10_code 14 = .ok (.iload_n 3, 1) := by decide +kernel
theorem dX7_outputFor_15 : decode prog_9_method_10_code 15 = .ok (.iload_n 1, 1) := by decide +kernel
theorem dX7_outputFor_16 : decode prog_9_method_10_code 16 = .ok (.invokevirtual 62, 3) := by decide +kernel
theorem dX7_outputFor_19 : decode prog_9_method_10_code 19 = .ok (.iload_n 3, 1) := by decide +kernel
theorem dX7_outputFor_20 : decode prog_9_method_10_code 20 = .ok (.ishl, 1) := by decide +kernel
theorem dX7_outputFor_21 : decode prog_9_method_10_code 21 = .ok (.ior, 1) := by decide +kernel
theorem dX7_outputFor_22 : decode prog_9_method_10_code 22 = .ok (.istore_n 2, 1) := by decide +kernel
theorem dX7_outputFor_23 : decode prog_9_method_10_code 23 = .ok (.iinc 3 1, 3) := by decide +kernel
theorem dX7_outputFor_26 : decode prog_9_method_10_code 26 = .ok (.goto (-22), 3) := by decide +kernel
theorem dX7_outputFor_29 : decode prog_9_method_10_code 29 = .ok (.iload_n 2, 1) := by decide +kernel
theorem dX7_outputFor_30 : decode prog_9_method_10_code 30 = .ok (.ireturn, 1) := by decide +kernel
theorem sX7_outputFor_4 {Q : Int → Hp → Prop} {h : Hp} {l1 l2 l3 : Int}
    (hP : ((l3 ≥ (h 83 1)) →
     Q l2 h) ∧
    ((l3 < (h 83 1)) →
     (rj (l3 * 4) ∧ rj ((l3 * 4) + (j_idiv l1 64)) ∧ ix ((l3 * 4) + (j_idiv l1 64)) 32) ∧
     (∀ x4 : Int, x4 = (j_ior l2 (j_ishl (j_l2i (j_land (j_lushr (h 84 ((l3 * 4) + (j_idiv l1 64))) (j_irem l1 64)) 1)) l3)) →
     (rj (l3 + 1)) ∧
     E 1 mX7_outputFor 4 [(0, vr 83), (1, vi l1), (2, vi x4), (3, vi (l3 + 1))] [] h (qi Q)))) :
    E 1 mX7_outputFor 4 [(0, vr 83), (1, vi l1), (2, vi l2), (3, vi l3)] [] h (qi Q) := by
  refine E_iload_n 3 3 dX7_outputFor_4 rfl rfl ?_
  refine E_aload_n 0 0 dX7_outputFor_5 rfl rfl ?_
  refine E_gI 1 1 dX7_outputFor_6 FX7_15 ic_83 rfl ?_
  refine E_icmp_ge 29 dX7_outputFor_9 rfl (fun hc => ?_) (fun hc => ?_)
  · replace hP := hP.1 (hc)
    refine E_iload_n 2 2 dX7_outputFor_29 rfl rfl ?_
    exact E_retI dX7_outputFor_30 rfl hP
  · replace hP := hP.2 (by omega)
    obtain ⟨⟨v3_0, v3_1, v3_2⟩, hP⟩ := hP
    refine E_iload_n 2 2 dX7_outputFor_12 rfl rfl ?_
    refine E_aload_n 0 0 dX7_outputFor_13 rfl rfl ?_
    refine E_iload_n 3 3 dX7_outputFor_14 rfl rfl ?_
    refine E_iload_n 1 1 dX7_outputFor_15 rfl rfl ?_
    refine E_invVI [vi l3, vi l1] dX7_outputFor_16 fX7_valueAt lX7_62 ic_83 rfl (by decide) rfl rfl (Nat.le_of_ble_eq_true rfl) (sX7_valueAt (h := h) (l1 := l3) (l2 := l1) ⟨⟨v3_0, v3_1, v3_2⟩, ?_⟩)
    refine E_iload_n 3 3 dX7_outputFor_19 rfl rfl ?_
    refine E_ishl dX7_outputFor_20 ?_
    refine E_ior dX7_outputFor_21 ?_
    obtain ⟨x4, hx4⟩ : ∃ x : Int, x = (j_ior l2 (j_ishl (j_l2i (j_land (j_lushr (h 84 ((l3 * 4) + (j_idiv l1 64))) (j_irem l1 64)) 1)) l3)) := ⟨_, rfl⟩
    refine E_top hx4.symm ?_
    replace hP := hP x4 hx4
    refine E_istore_n dX7_outputFor_22 rfl (by decide) rfl ?_
    obtain ⟨v5_0, hP⟩ := hP
    refine E_iinc 3 dX7_outputFor_23 rfl (rgI v5_0) (by decide) rfl ?_
    refine E_goto 4 dX7_outputFor_26 rfl ?_
    exact E_sub [2, 3, 1, 0] rfl hP
theorem sX7_outputFor {Q : Int → Hp → Prop} {h : Hp} {l1 : Int}
    (hP : E 1 mX7_outputFor 4 [(0, vr 83), (1, vi l1), (2, vi 0), (3, vi 0)] [] h (qi Q)) :
    CI 1 mX7_outputFor [vr 83, vi l1] h Q := by
  refine CI_of_E fX7_outputFor.1 rfl (Nat.le_of_ble_eq_true rfl) ?_
  show E 1 mX7_outputFor 0 [(0, vr 83), (1, vi l1)] [] h (qi Q)
  refine E_iconst dX7_outputFor_0 (rg_of rfl) ?_
  refine E_istore_n dX7_outputFor_1 rfl (by decide) rfl ?_
  refine E_iconst dX7_outputFor_2 (rg_of rfl) ?_
  refine E_istore_n dX7_outputFor_3 rfl (by decide) rfl ?_
  exact E_sub [2, 3, 1, 0] rfl hP
theorem dX10_isSorted_0 : decode prog_1_method_54_code 0 = .ok (.iload_n 0, 1) := by decide +kernel
theorem dX10_isSorted_1 : decode prog_1_method_54_code 1 = .ok (.iconst (-1), 1) := by decide +kernel
theorem dX10_isSorted_2 : decode prog_1_method_54_code 2 = .ok (.ixor, 1) := by decide +kernel
theorem dX10_isSorted_3 : decode prog_1_method_54_code 3 = .ok (.iconst 1, 1) := by decide +kernel
theorem dX10_isSorted_4 : decode prog_1_method_54_code 4 = .ok (.iload_n 1, 1) := by decide +kernel
theorem dX10_isSorted_5 : decode prog_1_method_54_code 5 = .ok (.ishl, 1) := by decide +kernel
theorem dX10_isSorted_6 : decode prog_1_method_54_code 6 = .ok (.iconst 1, 1) := by decide +kernel
theorem dX10_isSorted_7 : decode prog_1_method_54_code 7 = .ok (.isub, 1) := by decide +kernel
theorem dX10_isSorted_8 : decode prog_1_method_54_code 8 = .ok (.iand, 1) := by decide +kernel
theorem dX10_isSorted_9 : decode prog_1_method_54_code 9 = .ok (.istore_n 2, 1) := by decide +kernel
theorem dX10_isSorted_10 : decode prog_1_method_54_code 10 = .ok (.iload_n 2, 1) := by decide +kernel
theorem dX10_isSorted_11 : decode prog_1_method_54_code 11 = .ok (.iload_n 2, 1) := by decide +kernel
theorem dX10_isSorted_12 : decode prog_1_method_54_code 12 = .ok (.iconst 1, 1) := by decide +kernel
theorem dX10_isSorted_13 : decode prog_1_method_54_code 13 = .ok (.iadd, 1) := by decide +kernel
theorem dX10_isSorted_14 : decode prog_1_method_54_code 14 = .ok (.iand, 1) := by decide +kernel
theorem dX10_isSorted_15 : decode prog_1_method_54_code 15 = .ok (.ifCond .ne 7, 3) := by decide +kernel
theorem dX10_isSorted_18 : decode prog_1_method_54_code 18 = .ok (.iconst 1, 1) := by decide +kernel
theorem dX10_isSorted_19 : decode prog_1_method_54_code 19 = .ok (.goto 4, 3) := by decide +kernel
theorem dX10_isSorted_22 : decode prog_1_method_54_code 22 = .ok (.iconst 0, 1) := by decide +kernel
theorem dX10_isSorted_23 : decode prog_1_method_54_code 23 = .ok (.ireturn, 1) := by decide +kernel
theorem sX10_isSorted {Q : Int → Hp → Prop} {h : Hp} {l0 l1 : Int}
    (hP : (rj ((j_ishl 1 l1) - 1)) ∧
    (∀ x2 : Int, x2 = (j_iand (j_ixor l0 (-1)) ((j_ishl 1 l1) - 1)) →
    (rj (x2 + 1)) ∧
    Q (if (j_iand x2 (x2 + 1)) = 0 then (1 : Int) else 0) h)) :
    CI 0 mX10_isSorted [vi l0, vi l1] h Q := by
  refine CI_of_E fX10_isSorted.1 rfl (Nat.le_of_ble_eq_true rfl) ?_
  show E 0 mX10_isSorted 0 [(0, vi l0), (1, vi l1)] [] h (qi Q)
  obtain ⟨v1_0, hP⟩ := hP
  refine E_iload_n 0 0 dX10_isSorted_0 rfl rfl ?_
  refine E_iconst dX10_isSorted_1 (rg_of rfl) ?_
  refine E_ixor dX10_isSorted_2 ?_
  refine E_iconst dX10_isSorted_3 (rg_of rfl) ?_
  refine E_iload_n 1 1 dX10_isSorted_4 rfl rfl ?_
  refine E_ishl dX10_isSorted_5 ?_
  refine E_iconst dX10_isSorted_6 (rg_of rfl) ?_
  refine E_isub dX10_isSorted_7 (rgI v1_0) ?_
  refine E_iand dX10_isSorted_8 ?_
  obtain ⟨x2, hx2⟩ : ∃ x : Int, x = (j_iand (j_ixor l0 (-1)) ((j_ishl 1 l1) - 1)) := ⟨_, rfl⟩
  refine E_top hx2.symm ?_
  replace hP := hP x2 hx2
  refine E_istore_n dX10_isSorted_9 rfl (by decide) rfl ?_
  obtain ⟨v3_0, hP⟩ := hP
  refine E_iload_n 0 2 dX10_isSorted_10 rfl rfl ?_
  refine E_iload_n 0 2 dX10_isSorted_11 rfl rfl ?_
  refine E_iconst dX10_isSorted_12 (rg_of rfl) ?_
  refine E_iadd dX10_isSorted_13 (rgI v3_0) ?_
  refine E_iand dX10_isSorted_14 ?_
  have hJ : E 0 mX10_isSorted 23 [(2, vi x2), (0, vi l0), (1, vi l1)] [vi (if (j_iand x2 (x2 + 1)) = 0 then (1 : Int) else 0)] h (qi Q) := by
    exact E_retZ dX10_isSorted_23 rfl (b01 _) hP
  refine E_if_ne 22 dX10_isSorted_15 rfl (fun hc => ?_) (fun hc => ?_)
  · have hp15 := (hc : (j_iand x2 (x2 + 1)) ≠ 0)
    refine E_iconst dX10_isSorted_22 (rg_of rfl) ?_
    exact E_top (if_neg (by omega)).symm hJ
  · have hp15 := (by omega : (j_iand x2 (x2 + 1)) = 0)
    refine E_iconst dX10_isSorted_18 (rg_of rfl) ?_
    refine E_goto 23 dX10_isSorted_19 rfl ?_
    exact E_top (if_pos (by omega)).symm hJ
theorem dX0_countWithoutFailure_0 : decode prog_2_method_2_code 0 = .ok (.iconst 1, 1) := by decide +kernel
theorem dX0_countWithoutFailure_1 : decode prog_2_method_2_code 1 = .ok (.aload_n 1, 1) := by decide +kernel
theorem dX0_countWithoutFailure_2 : decode prog_2_method_2_code 2 = .ok (.getfield 19, 3) := by decide +kernel
theorem dX0_countWithoutFailure_5 : decode prog_2_method_2_code 5 = .ok (.ishl, 1) := by decide +kernel
theorem dX0_countWithoutFailure_6 : decode prog_2_method_2_code 6 = .ok (.iconst 1, 1) := by decide +kernel
theorem dX0_countWithoutFailure_7 : decode prog_2_method_2_code 7 = .ok (.isub, 1) := by decide +kernel
theorem dX0_countWithoutFailure_8 : decode prog_2_method_2_code 8 = .ok (.istore_n 2, 1) := by decide +kernel
theorem dX0_countWithoutFailure_9 : decode prog_2_method_2_code 9 = .ok (.aload_n 0, 1) := by decide +kernel
theorem dX0_countWithoutFailure_10 : decode prog_2_method_2_code 10 = .ok (.getfield 9, 3) := by decide +kernel
theorem dX0_countWithoutFailure_13 : decode prog_2_method_2_code 13 = .ok (.iconst 0, 1) := by decide +kernel
theorem dX0_countWithoutFailure_14 : decode prog_2_method_2_code 14 = .ok (.iconst 1, 1) := by decide +kernel
theorem dX0_countWithoutFailure_15 : decode prog_2_method_2_code 15 = .ok (.iastore, 1) := by decide +kernel
theorem dX0_countWithoutFailure_16 : decode prog_2_method_2_code 16 = .ok (.iconst 1, 1) := by decide +kernel
theorem dX0_countWithoutFailure_17 : decode prog_2_method_2_code 17 = .ok (.istore_n 3, 1) := by decide +kernel
theorem dX0_countWithoutFailure_18 : decode prog_2_method_2_code 18 = .ok (.iload_n 3, 1) := by decide +kernel
theorem dX0_countWithoutFailure_19 : decode prog_2_method_2_code 19 = .ok (.iload_n 2, 1) := by decide +kernel
theorem dX0_countWithoutFailure_20 : decode prog_2_method_2_code 20 = .ok (.if_icmp .gt 83, 3) := by decide +kernel
theorem dX0_countWithoutFailure_23 : decode prog_2_method_2_code 23 = .ok (.aload_n 0, 1) := by decide +kernel
theorem dX0_countWithoutFailure_24 : decode prog_2_method_2_code 24 = .ok (.getfield 9, 3) := by decide +kernel
theorem dX0_countWithoutFailure_27 : decode prog_2_method_2_code 27 = .ok (.iload_n 3, 1) := by decide +kernel
theorem dX0_countWithoutFailure_28 : decode prog_2_method_2_code 28 = .ok (.iconst 0, 1) := by decide +kernel
theorem dX0_countWithoutFailure_29 : decode prog_2_method_2_code 29 = .ok (.iastore, 1) := by decide +kernel
theorem dX0_countWithoutFailure_30 : decode prog_2_method_2_code 30 = .ok (.aload_n 1, 1) := by decide +kernel
theorem dX0_countWithoutFailure_31 : decode prog_2_method_2_code 31 = .ok (.iload_n 3, 1) := by decide +kernel
theorem dX0_countWithoutFailure_32 : decode prog_2_method_2_code 32 = .ok (.invokevirtual 25, 3) := by decide +kernel
theorem dX0_countWithoutFailure_35 : decode prog_2_method_2_code 35 = .ok (.aload_n 1, 1) := by decide +kernel
theorem dX0_countWithoutFailure_36 : decode prog_2_method_2_code 36 = .ok (.getfield 19, 3) := by decide +kernel
theorem dX0_countWithoutFailure_39 : decode prog_2_method_2_code 39 = .ok (.invokestatic 29, 3) := by decide +kernel
theorem dX0_countWithoutFailure_42 : decode prog_2_method_2_code 42 = .ok (.ifCond .eq 55, 3) := by decide +kernel
theorem dX0_countWithoutFailure_45 : decode prog_2_method_2_code 45 = .ok (.iconst 0, 1) := by decide +kernel
theorem dX0_countWithoutFailure_46 : decode prog_2_method_2_code 46 = .ok (.istore 4, 2) := by decide +kernel
theorem dX0_countWithoutFailure_48 : decode prog_2_method_2_code 48 = .ok (.iload 4, 2) := by decide +kernel
theorem dX0_countWithoutFailure_50 : decode prog_2_method_2_code 50 = .ok (.aload_n 1, 1) := by decide +kernel
theorem dX0_countWithoutFailure_51 : decode prog_2_method_2_code 51 = .ok (.getfield 19, 3) := by decide +kernel
theorem dX0_countWithoutFailure_54 : decode prog_2_method_2_code 54 = .ok (.if_icmp .ge 43, 3) := by decide +kernel
theorem dX0_countWithoutFailure_57 : decode prog_2_method_2_code 57 = .ok (.aload_n 0, 1) := by decide +kernel
theorem dX0_countWithoutFailure_58 : decode prog_2_method_2_code 58 = .ok (.getfield 9, 3) := by decide +kernel
theorem dX0_countWithoutFailure_61 : decode prog_2_method_2_code 61 = .ok (.iload_n 3, 1) := by decide +kernel
theorem dX0_countWithoutFailure_62 : decode prog_2_method_2_code 62 = .ok (.dup2, 1) := by decide +kernel
theorem dX0_countWithoutFailure_63 : decode prog_2_method_2_code 63 = .ok (.iaload, 1) := by decide +kernel
theorem dX0_countWithoutFailure_64 : decode prog_2_method_2_code 64 = .ok (.iload_n 3, 1) := by decide +kernel
theorem dX0_countWithoutFailure_65 : decode prog_2_method_2_code 65 = .ok (.iload 4, 2) := by decide +kernel
theorem dX0_countWithoutFailure_67 : decode prog_2_method_2_code 67 = .ok (.ishr, 1) := by decide +kernel
theorem dX0_countWithoutFailure_68 : decode prog_2_method_2_code 68 = .ok (.iconst 1, 1) := by decide +kernel
theorem dX0_countWithoutFailure_69 : decode prog_2_method_2_code 69 = .ok (.iand, 1) := by decide +kernel
theorem dX0_countWithoutFailure_70 : decode prog_2_method_2_code 70 = .ok (.iconst 1, 1) := by decide +kernel
theorem dX0_countWithoutFailure_71 : decode prog_2_method_2_code 71 = .ok (.if_icmp .ne 17, 3) := by decide +kernel
theorem dX0_countWithoutFailure_74 : decode prog_2_method_2_code 74 = .ok (.aload_n 0, 1) := by decide +kernel
theorem dX0_countWithoutFailure_75 : decode prog_2_method_2_code 75 = .ok (.getfield 9, 3) := by decide +kernel
theorem dX0_countWithoutFailure_78 : decode prog_2_method_2_code 78 = .ok (.iload_n 3, 1) := by decide +kernel
theorem dX0_countWithoutFailure_79 : decode prog_2_method_2_code 79 = .ok (.iconst 1, 1) := by decide +kernel
theorem dX0_countWithoutFailure_80 : decode prog_2_method_2_code 80 = .ok (.iload 4, 2) := by decide +kernel
theorem dX0_countWithoutFailure_82 : decode prog_2_method_2_code 82 = .ok (.ishl, 1) := by decide +kernel
theorem dX0_countWithoutFailure_83 : decode prog_2_method_2_code 83 = .ok (.ixor, 1) := by decide +kernel
theorem dX0_countWithoutFailure_84 : decode prog_2_method_2_code 84 = .ok (.iaload, 1) := by decide +kernel
theorem dX0_countWithoutFailure_85 : decode prog_2_method_2_code 85 = .ok (.goto 4, 3) := by decide +kernel
theorem dX0_countWithoutFailure_88 : decode prog_2_method_2_code 88 = .ok (.iconst 0, 1) := by decide +kernel
theorem dX0_countWithoutFailure_89 : decode prog_2_method_2_code 89 = .ok (.iadd, 1) := by decide +kernel
theorem dX0_countWithoutFailure_90 : decode prog_2_method_2_code 90 = .ok (.iastore, 1) := by decide +kernel
theorem dX0_countWithoutFailure_91 : decode prog_2_method_2_code 91 = .ok (.iinc 4 1, 3) := by decide +kernel
theorem dX0_countWithoutFailure_94 : decode prog_2_method_2_code 94 = .ok (.goto (-46), 3) := by decide +kernel
theorem dX0_countWithoutFailure_97 : decode prog_2_method_2_code 97 = .ok (.iinc 3 1, 3) := by decide +kernel
theorem dX0_countWithoutFailure_100 : decode prog_2_method_2_code 100 = .ok (.goto (-82), 3) := by decide +kernel
theorem dX0_countWithoutFailure_103 : decode prog_2_method_2_code 103 = .ok (.aload_n 0, 1) := by decide +kernel
theorem dX0_countWithoutFailure_104 : decode prog_2_method_2_code 104 = .ok (.getfield 9, 3) := by decide +kernel
theorem dX0_countWithoutFailure_107 : decode prog_2_method_2_code 107 = .ok (.iload_n 2, 1) := by decide +kernel
theorem dX0_countWithoutFailure_108 : decode prog_2_method_2_code 108 = .ok (.iaload, 1) := by decide +kernel
theorem dX0_countWithoutFailure_109 : decode prog_2_method_2_code 109 = .ok (.ireturn, 1) := by decide +kernel
theorem sX0_countWithoutFailure_48 {Q : Int → Hp → Prop} {h : Hp} {l2 l3 l4 : Int}
    (hP : ((l4 ≥ (h 83 1)) →
     (rj (l3 + 1)) ∧
     E 2 mX0_countWithoutFailure 18 [(0, vr 97), (1, vr 83), (2, vi l2), (3, vi (l3 + 1))] [] h (qi Q)) ∧
    ((l4 < (h 83 1)) →
     (ix l3 256 ∧ (((j_iand (j_ishr l3 l4) 1) = 1) → (ix (j_ixor l3 (j_ishl 1 l4)) 256))) ∧
     (rj ((h 98 l3) + (if (j_iand (j_ishr l3 l4) 1) ≠ 1 then 0 else (h 98 (j_ixor l3 (j_ishl 1 l4))))) ∧ ix l3 256 ∧ rj (l4 + 1)) ∧
     E 2 mX0_countWithoutFailure 48 [(0, vr 97), (1, vr 83), (2, vi l2), (3, vi l3), (4, vi (l4 + 1))] [] (up h 98 l3 ((h 98 l3) + (if (j_iand (j_ishr l3 l4) 1) ≠ 1 then 0 else (h 98 (j_ixor l3 (j_ishl 1 l4)))))) (qi Q))) :
    E 2 mX0_countWithoutFailure 48 [(0, vr 97), (1, vr 83), (2, vi l2), (3, vi l3), (4, vi l4)] [] h (qi Q) := by
  refine E_iload 4 dX0_countWithoutFailure_48 rfl ?_
  refine E_aload_n 1 1 dX0_countWithoutFailure_50 rfl rfl ?_
  refine E_gI 1 1 dX0_countWithoutFailure_51 FX0_19 ic_83 rfl ?_
  refine E_icmp_ge 97 dX0_countWithoutFailure_54 rfl (fun hc => ?_) (fun hc => ?_)
  · replace hP := hP.1 (hc)
    obtain ⟨v2_0, hP⟩ := hP
    refine E_iinc 3 dX0_countWithoutFailure_97 rfl (rgI v2_0) (by decide) rfl ?_
    refine E_goto 18 dX0_countWithoutFailure_100 rfl ?_
    exact E_sub [1, 2, 3, 0] rfl hP
  · replace hP := hP.2 (by omega)
    obtain ⟨⟨v3_0, v3_1⟩, hP⟩ := hP
    refine E_aload_n 0 0 dX0_countWithoutFailure_57 rfl rfl ?_
    refine E_gR 98 0 dX0_countWithoutFailure_58 FX0_9 ic_97 (by decide) ?_
    refine E_iload_n 3 3 dX0_countWithoutFailure_61 rfl rfl ?_
    refine E_dup2 dX0_countWithoutFailure_62 rfl rfl ?_
    refine E_iaload dX0_countWithoutFailure_63 ic_98 v3_0.1 v3_0.2 ?_
    refine E_iload_n 3 3 dX0_countWithoutFailure_64 rfl rfl ?_
    refine E_iload 4 dX0_countWithoutFailure_65 rfl ?_
    refine E_ishr dX0_countWithoutFailure_67 ?_
    refine E_iconst dX0_countWithoutFailure_68 (rg_of rfl) ?_
    refine E_iand dX0_countWithoutFailure_69 ?_
    refine E_iconst dX0_countWithoutFailure_70 (rg_of rfl) ?_
    have hJ : E 2 mX0_countWithoutFailure 89 [(0, vr 97), (1, vr 83), (2, vi l2), (3, vi l3), (4, vi l4)] [vi (if (j_iand (j_ishr l3 l4) 1) ≠ 1 then 0 else (h 98 (j_ixor l3 (j_ishl 1 l4)))), vi (h 98 l3), vi l3, vr 98] h (qi Q) := by
      obtain ⟨⟨v4_0, v4_1, v4_2⟩, hP⟩ := hP
      refine E_iadd dX0_countWithoutFailure_89 (rgI v4_0) ?_
      refine E_iastore dX0_countWithoutFailure_90 ic_98 v4_1.1 v4_1.2 ?_
      refine E_iinc 4 dX0_countWithoutFailure_91 rfl (rgI v4_2) (by decide) rfl ?_
      refine E_goto 48 dX0_countWithoutFailure_94 rfl ?_
      exact E_sub [1, 2, 3, 4, 0] rfl hP
    refine E_icmp_ne 88 dX0_countWithoutFailure_71 rfl (fun hc => ?_) (fun hc => ?_)
    · have hp71 := (hc : (j_iand (j_ishr l3 l4) 1) ≠ 1)
      refine E_iconst dX0_countWithoutFailure_88 (rg_of rfl) ?_
      exact E_top (by first | exact (if_pos (by omega)).symm | exact (if_neg (by omega)).symm | (repeat first | rw [if_pos (by omega)] | rw [if_neg (by omega)])) hJ
    · have hp71 := (by omega : (j_iand (j_ishr l3 l4) 1) = 1)
      refine E_aload_n 0 0 dX0_countWithoutFailure_74 rfl rfl ?_
      refine E_gR 98 0 dX0_countWithoutFailure_75 FX0_9 ic_97 (by decide) ?_
      refine E_iload_n 3 3 dX0_countWithoutFailure_78 rfl rfl ?_
      refine E_iconst dX0_countWithoutFailure_79 (rg_of rfl) ?_
      refine E_iload 4 dX0_countWithoutFailure_80 rfl ?_
      refine E_ishl dX0_countWithoutFailure_82 ?_
      refine E_ixor dX0_countWithoutFailure_83 ?_
      refine E_iaload dX0_countWithoutFailure_84 ic_98 (v3_1 (by omega)).1 (v3_1 (by omega)).2 ?_
      refine E_goto 89 dX0_countWithoutFailure_85 rfl ?_
      exact E_top (by first | exact (if_pos (by omega)).symm | exact (if_neg (by omega)).symm | (repeat first | rw [if_pos (by omega)] | rw [if_neg (by omega)])) hJ
theorem sX0_countWithoutFailure_18 {Q : Int → Hp → Prop} {h : Hp} {l2 l3 : Int}
    (hP : ((l3 > l2) →
     (ix l2 256) ∧
     Q (h 98 l2) h) ∧
    ((l3 ≤ l2) →
     (ix l3 256) ∧
     CI 1 mX7_outputFor [vr 83, vi l3] (up h 98 l3 0) (fun r5 h4 =>
      CI 0 mX10_isSorted [vi r5, vi (h4 83 1)] h4 (fun r8 h7 =>
       ((r8 = 0) →
        (rj (l3 + 1)) ∧
        E 2 mX0_countWithoutFailure 18 [(0, vr 97), (1, vr 83), (2, vi l2), (3, vi (l3 + 1))] [] h7 (qi Q)) ∧
       ((r8 ≠ 0) →
        E 2 mX0_countWithoutFailure 48 [(0, vr 97), (1, vr 83), (2, vi l2), (3, vi l3), (4, vi 0)] [] h7 (qi Q)))))) :
    E 2 mX0_countWithoutFailure 18 [(0, vr 97), (1, vr 83), (2, vi l2), (3, vi l3)] [] h (qi Q) := by
  refine E_iload_n 3 3 dX0_countWithoutFailure_18 rfl rfl ?_
  refine E_iload_n 2 2 dX0_countWithoutFailure_19 rfl rfl ?_
  refine E_icmp_gt 103 dX0_countWithoutFailure_20 rfl (fun hc => ?_) (fun hc => ?_)
  · replace hP := hP.1 (hc)
    obtain ⟨v2_0, hP⟩ := hP
    refine E_aload_n 0 0 dX0_countWithoutFailure_103 rfl rfl ?_
    refine E_gR 98 0 dX0_countWithoutFailure_104 FX0_9 ic_97 (by decide) ?_
    refine E_iload_n 2 2 dX0_countWithoutFailure_107 rfl rfl ?_
    refine E_iaload dX0_countWithoutFailure_108 ic_98 v2_0.1 v2_0.2 ?_
    exact E_retI dX0_countWithoutFailure_109 rfl hP
  · replace hP := hP.2 (by omega)
    obtain ⟨v3_0, hP⟩ := hP
    refine E_aload_n 0 0 dX0_countWithoutFailure_23 rfl rfl ?_
    refine E_gR 98 0 dX0_countWithoutFailure_24 FX0_9 ic_97 (by decide) ?_
    refine E_iload_n 3 3 dX0_countWithoutFailure_27 rfl rfl ?_
    refine E_iconst dX0_countWithoutFailure_28 (rg_of rfl) ?_
    refine E_iastore dX0_countWithoutFailure_29 ic_98 v3_0.1 v3_0.2 ?_
    refine E_aload_n 1 1 dX0_countWithoutFailure_30 rfl rfl ?_
    refine E_iload_n 3 3 dX0_countWithoutFailure_31 rfl rfl ?_
    refine E_invVI [vi l3] dX0_countWithoutFailure_32 fX7_outputFor lX0_25 ic_83 rfl (by decide) rfl rfl (Nat.le_of_ble_eq_true rfl) (CI_mono hP (fun r5 h4 hP => ?_))
    refine E_aload_n 1 1 dX0_countWithoutFailure_35 rfl rfl ?_
    refine E_gI 1 1 dX0_countWithoutFailure_36 FX0_19 ic_83 rfl ?_
    refine E_invNI [vi r5, vi (h4 83 1)] dX0_countWithoutFailure_39 fX10_isSorted nX0_29 (by decide) rfl rfl (Nat.le_of_ble_eq_true rfl) (CI_mono hP (fun r8 h7 hP => ?_))
    refine E_if_eq 97 dX0_countWithoutFailure_42 rfl (fun hc => ?_) (fun hc => ?_)
    · replace hP := hP.1 (hc)
      obtain ⟨v10_0, hP⟩ := hP
      refine E_iinc 3 dX0_countWithoutFailure_97 rfl (rgI v10_0) (by decide) rfl ?_
      refine E_goto 18 dX0_countWithoutFailure_100 rfl ?_
      exact E_sub [1, 2, 3, 0] rfl hP
    · replace hP := hP.2 (by omega)
      refine E_iconst dX0_countWithoutFailure_45 (rg_of rfl) ?_
      refine E_istore dX0_countWithoutFailure_46 (by decide) rfl ?_
      exact E_sub [1, 2, 3, 4, 0] rfl hP
theorem sX0_countWithoutFailure {Q : Int → Hp → Prop} {h : Hp}
    (hP : (rj ((j_ishl 1 (h 83 1)) - 1)) ∧
    (∀ x2 : Int, x2 = ((j_ishl 1 (h 83 1)) - 1) →
    (ix 0 256) ∧
    E 2 mX0_countWithoutFailure 18 [(0, vr 97), (1, vr 83), (2, vi x2), (3, vi 1)] [] (up h 98 0 1) (qi Q))) :
    CI 2 mX0_countWithoutFailure [vr 97, vr 83] h Q := by
  refine CI_of_E fX0_countWithoutFailure.1 rfl (Nat.le_of_ble_eq_true rfl) ?_
  show E 2 mX0_countWithoutFailure 0 [(0, vr 97), (1, vr 83)] [] h (qi Q)
  obtain ⟨v1_0, hP⟩ := hP
  refine E_iconst dX0_countWithoutFailure_0 (rg_of rfl) ?_
  refine E_aload_n 1 1 dX0_countWithoutFailure_1 rfl rfl ?_
  refine E_gI 1 1 dX0_countWithoutFailure_2 FX0_19 ic_83 rfl ?_
  refine E_ishl dX0_countWithoutFailure_5 ?_
  refine E_iconst dX0_countWithoutFailure_6 (rg_of rfl) ?_
  refine E_isub dX0_countWithoutFailure_7 (rgI v1_0) ?_
  obtain ⟨x2, hx2⟩ : ∃ x : Int, x = ((j_ishl 1 (h 83 1)) - 1) := ⟨_, rfl⟩
  refine E_top hx2.symm ?_
  replace hP := hP x2 hx2
  refine E_istore_n dX0_countWithoutFailure_8 rfl (by decide) rfl ?_
  obtain ⟨v3_0, hP⟩ := hP
  refine E_aload_n 1 0 dX0_countWithoutFailure_9 rfl rfl ?_
  refine E_gR 98 0 dX0_countWithoutFailure_10 FX0_9 ic_97 (by decide) ?_
  refine E_iconst dX0_countWithoutFailure_13 (rg_of rfl) ?_
  refine E_iconst dX0_countWithoutFailure_14 (rg_of rfl) ?_
  refine E_iastore dX0_countWithoutFailure_15 ic_98 v3_0.1 v3_0.2 ?_
  refine E_iconst dX0_countWithoutFailure_16 (rg_of rfl) ?_
  refine E_istore_n dX0_countWithoutFailure_17 rfl (by decide) rfl ?_
  exact E_sub [2, 3, 1, 0] rfl hP
theorem dX0_leastThrough_0 : decode prog_2_method_4_code 0 = .ok (.iconst 0, 1) := by decide +kernel
theorem dX0_leastThrough_1 : decode prog_2_method_4_code 1 = .ok (.istore_n 2, 1) := by decide +kernel
theorem dX0_leastThrough_2 : decode prog_2_method_4_code 2 = .ok (.iload_n 1, 1) := by decide +kernel
theorem dX0_leastThrough_3 : decode prog_2_method_4_code 3 = .ok (.iload_n 0, 1) := by decide +kernel
theorem dX0_leastThrough_4 : decode prog_2_method_4_code 4 = .ok (.invokestatic 42, 3) := by decide +kernel
theorem dX0_leastThrough_7 : decode prog_2_method_4_code 7 = .ok (.isub, 1) := by decide +kernel
theorem dX0_leastThrough_8 : decode prog_2_method_4_code 8 = .ok (.istore_n 3, 1) := by decide +kernel
theorem dX0_leastThrough_9 : decode prog_2_method_4_code 9 = .ok (.iconst 0, 1) := by decide +kernel
theorem dX0_leastThrough_10 : decode prog_2_method_4_code 10 = .ok (.istore 4, 2) := by decide +kernel
theorem dX0_leastThrough_12 : decode prog_2_method_4_code 12 = .ok (.iconst 0, 1) := by decide +kernel
theorem dX0_leastThrough_13 : decode prog_2_method_4_code 13 = .ok (.istore 5, 2) := by decide +kernel
theorem dX0_leastThrough_15 : decode prog_2_method_4_code 15 = .ok (.iload 5, 2) := by decide +kernel
theorem dX0_leastThrough_17 : decode prog_2_method_4_code 17 = .ok (.iload_n 1, 1) := by decide +kernel
theorem dX0_leastThrough_18 : decode prog_2_method_4_code 18 = .ok (.if_icmp .ge 70, 3) := by decide +kernel
theorem dX0_leastThrough_21 : decode prog_2_method_4_code 21 = .ok (.iload_n 0, 1) := by decide +kernel
theorem dX0_leastThrough_22 : decode prog_2_method_4_code 22 = .ok (.iload 5, 2) := by decide +kernel
theorem dX0_leastThrough_24 : decode prog_2_method_4_code 24 = .ok (.ishr, 1) := by decide +kernel
theorem dX0_leastThrough_25 : decode prog_2_method_4_code 25 = .ok (.iconst 1, 1) := by decide +kernel
theorem dX0_leastThrough_26 : decode prog_2_method_4_code 26 = .ok (.iand, 1) := by decide +kernel
theorem dX0_leastThrough_27 : decode prog_2_method_4_code 27 = .ok (.iconst 1, 1) := by decide +kernel
theorem dX0_leastThrough_28 : decode prog_2_method_4_code 28 = .ok (.if_icmp .ne 7, 3) := by decide +kernel
theorem dX0_leastThrough_31 : decode prog_2_method_4_code 31 = .ok (.iconst 1, 1) := by decide +kernel
theorem dX0_leastThrough_32 : decode prog_2_method_4_code 32 = .ok (.goto 4, 3) := by decide +kernel
theorem dX0_leastThrough_35 : decode prog_2_method_4_code 35 = .ok (.iconst 0, 1) := by decide +kernel
theorem dX0_leastThrough_36 : decode prog_2_method_4_code 36 = .ok (.istore 6, 2) := by decide +kernel
theorem dX0_leastThrough_38 : decode prog_2_method_4_code 38 = .ok (.bipush 10, 2) := by decide +kernel
theorem dX0_leastThrough_40 : decode prog_2_method_4_code 40 = .ok (.iload 4, 2) := by decide +kernel
theorem dX0_leastThrough_42 : decode prog_2_method_4_code 42 = .ok (.imul, 1) := by decide +kernel
theorem dX0_leastThrough_43 : decode prog_2_method_4_code 43 = .ok (.iload 6, 2) := by decide +kernel
theorem dX0_leastThrough_45 : decode prog_2_method_4_code 45 = .ok (.ifCond .eq 7, 3) := by decide +kernel
theorem dX0_leastThrough_48 : decode prog_2_method_4_code 48 = .ok (.iload_n 3, 1) := by decide +kernel
theorem dX0_leastThrough_49 : decode prog_2_method_4_code 49 = .ok (.goto 4, 3) := by decide +kernel
theorem dX0_leastThrough_52 : decode prog_2_method_4_code 52 = .ok (.iload_n 2, 1) := by decide +kernel
theorem dX0_leastThrough_53 : decode prog_2_method_4_code 53 = .ok (.iadd, 1) := by decide +kernel
theorem dX0_leastThrough_54 : decode prog_2_method_4_code 54 = .ok (.istore 4, 2) := by decide +kernel
theorem dX0_leastThrough_56 : decode prog_2_method_4_code 56 = .ok (.iload_n 3, 1) := by decide +kernel
theorem dX0_leastThrough_57 : decode prog_2_method_4_code 57 = .ok (.iload 6, 2) := by decide +kernel
theorem dX0_leastThrough_59 : decode prog_2_method_4_code 59 = .ok (.ifCond .eq 7, 3) := by decide +kernel
theorem dX0_leastThrough_62 : decode prog_2_method_4_code 62 = .ok (.iconst 1, 1) := by decide +kernel
theorem dX0_leastThrough_63 : decode prog_2_method_4_code 63 = .ok (.goto 4, 3) := by decide +kernel
theorem dX0_leastThrough_66 : decode prog_2_method_4_code 66 = .ok (.iconst 0, 1) := by decide +kernel
theorem dX0_leastThrough_67 : decode prog_2_method_4_code 67 = .ok (.iadd, 1) := by decide +kernel
theorem dX0_leastThrough_68 : decode prog_2_method_4_code 68 = .ok (.istore_n 3, 1) := by decide +kernel
theorem dX0_leastThrough_69 : decode prog_2_method_4_code 69 = .ok (.iload_n 2, 1) := by decide +kernel
theorem dX0_leastThrough_70 : decode prog_2_method_4_code 70 = .ok (.iload 6, 2) := by decide +kernel
theorem dX0_leastThrough_72 : decode prog_2_method_4_code 72 = .ok (.ifCond .eq 7, 3) := by decide +kernel
theorem dX0_leastThrough_75 : decode prog_2_method_4_code 75 = .ok (.iconst 0, 1) := by decide +kernel
theorem dX0_leastThrough_76 : decode prog_2_method_4_code 76 = .ok (.goto 4, 3) := by decide +kernel
theorem dX0_leastThrough_79 : decode prog_2_method_4_code 79 = .ok (.iconst 1, 1) := by decide +kernel
theorem dX0_leastThrough_80 : decode prog_2_method_4_code 80 = .ok (.iadd, 1) := by decide +kernel
theorem dX0_leastThrough_81 : decode prog_2_method_4_code 81 = .ok (.istore_n 2, 1) := by decide +kernel
theorem dX0_leastThrough_82 : decode prog_2_method_4_code 82 = .ok (.iinc 5 1, 3) := by decide +kernel
theorem dX0_leastThrough_85 : decode prog_2_method_4_code 85 = .ok (.goto (-70), 3) := by decide +kernel
theorem dX0_leastThrough_88 : decode prog_2_method_4_code 88 = .ok (.iload 4, 2) := by decide +kernel
theorem dX0_leastThrough_90 : decode prog_2_method_4_code 90 = .ok (.ireturn, 1) := by decide +kernel
theorem sX0_leastThrough_15 {Q : Int → Hp → Prop} {h : Hp} {l0 l1 l2 l3 l4 l5 : Int}
    (hP : ((l5 ≥ l1) →
     Q l4 h) ∧
    ((l5 < l1) →
     (rj (10 * l4)) ∧
     (rj ((10 * l4) + (if (j_iand (j_ishr l0 l5) 1) ≠ 1 then l2 else l3))) ∧
     (∀ x6 : Int, x6 = ((10 * l4) + (if (j_iand (j_ishr l0 l5) 1) ≠ 1 then l2 else l3)) →
     (rj (l3 + (if (j_iand (j_ishr l0 l5) 1) = 1 then (1 : Int) else 0))) ∧
     (∀ x9 : Int, x9 = (l3 + (if (j_iand (j_ishr l0 l5) 1) = 1 then (1 : Int) else 0)) →
     (rj (l2 + (if (j_iand (j_ishr l0 l5) 1) ≠ 1 then (1 : Int) else 0))) ∧
     (∀ x12 : Int, x12 = (l2 + (if (j_iand (j_ishr l0 l5) 1) ≠ 1 then (1 : Int) else 0)) →
     (rj (l5 + 1)) ∧
     E 1 mX0_leastThrough 15 [(0, vi l0), (1, vi l1), (2, vi x12), (3, vi x9), (4, vi x6), (5, vi (l5 + 1))] [] h (qi Q)))))) :
    E 1 mX0_leastThrough 15 [(0, vi l0), (1, vi l1), (2, vi l2), (3, vi l3), (4, vi l4), (5, vi l5)] [] h (qi Q) := by
  refine E_iload 5 dX0_leastThrough_15 rfl ?_
  refine E_iload_n 1 1 dX0_leastThrough_17 rfl rfl ?_
  refine E_icmp_ge 88 dX0_leastThrough_18 rfl (fun hc => ?_) (fun hc => ?_)
  · replace hP := hP.1 (hc)
    refine E_iload 4 dX0_leastThrough_88 rfl ?_
    exact E_retI dX0_leastThrough_90 rfl hP
  · replace hP := hP.2 (by omega)
    refine E_iload_n 0 0 dX0_leastThrough_21 rfl rfl ?_
    refine E_iload 5 dX0_leastThrough_22 rfl ?_
    refine E_ishr dX0_leastThrough_24 ?_
    refine E_iconst dX0_leastThrough_25 (rg_of rfl) ?_
    refine E_iand dX0_leastThrough_26 ?_
    refine E_iconst dX0_leastThrough_27 (rg_of rfl) ?_
    have hJ : E 1 mX0_leastThrough 36 [(0, vi l0), (1, vi l1), (2, vi l2), (3, vi l3), (4, vi l4), (5, vi l5)] [vi (if (j_iand (j_ishr l0 l5) 1) = 1 then (1 : Int) else 0)] h (qi Q) := by
      obtain ⟨v4_0, hP⟩ := hP
      refine E_istore dX0_leastThrough_36 (by decide) rfl ?_
      refine E_bipush dX0_leastThrough_38 (by decide) ?_
      refine E_iload 5 dX0_leastThrough_40 rfl ?_
      refine E_imul dX0_leastThrough_42 (rgI v4_0) ?_
      refine E_iload 0 dX0_leastThrough_43 rfl ?_
      have hJ : E 1 mX0_leastThrough 53 [(6, vi (if (j_iand (j_ishr l0 l5) 1) = 1 then (1 : Int) else 0)), (0, vi l0), (1, vi l1), (2, vi l2), (3, vi l3), (4, vi l4), (5, vi l5)] [vi (if (j_iand (j_ishr l0 l5) 1) ≠ 1 then l2 else l3), vi (10 * l4)] h (qi Q) := by
        obtain ⟨v5_0, hP⟩ := hP
        refine E_iadd dX0_leastThrough_53 (rgI v5_0) ?_
        obtain ⟨x6, hx6⟩ : ∃ x : Int, x = ((10 * l4) + (if (j_iand (j_ishr l0 l5) 1) ≠ 1 then l2 else l3)) := ⟨_, rfl⟩
        refine E_top hx6.symm ?_
        replace hP := hP x6 hx6
        refine E_istore dX0_leastThrough_54 (by decide) rfl ?_
        refine E_iload_n 5 3 dX0_leastThrough_56 rfl rfl ?_
        refine E_iload 1 dX0_leastThrough_57 rfl ?_
        have hJ : E 1 mX0_leastThrough 67 [(4, vi x6), (6, vi (if (j_iand (j_ishr l0 l5) 1) = 1 then (1 : Int) else 0)), (0, vi l0), (1, vi l1), (2, vi l2), (3, vi l3), (5, vi l5)] [vi (if (j_iand (j_ishr l0 l5) 1) = 1 then (1 : Int) else 0), vi l3] h (qi Q) := by
          obtain ⟨v8_0, hP⟩ := hP
          refine E_iadd dX0_leastThrough_67 (rgI v8_0) ?_
          obtain ⟨x9, hx9⟩ : ∃ x : Int, x = (l3 + (if (j_iand (j_ishr l0 l5) 1) = 1 then (1 : Int) else 0)) := ⟨_, rfl⟩
          refine E_top hx9.symm ?_
          replace hP := hP x9 hx9
          refine E_istore_n dX0_leastThrough_68 rfl (by decide) rfl ?_
          refine E_iload_n 5 2 dX0_leastThrough_69 rfl rfl ?_
          refine E_iload 2 dX0_leastThrough_70 rfl ?_
          have hJ : E 1 mX0_leastThrough 80 [(3, vi x9), (4, vi x6), (6, vi (if (j_iand (j_ishr l0 l5) 1) = 1 then (1 : Int) else 0)), (0, vi l0), (1, vi l1), (2, vi l2), (5, vi l5)] [vi (if (j_iand (j_ishr l0 l5) 1) ≠ 1 then (1 : Int) else 0), vi l2] h (qi Q) := by
            obtain ⟨v11_0, hP⟩ := hP
            refine E_iadd dX0_leastThrough_80 (rgI v11_0) ?_
            obtain ⟨x12, hx12⟩ : ∃ x : Int, x = (l2 + (if (j_iand (j_ishr l0 l5) 1) ≠ 1 then (1 : Int) else 0)) := ⟨_, rfl⟩
            refine E_top hx12.symm ?_
            replace hP := hP x12 hx12
            refine E_istore_n dX0_leastThrough_81 rfl (by decide) rfl ?_
            obtain ⟨v13_0, hP⟩ := hP
            refine E_iinc 6 dX0_leastThrough_82 rfl (rgI v13_0) (by decide) rfl ?_
            refine E_goto 15 dX0_leastThrough_85 rfl ?_
            exact E_sub [5, 6, 1, 2, 3, 0] rfl hP
          refine E_if_eq 79 dX0_leastThrough_72 rfl (fun hc => ?_) (fun hc => ?_)
          · have hp72 := (by have := ite0 hc; omega : (j_iand (j_ishr l0 l5) 1) ≠ 1)
            refine E_iconst dX0_leastThrough_79 (rg_of rfl) ?_
            exact E_top (if_pos (by omega)).symm hJ
          · have hp72 := (by have := ite1 hc; omega : (j_iand (j_ishr l0 l5) 1) = 1)
            refine E_iconst dX0_leastThrough_75 (rg_of rfl) ?_
            refine E_goto 80 dX0_leastThrough_76 rfl ?_
            exact E_top (if_neg (by omega)).symm hJ
        refine E_if_eq 66 dX0_leastThrough_59 rfl (fun hc => ?_) (fun hc => ?_)
        · have hp59 := (by have := ite0 hc; omega : (j_iand (j_ishr l0 l5) 1) ≠ 1)
          refine E_iconst dX0_leastThrough_66 (rg_of rfl) ?_
          exact E_top (if_neg (by omega)).symm hJ
        · have hp59 := (by have := ite1 hc; omega : (j_iand (j_ishr l0 l5) 1) = 1)
          refine E_iconst dX0_leastThrough_62 (rg_of rfl) ?_
          refine E_goto 67 dX0_leastThrough_63 rfl ?_
          exact E_top (if_pos (by omega)).symm hJ
      refine E_if_eq 52 dX0_leastThrough_45 rfl (fun hc => ?_) (fun hc => ?_)
      · have hp45 := (by have := ite0 hc; omega : (j_iand (j_ishr l0 l5) 1) ≠ 1)
        refine E_iload_n 3 2 dX0_leastThrough_52 rfl rfl ?_
        exact E_top (by first | exact (if_pos (by omega)).symm | exact (if_neg (by omega)).symm | (repeat first | rw [if_pos (by omega)] | rw [if_neg (by omega)])) hJ
      · have hp45 := (by have := ite1 hc; omega : (j_iand (j_ishr l0 l5) 1) = 1)
        refine E_iload_n 4 3 dX0_leastThrough_48 rfl rfl ?_
        refine E_goto 53 dX0_leastThrough_49 rfl ?_
        exact E_top (by first | exact (if_pos (by omega)).symm | exact (if_neg (by omega)).symm | (repeat first | rw [if_pos (by omega)] | rw [if_neg (by omega)])) hJ
    refine E_icmp_ne 35 dX0_leastThrough_28 rfl (fun hc => ?_) (fun hc => ?_)
    · have hp28 := (hc : (j_iand (j_ishr l0 l5) 1) ≠ 1)
      refine E_iconst dX0_leastThrough_35 (rg_of rfl) ?_
      exact E_top (if_neg (by omega)).symm hJ
    · have hp28 := (by omega : (j_iand (j_ishr l0 l5) 1) = 1)
      refine E_iconst dX0_leastThrough_31 (rg_of rfl) ?_
      refine E_goto 36 dX0_leastThrough_32 rfl ?_
      exact E_top (if_pos (by omega)).symm hJ
theorem sX0_leastThrough {Q : Int → Hp → Prop} {h : Hp} {l0 l1 : Int}
    (hP : CI 0 mJ6_bitCount_0f7a4 [vi l0] h (fun r3 h2 =>
     (rj (l1 - r3)) ∧
     E 1 mX0_leastThrough 15 [(0, vi l0), (1, vi l1), (2, vi 0), (3, vi (l1 - r3)), (4, vi 0), (5, vi 0)] [] h2 (qi Q))) :
    CI 1 mX0_leastThrough [vi l0, vi l1] h Q := by
  refine CI_of_E fX0_leastThrough.1 rfl (Nat.le_of_ble_eq_true rfl) ?_
  show E 1 mX0_leastThrough 0 [(0, vi l0), (1, vi l1)] [] h (qi Q)
  refine E_iconst dX0_leastThrough_0 (rg_of rfl) ?_
  refine E_istore_n dX0_leastThrough_1 rfl (by decide) rfl ?_
  refine E_iload_n 2 1 dX0_leastThrough_2 rfl rfl ?_
  refine E_iload_n 1 0 dX0_leastThrough_3 rfl rfl ?_
  refine E_invSI [vi l0] dX0_leastThrough_4 fJ6_bitCount_0f7a4 lX0_42 (by decide) rfl rfl (Nat.le_of_ble_eq_true rfl) (CI_mono hP (fun r3 h2 hP => ?_))
  obtain ⟨v4_0, hP⟩ := hP
  refine E_isub dX0_leastThrough_7 (rgI v4_0) ?_
  refine E_istore_n dX0_leastThrough_8 rfl (by decide) rfl ?_
  refine E_iconst dX0_leastThrough_9 (rg_of rfl) ?_
  refine E_istore dX0_leastThrough_10 (by decide) rfl ?_
  refine E_iconst dX0_leastThrough_12 (rg_of rfl) ?_
  refine E_istore dX0_leastThrough_13 (by decide) rfl ?_
  exact E_sub [4, 5, 3, 2, 1, 0] rfl hP
theorem dX0_leastWithFailure_0 : decode prog_2_method_3_code 0 = .ok (.bipush (-4), 2) := by decide +kernel
theorem dX0_leastWithFailure_2 : decode prog_2_method_3_code 2 = .ok (.istore_n 2, 1) := by decide +kernel
theorem dX0_leastWithFailure_3 : decode prog_2_method_3_code 3 = .ok (.iconst 0, 1) := by decide +kernel
theorem dX0_leastWithFailure_4 : decode prog_2_method_3_code 4 = .ok (.istore_n 3, 1) := by decide +kernel
theorem dX0_leastWithFailure_5 : decode prog_2_method_3_code 5 = .ok (.iload_n 3, 1) := by decide +kernel
theorem dX0_leastWithFailure_6 : decode prog_2_method_3_code 6 = .ok (.iconst 1, 1) := by decide +kernel
theorem dX0_leastWithFailure_7 : decode prog_2_method_3_code 7 = .ok (.aload_n 1, 1) := by decide +kernel
theorem dX0_leastWithFailure_8 : decode prog_2_method_3_code 8 = .ok (.getfield 19, 3) := by decide +kernel
theorem dX0_leastWithFailure_11 : decode prog_2_method_3_code 11 = .ok (.ishl, 1) := by decide +kernel
theorem dX0_leastWithFailure_12 : decode prog_2_method_3_code 12 = .ok (.if_icmp .ge 52, 3) := by decide +kernel
theorem dX0_leastWithFailure_15 : decode prog_2_method_3_code 15 = .ok (.aload_n 1, 1) := by decide +kernel
theorem dX0_leastWithFailure_16 : decode prog_2_method_3_code 16 = .ok (.iload_n 3, 1) := by decide +kernel
theorem dX0_leastWithFailure_17 : decode prog_2_method_3_code 17 = .ok (.invokevirtual 25, 3) := by decide +kernel
theorem dX0_leastWithFailure_20 : decode prog_2_method_3_code 20 = .ok (.aload_n 1, 1) := by decide +kernel
theorem dX0_leastWithFailure_21 : decode prog_2_method_3_code 21 = .ok (.getfield 19, 3) := by decide +kernel
theorem dX0_leastWithFailure_24 : decode prog_2_method_3_code 24 = .ok (.invokestatic 29, 3) := by decide +kernel
theorem dX0_leastWithFailure_27 : decode prog_2_method_3_code 27 = .ok (.ifCond .ne 31, 3) := by decide +kernel
theorem dX0_leastWithFailure_30 : decode prog_2_method_3_code 30 = .ok (.iload_n 3, 1) := by decide +kernel
theorem dX0_leastWithFailure_31 : decode prog_2_method_3_code 31 = .ok (.aload_n 1, 1) := by decide +kernel
theorem dX0_leastWithFailure_32 : decode prog_2_method_3_code 32 = .ok (.getfield 19, 3) := by decide +kernel
theorem dX0_leastWithFailure_35 : decode prog_2_method_3_code 35 = .ok (.invokestatic 33, 3) := by decide +kernel
theorem dX0_leastWithFailure_38 : decode prog_2_method_3_code 38 = .ok (.istore 4, 2) := by decide +kernel
theorem dX0_leastWithFailure_40 : decode prog_2_method_3_code 40 = .ok (.iload_n 2, 1) := by decide +kernel
theorem dX0_leastWithFailure_41 : decode prog_2_method_3_code 41 = .ok (.bipush (-4), 2) := by decide +kernel
theorem dX0_leastWithFailure_43 : decode prog_2_method_3_code 43 = .ok (.if_icmp .ne 8, 3) := by decide +kernel
theorem dX0_leastWithFailure_46 : decode prog_2_method_3_code 46 = .ok (.iload 4, 2) := by decide +kernel
theorem dX0_leastWithFailure_48 : decode prog_2_method_3_code 48 = .ok (.goto 9, 3) := by decide +kernel
theorem dX0_leastWithFailure_51 : decode prog_2_method_3_code 51 = .ok (.iload_n 2, 1) := by decide +kernel
theorem dX0_leastWithFailure_52 : decode prog_2_method_3_code 52 = .ok (.iload 4, 2) := by decide +kernel
theorem dX0_leastWithFailure_54 : decode prog_2_method_3_code 54 = .ok (.invokestatic 37, 3) := by decide +kernel
theorem dX0_leastWithFailure_57 : decode prog_2_method_3_code 57 = .ok (.istore_n 2, 1) := by decide +kernel
theorem dX0_leastWithFailure_58 : decode prog_2_method_3_code 58 = .ok (.iinc 3 1, 3) := by decide +kernel
theorem dX0_leastWithFailure_61 : decode prog_2_method_3_code 61 = .ok (.goto (-56), 3) := by decide +kernel
theorem dX0_leastWithFailure_64 : decode prog_2_method_3_code 64 = .ok (.iload_n 2, 1) := by decide +kernel
theorem dX0_leastWithFailure_65 : decode prog_2_method_3_code 65 = .ok (.ireturn, 1) := by decide +kernel
theorem sX0_leastWithFailure_5 {Q : Int → Hp → Prop} {h : Hp} {l2 l3 : Int}
    (hP : ((l3 ≥ (j_ishl 1 (h 83 1))) →
     Q l2 h) ∧
    ((l3 < (j_ishl 1 (h 83 1))) →
     CI 1 mX7_outputFor [vr 83, vi l3] h (fun r5 h4 =>
      CI 0 mX10_isSorted [vi r5, vi (h4 83 1)] h4 (fun r8 h7 =>
       ((r8 ≠ 0) →
        (rj (l3 + 1)) ∧
        E 2 mX0_leastWithFailure 5 [(1, vr 83), (2, vi l2), (3, vi (l3 + 1))] [] h7 (qi Q)) ∧
       ((r8 = 0) →
        CI 1 mX0_leastThrough [vi l3, vi (h7 83 1)] h7 (fun r13 h12 =>
         (∀ x16 : Int, x16 = (if l2 ≠ (-4) then (if l2 > r13 then r13 else l2) else r13) →
         (rj (l3 + 1)) ∧
         E 2 mX0_leastWithFailure 5 [(1, vr 83), (2, vi x16), (3, vi (l3 + 1))] [] h12 (qi Q)))))))) :
    E 2 mX0_leastWithFailure 5 [(1, vr 83), (2, vi l2), (3, vi l3)] [] h (qi Q) := by
  refine E_iload_n 2 3 dX0_leastWithFailure_5 rfl rfl ?_
  refine E_iconst dX0_leastWithFailure_6 (rg_of rfl) ?_
  refine E_aload_n 0 1 dX0_leastWithFailure_7 rfl rfl ?_
  refine E_gI 1 1 dX0_leastWithFailure_8 FX0_19 ic_83 rfl ?_
  refine E_ishl dX0_leastWithFailure_11 ?_
  refine E_icmp_ge 64 dX0_leastWithFailure_12 rfl (fun hc => ?_) (fun hc => ?_)
  · replace hP := hP.1 (hc)
    refine E_iload_n 1 2 dX0_leastWithFailure_64 rfl rfl ?_
    exact E_retI dX0_leastWithFailure_65 rfl hP
  · replace hP := hP.2 (by omega)
    refine E_aload_n 0 1 dX0_leastWithFailure_15 rfl rfl ?_
    refine E_iload_n 2 3 dX0_leastWithFailure_16 rfl rfl ?_
    refine E_invVI [vi l3] dX0_leastWithFailure_17 fX7_outputFor lX0_25 ic_83 rfl (by decide) rfl rfl (Nat.le_of_ble_eq_true rfl) (CI_mono hP (fun r5 h4 hP => ?_))
    refine E_aload_n 0 1 dX0_leastWithFailure_20 rfl rfl ?_
    refine E_gI 1 1 dX0_leastWithFailure_21 FX0_19 ic_83 rfl ?_
    refine E_invNI [vi r5, vi (h4 83 1)] dX0_leastWithFailure_24 fX10_isSorted nX0_29 (by decide) rfl rfl (Nat.le_of_ble_eq_true rfl) (CI_mono hP (fun r8 h7 hP => ?_))
    refine E_if_ne 58 dX0_leastWithFailure_27 rfl (fun hc => ?_) (fun hc => ?_)
    · replace hP := hP.1 (hc)
      obtain ⟨v10_0, hP⟩ := hP
      refine E_iinc 2 dX0_leastWithFailure_58 rfl (rgI v10_0) (by decide) rfl ?_
      refine E_goto 5 dX0_leastWithFailure_61 rfl ?_
      exact E_sub [1, 2, 0] rfl hP
    · replace hP := hP.2 (by omega)
      refine E_iload_n 2 3 dX0_leastWithFailure_30 rfl rfl ?_
      refine E_aload_n 0 1 dX0_leastWithFailure_31 rfl rfl ?_
      refine E_gI 1 1 dX0_leastWithFailure_32 FX0_19 ic_83 rfl ?_
      refine E_invSI [vi l3, vi (h7 83 1)] dX0_leastWithFailure_35 fX0_leastThrough lX0_33 (by decide) rfl rfl (Nat.le_of_ble_eq_true rfl) (CI_mono hP (fun r13 h12 hP => ?_))
      refine E_istore dX0_leastWithFailure_38 (by decide) rfl ?_
      refine E_iload_n 2 2 dX0_leastWithFailure_40 rfl rfl ?_
      refine E_bipush dX0_leastWithFailure_41 (by decide) ?_
      have hJ : E 2 mX0_leastWithFailure 57 [(4, vi r13), (1, vr 83), (2, vi l2), (3, vi l3)] [vi (if l2 ≠ (-4) then (if l2 > r13 then r13 else l2) else r13)] h12 (qi Q) := by
        obtain ⟨x16, hx16⟩ : ∃ x : Int, x = (if l2 ≠ (-4) then (if l2 > r13 then r13 else l2) else r13) := ⟨_, rfl⟩
        refine E_top hx16.symm ?_
        replace hP := hP x16 hx16
        refine E_istore_n dX0_leastWithFailure_57 rfl (by decide) rfl ?_
        obtain ⟨v17_0, hP⟩ := hP
        refine E_iinc 3 dX0_leastWithFailure_58 rfl (rgI v17_0) (by decide) rfl ?_
        refine E_goto 5 dX0_leastWithFailure_61 rfl ?_
        exact E_sub [3, 1, 0] rfl hP
      refine E_icmp_ne 51 dX0_leastWithFailure_43 rfl (fun hc => ?_) (fun hc => ?_)
      · have hp43 := (hc : l2 ≠ (-4))
        refine E_iload_n 2 2 dX0_leastWithFailure_51 rfl rfl ?_
        refine E_iload 0 dX0_leastWithFailure_52 rfl ?_
        refine E_mmin dX0_leastWithFailure_54 lX0_37m (by decide) (Nat.le_of_ble_eq_true rfl) ?_
        exact E_top (by first | exact (if_pos (by omega)).symm | exact (if_neg (by omega)).symm | (repeat first | rw [if_pos (by omega)] | rw [if_neg (by omega)])) hJ
      · have hp43 := (by omega : l2 = (-4))
        refine E_iload 0 dX0_leastWithFailure_46 rfl ?_
        refine E_goto 57 dX0_leastWithFailure_48 rfl ?_
        exact E_top (by first | exact (if_pos (by omega)).symm | exact (if_neg (by omega)).symm | (repeat first | rw [if_pos (by omega)] | rw [if_neg (by omega)])) hJ
theorem sX0_leastWithFailure {Q : Int → Hp → Prop} {h : Hp}
    (hP : E 2 mX0_leastWithFailure 5 [(1, vr 83), (2, vi (-4)), (3, vi 0)] [] h (qi Q)) :
    CI 2 mX0_leastWithFailure [vr 97, vr 83] h Q := by
  refine CI_of_E fX0_leastWithFailure.1 rfl (Nat.le_of_ble_eq_true rfl) ?_
  show E 2 mX0_leastWithFailure 0 [(0, vr 97), (1, vr 83)] [] h (qi Q)
  refine E_bipush dX0_leastWithFailure_0 (by decide) ?_
  refine E_istore_n dX0_leastWithFailure_2 rfl (by decide) rfl ?_
  refine E_iconst dX0_leastWithFailure_3 (rg_of rfl) ?_
  refine E_istore_n dX0_leastWithFailure_4 rfl (by decide) rfl ?_
  exact E_sub [3, 1, 0] rfl hP
theorem dX10_exchanged_0 : decode prog_1_method_55_code 0 = .ok (.iload_n 0, 1) := by decide +kernel
theorem dX10_exchanged_1 : decode prog_1_method_55_code 1 = .ok (.iload_n 1, 1) := by decide +kernel
theorem dX10_exchanged_2 : decode prog_1_method_55_code 2 = .ok (.ishr, 1) := by decide +kernel
theorem dX10_exchanged_3 : decode prog_1_method_55_code 3 = .ok (.iconst 1, 1) := by decide +kernel
theorem dX10_exchanged_4 : decode prog_1_method_55_code 4 = .ok (.iand, 1) := by decide +kernel
theorem dX10_exchanged_5 : decode prog_1_method_55_code 5 = .ok (.iload_n 0, 1) := by decide +kernel
theorem dX10_exchanged_6 : decode prog_1_method_55_code 6 = .ok (.iload_n 2, 1) := by decide +kernel
theorem dX10_exchanged_7 : decode prog_1_method_55_code 7 = .ok (.ishr, 1) := by decide +kernel
theorem dX10_exchanged_8 : decode prog_1_method_55_code 8 = .ok (.iconst 1, 1) := by decide +kernel
theorem dX10_exchanged_9 : decode prog_1_method_55_code 9 = .ok (.iand, 1) := by decide +kernel
theorem dX10_exchanged_10 : decode prog_1_method_55_code 10 = .ok (.if_icmp .le 7, 3) := by decide +kernel
theorem dX10_exchanged_13 : decode prog_1_method_55_code 13 = .ok (.iconst 1, 1) := by decide +kernel
theorem dX10_exchanged_14 : decode prog_1_method_55_code 14 = .ok (.goto 4, 3) := by decide +kernel
theorem dX10_exchanged_17 : decode prog_1_method_55_code 17 = .ok (.iconst 0, 1) := by decide +kernel
theorem dX10_exchanged_18 : decode prog_1_method_55_code 18 = .ok (.istore_n 3, 1) := by decide +kernel
theorem dX10_exchanged_19 : decode prog_1_method_55_code 19 = .ok (.iload_n 3, 1) := by decide +kernel
theorem dX10_exchanged_20 : decode prog_1_method_55_code 20 = .ok (.ifCond .eq 15, 3) := by decide +kernel
theorem dX10_exchanged_23 : decode prog_1_method_55_code 23 = .ok (.iload_n 0, 1) := by decide +kernel
theorem dX10_exchanged_24 : decode prog_1_method_55_code 24 = .ok (.iconst 1, 1) := by decide +kernel
theorem dX10_exchanged_25 : decode prog_1_method_55_code 25 = .ok (.iload_n 1, 1) := by decide +kernel
theorem dX10_exchanged_26 : decode prog_1_method_55_code 26 = .ok (.ishl, 1) := by decide +kernel
theorem dX10_exchanged_27 : decode prog_1_method_55_code 27 = .ok (.iconst 1, 1) := by decide +kernel
theorem dX10_exchanged_28 : decode prog_1_method_55_code 28 = .ok (.iload_n 2, 1) := by decide +kernel
theorem dX10_exchanged_29 : decode prog_1_method_55_code 29 = .ok (.ishl, 1) := by decide +kernel
theorem dX10_exchanged_30 : decode prog_1_method_55_code 30 = .ok (.ior, 1) := by decide +kernel
theorem dX10_exchanged_31 : decode prog_1_method_55_code 31 = .ok (.ixor, 1) := by decide +kernel
theorem dX10_exchanged_32 : decode prog_1_method_55_code 32 = .ok (.goto 4, 3) := by decide +kernel
theorem dX10_exchanged_35 : decode prog_1_method_55_code 35 = .ok (.iload_n 0, 1) := by decide +kernel
theorem dX10_exchanged_36 : decode prog_1_method_55_code 36 = .ok (.ireturn, 1) := by decide +kernel
theorem sX10_exchanged {Q : Int → Hp → Prop} {h : Hp} {l0 l1 l2 : Int}
    (hP : Q (if (j_iand (j_ishr l0 l1) 1) ≤ (j_iand (j_ishr l0 l2) 1) then l0 else (j_ixor l0 (j_ior (j_ishl 1 l1) (j_ishl 1 l2)))) h) :
    CI 0 mX10_exchanged [vi l0, vi l1, vi l2] h Q := by
  refine CI_of_E fX10_exchanged.1 rfl (Nat.le_of_ble_eq_true rfl) ?_
  show E 0 mX10_exchanged 0 [(0, vi l0), (1, vi l1), (2, vi l2)] [] h (qi Q)
  refine E_iload_n 0 0 dX10_exchanged_0 rfl rfl ?_
  refine E_iload_n 1 1 dX10_exchanged_1 rfl rfl ?_
  refine E_ishr dX10_exchanged_2 ?_
  refine E_iconst dX10_exchanged_3 (rg_of rfl) ?_
  refine E_iand dX10_exchanged_4 ?_
  refine E_iload_n 0 0 dX10_exchanged_5 rfl rfl ?_
  refine E_iload_n 2 2 dX10_exchanged_6 rfl rfl ?_
  refine E_ishr dX10_exchanged_7 ?_
  refine E_iconst dX10_exchanged_8 (rg_of rfl) ?_
  refine E_iand dX10_exchanged_9 ?_
  have hJ : E 0 mX10_exchanged 18 [(0, vi l0), (1, vi l1), (2, vi l2)] [vi (if (j_iand (j_ishr l0 l1) 1) > (j_iand (j_ishr l0 l2) 1) then (1 : Int) else 0)] h (qi Q) := by
    refine E_istore_n dX10_exchanged_18 rfl (by decide) rfl ?_
    refine E_iload_n 0 3 dX10_exchanged_19 rfl rfl ?_
    have hJ : E 0 mX10_exchanged 36 [(3, vi (if (j_iand (j_ishr l0 l1) 1) > (j_iand (j_ishr l0 l2) 1) then (1 : Int) else 0)), (0, vi l0), (1, vi l1), (2, vi l2)] [vi (if (j_iand (j_ishr l0 l1) 1) ≤ (j_iand (j_ishr l0 l2) 1) then l0 else (j_ixor l0 (j_ior (j_ishl 1 l1) (j_ishl 1 l2))))] h (qi Q) := by
      exact E_retI dX10_exchanged_36 rfl hP
    refine E_if_eq 35 dX10_exchanged_20 rfl (fun hc => ?_) (fun hc => ?_)
    · have hp20 := (by have := ite0 hc; omega : (j_iand (j_ishr l0 l1) 1) ≤ (j_iand (j_ishr l0 l2) 1))
      refine E_iload_n 1 0 dX10_exchanged_35 rfl rfl ?_
      exact E_top (by first | exact (if_pos (by omega)).symm | exact (if_neg (by omega)).symm | (repeat first | rw [if_pos (by omega)] | rw [if_neg (by omega)])) hJ
    · have hp20 := (by have := ite1 hc; omega : (j_iand (j_ishr l0 l1) 1) > (j_iand (j_ishr l0 l2) 1))
      refine E_iload_n 1 0 dX10_exchanged_23 rfl rfl ?_
      refine E_iconst dX10_exchanged_24 (rg_of rfl) ?_
      refine E_iload_n 2 1 dX10_exchanged_25 rfl rfl ?_
      refine E_ishl dX10_exchanged_26 ?_
      refine E_iconst dX10_exchanged_27 (rg_of rfl) ?_
      refine E_iload_n 3 2 dX10_exchanged_28 rfl rfl ?_
      refine E_ishl dX10_exchanged_29 ?_
      refine E_ior dX10_exchanged_30 ?_
      refine E_ixor dX10_exchanged_31 ?_
      refine E_goto 36 dX10_exchanged_32 rfl ?_
      exact E_top (by first | exact (if_pos (by omega)).symm | exact (if_neg (by omega)).symm | (repeat first | rw [if_pos (by omega)] | rw [if_neg (by omega)])) hJ
  refine E_icmp_le 17 dX10_exchanged_10 rfl (fun hc => ?_) (fun hc => ?_)
  · have hp10 := (hc : (j_iand (j_ishr l0 l1) 1) ≤ (j_iand (j_ishr l0 l2) 1))
    refine E_iconst dX10_exchanged_17 (rg_of rfl) ?_
    exact E_top (if_neg (by omega)).symm hJ
  · have hp10 := (by omega : (j_iand (j_ishr l0 l1) 1) > (j_iand (j_ishr l0 l2) 1))
    refine E_iconst dX10_exchanged_13 (rg_of rfl) ?_
    refine E_goto 18 dX10_exchanged_14 rfl ?_
    exact E_top (if_pos (by omega)).symm hJ
theorem dX3_exchangesFor_0 : decode prog_5_method_17_code 0 = .ok (.iload_n 1, 1) := by decide +kernel
theorem dX3_exchangesFor_1 : decode prog_5_method_17_code 1 = .ok (.istore_n 2, 1) := by decide +kernel
theorem dX3_exchangesFor_2 : decode prog_5_method_17_code 2 = .ok (.lconst 0, 1) := by decide +kernel
theorem dX3_exchangesFor_3 : decode prog_5_method_17_code 3 = .ok (.lstore_n 3, 1) := by decide +kernel
theorem dX3_exchangesFor_4 : decode prog_5_method_17_code 4 = .ok (.iconst 0, 1) := by decide +kernel
theorem dX3_exchangesFor_5 : decode prog_5_method_17_code 5 = .ok (.istore 5, 2) := by decide +kernel
theorem dX3_exchangesFor_7 : decode prog_5_method_17_code 7 = .ok (.iload 5, 2) := by decide +kernel
theorem dX3_exchangesFor_9 : decode prog_5_method_17_code 9 = .ok (.aload_n 0, 1) := by decide +kernel
theorem dX3_exchangesFor_10 : decode prog_5_method_17_code 10 = .ok (.getfield 15, 3) := by decide +kernel
theorem dX3_exchangesFor_13 : decode prog_5_method_17_code 13 = .ok (.if_icmp .ge 45, 3) := by decide +kernel
theorem dX3_exchangesFor_16 : decode prog_5_method_17_code 16 = .ok (.iload_n 2, 1) := by decide +kernel
theorem dX3_exchangesFor_17 : decode prog_5_method_17_code 17 = .ok (.aload_n 0, 1) := by decide +kernel
theorem dX3_exchangesFor_18 : decode prog_5_method_17_code 18 = .ok (.getfield 18, 3) := by decide +kernel
theorem dX3_exchangesFor_21 : decode prog_5_method_17_code 21 = .ok (.iload 5, 2) := by decide +kernel
theorem dX3_exchangesFor_23 : decode prog_5_method_17_code 23 = .ok (.iaload, 1) := by decide +kernel
theorem dX3_exchangesFor_24 : decode prog_5_method_17_code 24 = .ok (.aload_n 0, 1) := by decide +kernel
theorem dX3_exchangesFor_25 : decode prog_5_method_17_code 25 = .ok (.getfield 22, 3) := by decide +kernel
theorem dX3_exchangesFor_28 : decode prog_5_method_17_code 28 = .ok (.iload 5, 2) := by decide +kernel
theorem dX3_exchangesFor_30 : decode prog_5_method_17_code 30 = .ok (.iaload, 1) := by decide +kernel
theorem dX3_exchangesFor_31 : decode prog_5_method_17_code 31 = .ok (.invokestatic 64, 3) := by decide +kernel
theorem dX3_exchangesFor_34 : decode prog_5_method_17_code 34 = .ok (.istore 6, 2) := by decide +kernel
theorem dX3_exchangesFor_36 : decode prog_5_method_17_code 36 = .ok (.iload 6, 2) := by decide +kernel
theorem dX3_exchangesFor_38 : decode prog_5_method_17_code 38 = .ok (.iload_n 2, 1) := by decide +kernel
theorem dX3_exchangesFor_39 : decode prog_5_method_17_code 39 = .ok (.if_icmp .eq 10, 3) := by decide +kernel
theorem dX3_exchangesFor_42 : decode prog_5_method_17_code 42 = .ok (.lload_n 3, 1) := by decide +kernel
theorem dX3_exchangesFor_43 : decode prog_5_method_17_code 43 = .ok (.lconst 1, 1) := by decide +kernel
theorem dX3_exchangesFor_44 : decode prog_5_method_17_code 44 = .ok (.iload 5, 2) := by decide +kernel
theorem dX3_exchangesFor_46 : decode prog_5_method_17_code 46 = .ok (.lshl, 1) := by decide +kernel
theorem dX3_exchangesFor_47 : decode prog_5_method_17_code 47 = .ok (.lor, 1) := by decide +kernel
theorem dX3_exchangesFor_48 : decode prog_5_method_17_code 48 = .ok (.lstore_n 3, 1) := by decide +kernel
theorem dX3_exchangesFor_49 : decode prog_5_method_17_code 49 = .ok (.iload 6, 2) := by decide +kernel
theorem dX3_exchangesFor_51 : decode prog_5_method_17_code 51 = .ok (.istore_n 2, 1) := by decide +kernel
theorem dX3_exchangesFor_52 : decode prog_5_method_17_code 52 = .ok (.iinc 5 1, 3) := by decide +kernel
theorem dX3_exchangesFor_55 : decode prog_5_method_17_code 55 = .ok (.goto (-48), 3) := by decide +kernel
theorem dX3_exchangesFor_58 : decode prog_5_method_17_code 58 = .ok (.lload_n 3, 1) := by decide +kernel
theorem dX3_exchangesFor_59 : decode prog_5_method_17_code 59 = .ok (.lreturn, 1) := by decide +kernel
theorem sX3_exchangesFor_7 {Q : Int → Hp → Prop} {h : Hp} {a0 l2 l3 l5 : Int}
    (hP : (nA a0) ∧
    ((l5 ≥ (h a0 1)) →
     Q l3 h) ∧
    ((l5 < (h a0 1)) →
     (nA a0 ∧ ix l5 40) ∧
     (∀ x4 : Int, x4 = (if (j_iand (j_ishr l2 (h (a0 + 1) l5)) 1) ≤ (j_iand (j_ishr l2 (h (a0 + 2) l5)) 1) then l2 else (j_ixor l2 (j_ior (j_ishl 1 (h (a0 + 1) l5)) (j_ishl 1 (h (a0 + 2) l5))))) →
     ((x4 = l2) →
      (rj (l5 + 1)) ∧
      E 1 mX3_exchangesFor 7 [(0, vr a0), (2, vi x4), (3, vl l3), (5, vi (l5 + 1))] [] h (ql Q)) ∧
     ((x4 ≠ l2) →
      (rj (l5 + 1)) ∧
      E 1 mX3_exchangesFor 7 [(0, vr a0), (2, vi x4), (3, vl (j_lor l3 (j_lshl 1 l5))), (5, vi (l5 + 1))] [] h (ql Q))))) :
    E 1 mX3_exchangesFor 7 [(0, vr a0), (2, vi l2), (3, vl l3), (5, vi l5)] [] h (ql Q) := by
  obtain ⟨v1_0, hP⟩ := hP
  refine E_iload 3 dX3_exchangesFor_7 rfl ?_
  refine E_aload_n 0 0 dX3_exchangesFor_9 rfl rfl ?_
  refine E_gI 1 1 dX3_exchangesFor_10 FX3_15 (icN0 v1_0) rfl ?_
  refine E_icmp_ge 58 dX3_exchangesFor_13 rfl (fun hc => ?_) (fun hc => ?_)
  · replace hP := hP.1 (hc)
    refine E_lload_n 2 3 dX3_exchangesFor_58 rfl rfl ?_
    exact E_retL dX3_exchangesFor_59 rfl hP
  · replace hP := hP.2 (by omega)
    obtain ⟨⟨v3_0, v3_1⟩, hP⟩ := hP
    refine E_iload_n 1 2 dX3_exchangesFor_16 rfl rfl ?_
    refine E_aload_n 0 0 dX3_exchangesFor_17 rfl rfl ?_
    refine E_gR (a0 + 1) 2 dX3_exchangesFor_18 FX3_18 (icN0 v3_0) (rfN2 v3_0) ?_
    refine E_iload 3 dX3_exchangesFor_21 rfl ?_
    refine E_iaload dX3_exchangesFor_23 (icN1 v3_0) v3_1.1 v3_1.2 ?_
    refine E_aload_n 0 0 dX3_exchangesFor_24 rfl rfl ?_
    refine E_gR (a0 + 2) 3 dX3_exchangesFor_25 FX3_22 (icN0 v3_0) (rfN3 v3_0) ?_
    refine E_iload 3 dX3_exchangesFor_28 rfl ?_
    refine E_iaload dX3_exchangesFor_30 (icN2 v3_0) v3_1.1 v3_1.2 ?_
    refine E_invNI [vi l2, vi (h (a0 + 1) l5), vi (h (a0 + 2) l5)] dX3_exchangesFor_31 fX10_exchanged nX3_64 (by decide) rfl rfl (Nat.le_of_ble_eq_true rfl) (sX10_exchanged (h := h) (l0 := l2) (l1 := (h (a0 + 1) l5)) (l2 := (h (a0 + 2) l5)) ?_)
    obtain ⟨x4, hx4⟩ : ∃ x : Int, x = (if (j_iand (j_ishr l2 (h (a0 + 1) l5)) 1) ≤ (j_iand (j_ishr l2 (h (a0 + 2) l5)) 1) then l2 else (j_ixor l2 (j_ior (j_ishl 1 (h (a0 + 1) l5)) (j_ishl 1 (h (a0 + 2) l5))))) := ⟨_, rfl⟩
    refine E_top hx4.symm ?_
    replace hP := hP x4 hx4
    refine E_istore dX3_exchangesFor_34 (by decide) rfl ?_
    refine E_iload 0 dX3_exchangesFor_36 rfl ?_
    refine E_iload_n 2 2 dX3_exchangesFor_38 rfl rfl ?_
    refine E_icmp_eq 49 dX3_exchangesFor_39 rfl (fun hc => ?_) (fun hc => ?_)
    · replace hP := hP.1 (hc)
      obtain ⟨v6_0, hP⟩ := hP
      refine E_iload 0 dX3_exchangesFor_49 rfl ?_
      refine E_istore_n dX3_exchangesFor_51 rfl (by decide) rfl ?_
      refine E_iinc 4 dX3_exchangesFor_52 rfl (rgI v6_0) (by decide) rfl ?_
      refine E_goto 7 dX3_exchangesFor_55 rfl ?_
      exact E_sub [3, 1, 4, 0] rfl hP
    · replace hP := hP.2 (by omega)
      obtain ⟨v7_0, hP⟩ := hP
      refine E_lload_n 3 3 dX3_exchangesFor_42 rfl rfl ?_
      refine E_lc 1 dX3_exchangesFor_43 rfl ?_
      refine E_iload 4 dX3_exchangesFor_44 rfl ?_
      refine E_lshl dX3_exchangesFor_46 ?_
      refine E_lor dX3_exchangesFor_47 ?_
      refine E_lstore_n dX3_exchangesFor_48 rfl (by decide) rfl ?_
      refine E_iload 1 dX3_exchangesFor_49 rfl ?_
      refine E_istore_n dX3_exchangesFor_51 rfl (by decide) rfl ?_
      refine E_iinc 4 dX3_exchangesFor_52 rfl (rgI v7_0) (by decide) rfl ?_
      refine E_goto 7 dX3_exchangesFor_55 rfl ?_
      exact E_sub [4, 1, 2, 0] rfl hP
theorem sX3_exchangesFor {Q : Int → Hp → Prop} {h : Hp} {a0 l1 : Int}
    (hP : E 1 mX3_exchangesFor 7 [(0, vr a0), (2, vi l1), (3, vl 0), (5, vi 0)] [] h (ql Q)) :
    CL 1 mX3_exchangesFor [vr a0, vi l1] h Q := by
  refine CL_of_E fX3_exchangesFor.1 rfl (Nat.le_of_ble_eq_true rfl) ?_
  show E 1 mX3_exchangesFor 0 [(0, vr a0), (1, vi l1)] [] h (ql Q)
  refine E_iload_n 1 1 dX3_exchangesFor_0 rfl rfl ?_
  refine E_istore_n dX3_exchangesFor_1 rfl (by decide) rfl ?_
  refine E_lc 0 dX3_exchangesFor_2 rfl ?_
  refine E_lstore_n dX3_exchangesFor_3 rfl (by decide) rfl ?_
  refine E_iconst dX3_exchangesFor_4 (rg_of rfl) ?_
  refine E_istore dX3_exchangesFor_5 (by decide) rfl ?_
  exact E_sub [3, 2, 1, 0] rfl hP
