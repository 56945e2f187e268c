theorem dX0_noteExchanges_0 : decode prog_2_method_5_code 0 = .ok (.iconst 0, 1) := by decide +kernel
theorem dX0_noteExchanges_1 : decode prog_2_method_5_code 1 = .ok (.istore_n 2, 1) := by decide +kernel
theorem dX0_noteExchanges_2 : decode prog_2_method_5_code 2 = .ok (.iload_n 2, 1) := by decide +kernel
theorem dX0_noteExchanges_3 : decode prog_2_method_5_code 3 = .ok (.iconst 1, 1) := by decide +kernel
theorem dX0_noteExchanges_4 : decode prog_2_method_5_code 4 = .ok (.aload_n 1, 1) := by decide +kernel
theorem dX0_noteExchanges_5 : decode prog_2_method_5_code 5 = .ok (.getfield 47, 3) := by decide +kernel
theorem dX0_noteExchanges_8 : decode prog_2_method_5_code 8 = .ok (.ishl, 1) := by decide +kernel
theorem dX0_noteExchanges_9 : decode prog_2_method_5_code 9 = .ok (.if_icmp .ge 20, 3) := by decide +kernel
theorem dX0_noteExchanges_12 : decode prog_2_method_5_code 12 = .ok (.aload_n 0, 1) := by decide +kernel
theorem dX0_noteExchanges_13 : decode prog_2_method_5_code 13 = .ok (.getfield 15, 3) := by decide +kernel
theorem dX0_noteExchanges_16 : decode prog_2_method_5_code 16 = .ok (.iload_n 2, 1) := by decide +kernel
theorem dX0_noteExchanges_17 : decode prog_2_method_5_code 17 = .ok (.aload_n 1, 1) := by decide +kernel
theorem dX0_noteExchanges_18 : decode prog_2_method_5_code 18 = .ok (.iload_n 2, 1) := by decide +kernel
theorem dX0_noteExchanges_19 : decode prog_2_method_5_code 19 = .ok (.invokevirtual 50, 3) := by decide +kernel
theorem dX0_noteExchanges_22 : decode prog_2_method_5_code 22 = .ok (.lastore, 1) := by decide +kernel
theorem dX0_noteExchanges_23 : decode prog_2_method_5_code 23 = .ok (.iinc 2 1, 3) := by decide +kernel
theorem dX0_noteExchanges_26 : decode prog_2_method_5_code 26 = .ok (.goto (-24), 3) := by decide +kernel
theorem dX0_noteExchanges_29 : decode prog_2_method_5_code 29 = .ok (.return_, 1) := by decide +kernel
theorem sX0_noteExchanges_2 {Q : Hp → Prop} {h : Hp} {a1 l2 : Int}
    (hP : (nA a1) ∧
    ((l2 ≥ (j_ishl 1 (h a1 0))) →
     Q h) ∧
    ((l2 < (j_ishl 1 (h a1 0))) →
     (nA a1) ∧
     CL 1 mX3_exchangesFor [vr a1, vi l2] h (fun r5 h4 =>
      (ix l2 256 ∧ rj (l2 + 1)) ∧
      E 2 mX0_noteExchanges 2 [(0, vr 97), (1, vr a1), (2, vi (l2 + 1))] [] (up h4 99 l2 r5) (qv Q)))) :
    E 2 mX0_noteExchanges 2 [(0, vr 97), (1, vr a1), (2, vi l2)] [] h (qv Q) := by
  obtain ⟨v1_0, hP⟩ := hP
  refine E_iload_n 2 2 dX0_noteExchanges_2 rfl rfl ?_
  refine E_iconst dX0_noteExchanges_3 (rg_of rfl) ?_
  refine E_aload_n 1 1 dX0_noteExchanges_4 rfl rfl ?_
  refine E_gI 0 0 dX0_noteExchanges_5 FX0_47 (icN0 v1_0) rfl ?_
  refine E_ishl dX0_noteExchanges_8 ?_
  refine E_icmp_ge 29 dX0_noteExchanges_9 rfl (fun hc => ?_) (fun hc => ?_)
  · replace hP := hP.1 (hc)
    exact E_retV dX0_noteExchanges_29 rfl hP
  · replace hP := hP.2 (by omega)
    obtain ⟨v3_0, hP⟩ := hP
    refine E_aload_n 0 0 dX0_noteExchanges_12 rfl rfl ?_
    refine E_gR 99 1 dX0_noteExchanges_13 FX0_15 ic_97 (by decide) ?_
    refine E_iload_n 2 2 dX0_noteExchanges_16 rfl rfl ?_
    refine E_aload_n 1 1 dX0_noteExchanges_17 rfl rfl ?_
    refine E_iload_n 2 2 dX0_noteExchanges_18 rfl rfl ?_
    refine E_invVL [vi l2] dX0_noteExchanges_19 fX3_exchangesFor lX0_50 (icN0 v3_0) rfl (by decide) rfl rfl (Nat.le_of_ble_eq_true rfl) (CL_mono hP (fun r5 h4 hP => ?_))
    obtain ⟨⟨v6_0, v6_1⟩, hP⟩ := hP
    refine E_lastore dX0_noteExchanges_22 ic_99 v6_0.1 v6_0.2 ?_
    refine E_iinc 2 dX0_noteExchanges_23 rfl (rgI v6_1) (by decide) rfl ?_
    refine E_goto 2 dX0_noteExchanges_26 rfl ?_
    exact E_sub [1, 2, 0] rfl hP
theorem sX0_noteExchanges {Q : Hp → Prop} {h : Hp} {a1 : Int}
    (hP : E 2 mX0_noteExchanges 2 [(0, vr 97), (1, vr a1), (2, vi 0)] [] h (qv Q)) :
    CV 2 mX0_noteExchanges [vr 97, vr a1] h Q := by
  refine CV_of_E fX0_noteExchanges.1 rfl (Nat.le_of_ble_eq_true rfl) ?_
  show E 2 mX0_noteExchanges 0 [(0, vr 97), (1, vr a1)] [] h (qv Q)
  refine E_iconst dX0_noteExchanges_0 (rg_of rfl) ?_
  refine E_istore_n dX0_noteExchanges_1 rfl (by decide) rfl ?_
  exact E_sub [1, 2, 0] rfl hP
theorem dX0_begun_0 : decode prog_2_method_6_code 0 = .ok (.aload_n 0, 1) := by decide +kernel
theorem dX0_begun_1 : decode prog_2_method_6_code 1 = .ok (.getfield 15, 3) := by decide +kernel
theorem dX0_begun_4 : decode prog_2_method_6_code 4 = .ok (.iload_n 2, 1) := by decide +kernel
theorem dX0_begun_5 : decode prog_2_method_6_code 5 = .ok (.laload, 1) := by decide +kernel
theorem dX0_begun_6 : decode prog_2_method_6_code 6 = .ok (.aload_n 0, 1) := by decide +kernel
theorem dX0_begun_7 : decode prog_2_method_6_code 7 = .ok (.getfield 15, 3) := by decide +kernel
theorem dX0_begun_10 : decode prog_2_method_6_code 10 = .ok (.iload_n 1, 1) := by decide +kernel
theorem dX0_begun_11 : decode prog_2_method_6_code 11 = .ok (.laload, 1) := by decide +kernel
theorem dX0_begun_12 : decode prog_2_method_6_code 12 = .ok (.ldc2_w 54, 3) := by decide +kernel
theorem dX0_begun_15 : decode prog_2_method_6_code 15 = .ok (.lxor, 1) := by decide +kernel
theorem dX0_begun_16 : decode prog_2_method_6_code 16 = .ok (.land, 1) := by decide +kernel
theorem dX0_begun_17 : decode prog_2_method_6_code 17 = .ok (.invokestatic 56, 3) := by decide +kernel
theorem dX0_begun_20 : decode prog_2_method_6_code 20 = .ok (.ireturn, 1) := by decide +kernel
theorem sX0_begun {Q : Int → Hp → Prop} {h : Hp} {l1 l2 : Int}
    (hP : (ix l2 256 ∧ ix l1 256) ∧
    CI 0 mJ13_bitCount_95d88 [vl (j_land (h 99 l2) (j_lxor (h 99 l1) (-1)))] h (fun r3 h2 =>
     Q r3 h2)) :
    CI 1 mX0_begun [vr 97, vi l1, vi l2] h Q := by
  refine CI_of_E fX0_begun.1 rfl (Nat.le_of_ble_eq_true rfl) ?_
  show E 1 mX0_begun 0 [(0, vr 97), (1, vi l1), (2, vi l2)] [] h (qi Q)
  obtain ⟨⟨v1_0, v1_1⟩, hP⟩ := hP
  refine E_aload_n 0 0 dX0_begun_0 rfl rfl ?_
  refine E_gR 99 1 dX0_begun_1 FX0_15 ic_97 (by decide) ?_
  refine E_iload_n 2 2 dX0_begun_4 rfl rfl ?_
  refine E_laload dX0_begun_5 ic_99 v1_0.1 v1_0.2 ?_
  refine E_aload_n 0 0 dX0_begun_6 rfl rfl ?_
  refine E_gR 99 1 dX0_begun_7 FX0_15 ic_97 (by decide) ?_
  refine E_iload_n 1 1 dX0_begun_10 rfl rfl ?_
  refine E_laload dX0_begun_11 ic_99 v1_1.1 v1_1.2 ?_
  refine E_ldc2 (z := (-1)) dX0_begun_12 kX0_54 (by decide) ?_
  refine E_lxor dX0_begun_15 ?_
  refine E_land dX0_begun_16 ?_
  refine E_invSI [vl (j_land (h 99 l2) (j_lxor (h 99 l1) (-1)))] dX0_begun_17 fJ13_bitCount_95d88 lX0_56 (by decide) rfl rfl (Nat.le_of_ble_eq_true rfl) (CI_mono hP (fun r3 h2 hP => ?_))
  exact E_retI dX0_begun_20 rfl hP
theorem dX0_allExchanges_0 : decode prog_2_method_7_code 0 = .ok (.aload_n 0, 1) := by decide +kernel
theorem dX0_allExchanges_1 : decode prog_2_method_7_code 1 = .ok (.aload_n 1, 1) := by decide +kernel
theorem dX0_allExchanges_2 : decode prog_2_method_7_code 2 = .ok (.invokevirtual 61, 3) := by decide +kernel
theorem dX0_allExchanges_5 : decode prog_2_method_7_code 5 = .ok (.iconst 1, 1) := by decide +kernel
theorem dX0_allExchanges_6 : decode prog_2_method_7_code 6 = .ok (.aload_n 1, 1) := by decide +kernel
theorem dX0_allExchanges_7 : decode prog_2_method_7_code 7 = .ok (.getfield 47, 3) := by decide +kernel
theorem dX0_allExchanges_10 : decode prog_2_method_7_code 10 = .ok (.ishl, 1) := by decide +kernel
theorem dX0_allExchanges_11 : decode prog_2_method_7_code 11 = .ok (.iconst 1, 1) := by decide +kernel
theorem dX0_allExchanges_12 : decode prog_2_method_7_code 12 = .ok (.isub, 1) := by decide +kernel
theorem dX0_allExchanges_13 : decode prog_2_method_7_code 13 = .ok (.istore_n 2, 1) := by decide +kernel
theorem dX0_allExchanges_14 : decode prog_2_method_7_code 14 = .ok (.lconst 0, 1) := by decide +kernel
theorem dX0_allExchanges_15 : decode prog_2_method_7_code 15 = .ok (.lstore_n 3, 1) := by decide +kernel
theorem dX0_allExchanges_16 : decode prog_2_method_7_code 16 = .ok (.iconst 0, 1) := by decide +kernel
theorem dX0_allExchanges_17 : decode prog_2_method_7_code 17 = .ok (.istore 5, 2) := by decide +kernel
theorem dX0_allExchanges_19 : decode prog_2_method_7_code 19 = .ok (.iload 5, 2) := by decide +kernel
theorem dX0_allExchanges_21 : decode prog_2_method_7_code 21 = .ok (.iload_n 2, 1) := by decide +kernel
theorem dX0_allExchanges_22 : decode prog_2_method_7_code 22 = .ok (.if_icmp .ge 91, 3) := by decide +kernel
theorem dX0_allExchanges_25 : decode prog_2_method_7_code 25 = .ok (.iload 5, 2) := by decide +kernel
theorem dX0_allExchanges_27 : decode prog_2_method_7_code 27 = .ok (.invokestatic 42, 3) := by decide +kernel
theorem dX0_allExchanges_30 : decode prog_2_method_7_code 30 = .ok (.istore 6, 2) := by decide +kernel
theorem dX0_allExchanges_32 : decode prog_2_method_7_code 32 = .ok (.getstatic 65, 3) := by decide +kernel
theorem dX0_allExchanges_35 : decode prog_2_method_7_code 35 = .ok (.iload 6, 2) := by decide +kernel
theorem dX0_allExchanges_37 : decode prog_2_method_7_code 37 = .ok (.iaload, 1) := by decide +kernel
theorem dX0_allExchanges_38 : decode prog_2_method_7_code 38 = .ok (.getstatic 65, 3) := by decide +kernel
theorem dX0_allExchanges_41 : decode prog_2_method_7_code 41 = .ok (.aload_n 1, 1) := by decide +kernel
theorem dX0_allExchanges_42 : decode prog_2_method_7_code 42 = .ok (.getfield 47, 3) := by decide +kernel
theorem dX0_allExchanges_45 : decode prog_2_method_7_code 45 = .ok (.iconst 1, 1) := by decide +kernel
theorem dX0_allExchanges_46 : decode prog_2_method_7_code 46 = .ok (.isub, 1) := by decide +kernel
theorem dX0_allExchanges_47 : decode prog_2_method_7_code 47 = .ok (.iload 6, 2) := by decide +kernel
theorem dX0_allExchanges_49 : decode prog_2_method_7_code 49 = .ok (.isub, 1) := by decide +kernel
theorem dX0_allExchanges_50 : decode prog_2_method_7_code 50 = .ok (.iaload, 1) := by decide +kernel
theorem dX0_allExchanges_51 : decode prog_2_method_7_code 51 = .ok (.imul, 1) := by decide +kernel
theorem dX0_allExchanges_52 : decode prog_2_method_7_code 52 = .ok (.i2l, 1) := by decide +kernel
theorem dX0_allExchanges_53 : decode prog_2_method_7_code 53 = .ok (.lstore 7, 2) := by decide +kernel
theorem dX0_allExchanges_55 : decode prog_2_method_7_code 55 = .ok (.iconst 0, 1) := by decide +kernel
theorem dX0_allExchanges_56 : decode prog_2_method_7_code 56 = .ok (.istore 9, 2) := by decide +kernel
theorem dX0_allExchanges_58 : decode prog_2_method_7_code 58 = .ok (.iload 9, 2) := by decide +kernel
theorem dX0_allExchanges_60 : decode prog_2_method_7_code 60 = .ok (.aload_n 1, 1) := by decide +kernel
theorem dX0_allExchanges_61 : decode prog_2_method_7_code 61 = .ok (.getfield 47, 3) := by decide +kernel
theorem dX0_allExchanges_64 : decode prog_2_method_7_code 64 = .ok (.if_icmp .ge 43, 3) := by decide +kernel
theorem dX0_allExchanges_67 : decode prog_2_method_7_code 67 = .ok (.lload_n 3, 1) := by decide +kernel
theorem dX0_allExchanges_68 : decode prog_2_method_7_code 68 = .ok (.iload 5, 2) := by decide +kernel
theorem dX0_allExchanges_70 : decode prog_2_method_7_code 70 = .ok (.iload 9, 2) := by decide +kernel
theorem dX0_allExchanges_72 : decode prog_2_method_7_code 72 = .ok (.ishr, 1) := by decide +kernel
theorem dX0_allExchanges_73 : decode prog_2_method_7_code 73 = .ok (.iconst 1, 1) := by decide +kernel
theorem dX0_allExchanges_74 : decode prog_2_method_7_code 74 = .ok (.iand, 1) := by decide +kernel
theorem dX0_allExchanges_75 : decode prog_2_method_7_code 75 = .ok (.ifCond .ne 23, 3) := by decide +kernel
theorem dX0_allExchanges_78 : decode prog_2_method_7_code 78 = .ok (.lload 7, 2) := by decide +kernel
theorem dX0_allExchanges_80 : decode prog_2_method_7_code 80 = .ok (.aload_n 0, 1) := by decide +kernel
theorem dX0_allExchanges_81 : decode prog_2_method_7_code 81 = .ok (.iload 5, 2) := by decide +kernel
theorem dX0_allExchanges_83 : decode prog_2_method_7_code 83 = .ok (.iload 5, 2) := by decide +kernel
theorem dX0_allExchanges_85 : decode prog_2_method_7_code 85 = .ok (.iconst 1, 1) := by decide +kernel
theorem dX0_allExchanges_86 : decode prog_2_method_7_code 86 = .ok (.iload 9, 2) := by decide +kernel
theorem dX0_allExchanges_88 : decode prog_2_method_7_code 88 = .ok (.ishl, 1) := by decide +kernel
theorem dX0_allExchanges_89 : decode prog_2_method_7_code 89 = .ok (.ior, 1) := by decide +kernel
theorem dX0_allExchanges_90 : decode prog_2_method_7_code 90 = .ok (.invokevirtual 68, 3) := by decide +kernel
theorem dX0_allExchanges_93 : decode prog_2_method_7_code 93 = .ok (.i2l, 1) := by decide +kernel
theorem dX0_allExchanges_94 : decode prog_2_method_7_code 94 = .ok (.lmul, 1) := by decide +kernel
theorem dX0_allExchanges_95 : decode prog_2_method_7_code 95 = .ok (.goto 4, 3) := by decide +kernel
theorem dX0_allExchanges_98 : decode prog_2_method_7_code 98 = .ok (.lconst 0, 1) := by decide +kernel
theorem dX0_allExchanges_99 : decode prog_2_method_7_code 99 = .ok (.ladd, 1) := by decide +kernel
theorem dX0_allExchanges_100 : decode prog_2_method_7_code 100 = .ok (.lstore_n 3, 1) := by decide +kernel
theorem dX0_allExchanges_101 : decode prog_2_method_7_code 101 = .ok (.iinc 9 1, 3) := by decide +kernel
theorem dX0_allExchanges_104 : decode prog_2_method_7_code 104 = .ok (.goto (-46), 3) := by decide +kernel
theorem dX0_allExchanges_107 : decode prog_2_method_7_code 107 = .ok (.iinc 5 1, 3) := by decide +kernel
theorem dX0_allExchanges_110 : decode prog_2_method_7_code 110 = .ok (.goto (-91), 3) := by decide +kernel
theorem dX0_allExchanges_113 : decode prog_2_method_7_code 113 = .ok (.lload_n 3, 1) := by decide +kernel
theorem dX0_allExchanges_114 : decode prog_2_method_7_code 114 = .ok (.lreturn, 1) := by decide +kernel
theorem sX0_allExchanges_58 {Q : Int → Hp → Prop} {h : Hp} {a1 l2 l3 l5 l7 l9 : Int}
    (hP : (nA a1) ∧
    ((l9 ≥ (h a1 0)) →
     (rj (l5 + 1)) ∧
     E 3 mX0_allExchanges 19 [(0, vr 97), (1, vr a1), (2, vi l2), (3, vl l3), (5, vi (l5 + 1))] [] h (ql Q)) ∧
    ((l9 < (h a1 0)) →
     (((j_iand (j_ishr l5 l9) 1) ≠ 0) →
      (rj (l9 + 1)) ∧
      E 3 mX0_allExchanges 58 [(0, vr 97), (1, vr a1), (2, vi l2), (3, vl (j_ladd l3 0)), (5, vi l5), (7, vl l7), (9, vi (l9 + 1))] [] h (ql Q)) ∧
     (((j_iand (j_ishr l5 l9) 1) = 0) →
      CI 1 mX0_begun [vr 97, vi l5, vi (j_ior l5 (j_ishl 1 l9))] h (fun r7 h6 =>
       (rj (l9 + 1)) ∧
       E 3 mX0_allExchanges 58 [(0, vr 97), (1, vr a1), (2, vi l2), (3, vl (j_ladd l3 (j_lmul l7 r7))), (5, vi l5), (7, vl l7), (9, vi (l9 + 1))] [] h6 (ql Q))))) :
    E 3 mX0_allExchanges 58 [(0, vr 97), (1, vr a1), (2, vi l2), (3, vl l3), (5, vi l5), (7, vl l7), (9, vi l9)] [] h (ql Q) := by
  obtain ⟨v1_0, hP⟩ := hP
  refine E_iload 6 dX0_allExchanges_58 rfl ?_
  refine E_aload_n 1 1 dX0_allExchanges_60 rfl rfl ?_
  refine E_gI 0 0 dX0_allExchanges_61 FX0_47 (icN0 v1_0) rfl ?_
  refine E_icmp_ge 107 dX0_allExchanges_64 rfl (fun hc => ?_) (fun hc => ?_)
  · replace hP := hP.1 (hc)
    obtain ⟨v2_0, hP⟩ := hP
    refine E_iinc 4 dX0_allExchanges_107 rfl (rgI v2_0) (by decide) rfl ?_
    refine E_goto 19 dX0_allExchanges_110 rfl ?_
    exact E_sub [1, 2, 3, 4, 0] rfl hP
  · replace hP := hP.2 (by omega)
    refine E_lload_n 3 3 dX0_allExchanges_67 rfl rfl ?_
    refine E_iload 4 dX0_allExchanges_68 rfl ?_
    refine E_iload 6 dX0_allExchanges_70 rfl ?_
    refine E_ishr dX0_allExchanges_72 ?_
    refine E_iconst dX0_allExchanges_73 (rg_of rfl) ?_
    refine E_iand dX0_allExchanges_74 ?_
    refine E_if_ne 98 dX0_allExchanges_75 rfl (fun hc => ?_) (fun hc => ?_)
    · replace hP := hP.1 (hc)
      obtain ⟨v4_0, hP⟩ := hP
      refine E_lc 0 dX0_allExchanges_98 rfl ?_
      refine E_ladd dX0_allExchanges_99 ?_
      refine E_lstore_n dX0_allExchanges_100 rfl (by decide) rfl ?_
      refine E_iinc 6 dX0_allExchanges_101 rfl (rgI v4_0) (by decide) rfl ?_
      refine E_goto 58 dX0_allExchanges_104 rfl ?_
      exact E_sub [2, 3, 4, 1, 5, 6, 0] rfl hP
    · replace hP := hP.2 (by omega)
      refine E_lload 5 dX0_allExchanges_78 rfl ?_
      refine E_aload_n 0 0 dX0_allExchanges_80 rfl rfl ?_
      refine E_iload 4 dX0_allExchanges_81 rfl ?_
      refine E_iload 4 dX0_allExchanges_83 rfl ?_
      refine E_iconst dX0_allExchanges_85 (rg_of rfl) ?_
      refine E_iload 6 dX0_allExchanges_86 rfl ?_
      refine E_ishl dX0_allExchanges_88 ?_
      refine E_ior dX0_allExchanges_89 ?_
      refine E_invVI [vi l5, vi (j_ior l5 (j_ishl 1 l9))] dX0_allExchanges_90 fX0_begun lX0_68 ic_97 rfl (by decide) rfl rfl (Nat.le_of_ble_eq_true rfl) (CI_mono hP (fun r7 h6 hP => ?_))
      obtain ⟨v8_0, hP⟩ := hP
      refine E_i2l dX0_allExchanges_93 ?_
      refine E_lmul dX0_allExchanges_94 ?_
      refine E_goto 99 dX0_allExchanges_95 rfl ?_
      refine E_ladd dX0_allExchanges_99 ?_
      refine E_lstore_n dX0_allExchanges_100 rfl (by decide) rfl ?_
      refine E_iinc 6 dX0_allExchanges_101 rfl (rgI v8_0) (by decide) rfl ?_
      refine E_goto 58 dX0_allExchanges_104 rfl ?_
      exact E_sub [2, 3, 4, 1, 5, 6, 0] rfl hP
theorem sX0_allExchanges_19 {Q : Int → Hp → Prop} {h : Hp} {a1 l2 l3 l5 : Int}
    (hP : ((l5 ≥ l2) →
     Q l3 h) ∧
    ((l5 < l2) →
     CI 0 mJ6_bitCount_0f7a4 [vi l5] h (fun r5 h4 =>
      (ix r5 9 ∧ nA a1 ∧ rj ((h4 a1 0) - 1) ∧ rj (((h4 a1 0) - 1) - r5) ∧ ix (((h4 a1 0) - 1) - r5) 9 ∧ rj ((fav (r5).toNat) * (fav ((((h4 a1 0) - 1) - r5)).toNat))) ∧
      E 3 mX0_allExchanges 58 [(0, vr 97), (1, vr a1), (2, vi l2), (3, vl l3), (5, vi l5), (7, vl ((fav (r5).toNat) * (fav ((((h4 a1 0) - 1) - r5)).toNat))), (9, vi 0)] [] h4 (ql Q)))) :
    E 3 mX0_allExchanges 19 [(0, vr 97), (1, vr a1), (2, vi l2), (3, vl l3), (5, vi l5)] [] h (ql Q) := by
  refine E_iload 4 dX0_allExchanges_19 rfl ?_
  refine E_iload_n 2 2 dX0_allExchanges_21 rfl rfl ?_
  refine E_icmp_ge 113 dX0_allExchanges_22 rfl (fun hc => ?_) (fun hc => ?_)
  · replace hP := hP.1 (hc)
    refine E_lload_n 3 3 dX0_allExchanges_113 rfl rfl ?_
    exact E_retL dX0_allExchanges_114 rfl hP
  · replace hP := hP.2 (by omega)
    refine E_iload 4 dX0_allExchanges_25 rfl ?_
    refine E_invSI [vi l5] dX0_allExchanges_27 fJ6_bitCount_0f7a4 lX0_42 (by decide) rfl rfl (Nat.le_of_ble_eq_true rfl) (CI_mono hP (fun r5 h4 hP => ?_))
    obtain ⟨⟨v6_0, v6_1, v6_2, v6_3, v6_4, v6_5⟩, hP⟩ := hP
    refine E_istore dX0_allExchanges_30 (by decide) rfl ?_
    refine E_getsF dX0_allExchanges_32 gX0_65 ?_
    refine E_iload 0 dX0_allExchanges_35 rfl ?_
    refine E_tabF dX0_allExchanges_37 v6_0.1 v6_0.2 ?_
    refine E_getsF dX0_allExchanges_38 gX0_65 ?_
    refine E_aload_n 2 1 dX0_allExchanges_41 rfl rfl ?_
    refine E_gI 0 0 dX0_allExchanges_42 FX0_47 (icN0 v6_1) rfl ?_
    refine E_iconst dX0_allExchanges_45 (rg_of rfl) ?_
    refine E_isub dX0_allExchanges_46 (rgI v6_2) ?_
    refine E_iload 0 dX0_allExchanges_47 rfl ?_
    refine E_isub dX0_allExchanges_49 (rgI v6_3) ?_
    refine E_tabF dX0_allExchanges_50 v6_4.1 v6_4.2 ?_
    refine E_imul dX0_allExchanges_51 (rgI v6_5) ?_
    refine E_i2l dX0_allExchanges_52 ?_
    refine E_lstore dX0_allExchanges_53 (by decide) rfl ?_
    refine E_iconst dX0_allExchanges_55 (rg_of rfl) ?_
    refine E_istore dX0_allExchanges_56 (by decide) rfl ?_
    exact E_sub [3, 4, 5, 6, 7, 1, 0] rfl hP
theorem sX0_allExchanges {Q : Int → Hp → Prop} {h : Hp} {a1 : Int}
    (hP : CV 2 mX0_noteExchanges [vr 97, vr a1] h (fun h2 =>
     (nA a1 ∧ rj ((j_ishl 1 (h2 a1 0)) - 1)) ∧
     (∀ x4 : Int, x4 = ((j_ishl 1 (h2 a1 0)) - 1) →
     E 3 mX0_allExchanges 19 [(0, vr 97), (1, vr a1), (2, vi x4), (3, vl 0), (5, vi 0)] [] h2 (ql Q)))) :
    CL 3 mX0_allExchanges [vr 97, vr a1] h Q := by
  refine CL_of_E fX0_allExchanges.1 rfl (Nat.le_of_ble_eq_true rfl) ?_
  show E 3 mX0_allExchanges 0 [(0, vr 97), (1, vr a1)] [] h (ql Q)
  refine E_aload_n 0 0 dX0_allExchanges_0 rfl rfl ?_
  refine E_aload_n 1 1 dX0_allExchanges_1 rfl rfl ?_
  refine E_invVV [vr a1] dX0_allExchanges_2 fX0_noteExchanges lX0_61 ic_97 rfl (by decide) rfl rfl (Nat.le_of_ble_eq_true rfl) (CV_mono hP (fun h2 hP => ?_))
  obtain ⟨⟨v3_0, v3_1⟩, hP⟩ := hP
  refine E_iconst dX0_allExchanges_5 (rg_of rfl) ?_
  refine E_aload_n 1 1 dX0_allExchanges_6 rfl rfl ?_
  refine E_gI 0 0 dX0_allExchanges_7 FX0_47 (icN0 v3_0) rfl ?_
  refine E_ishl dX0_allExchanges_10 ?_
  refine E_iconst dX0_allExchanges_11 (rg_of rfl) ?_
  refine E_isub dX0_allExchanges_12 (rgI v3_1) ?_
  obtain ⟨x4, hx4⟩ : ∃ x : Int, x = ((j_ishl 1 (h2 a1 0)) - 1) := ⟨_, rfl⟩
  refine E_top hx4.symm ?_
  replace hP := hP x4 hx4
  refine E_istore_n dX0_allExchanges_13 rfl (by decide) rfl ?_
  refine E_lc 0 dX0_allExchanges_14 rfl ?_
  refine E_lstore_n dX0_allExchanges_15 rfl (by decide) rfl ?_
  refine E_iconst dX0_allExchanges_16 (rg_of rfl) ?_
  refine E_istore dX0_allExchanges_17 (by decide) rfl ?_
  exact E_sub [3, 4, 2, 1, 0] rfl hP
theorem dX0_greatestExchanges_0 : decode prog_2_method_8_code 0 = .ok (.aload_n 0, 1) := by decide +kernel
theorem dX0_greatestExchanges_1 : decode prog_2_method_8_code 1 = .ok (.aload_n 1, 1) := by decide +kernel
theorem dX0_greatestExchanges_2 : decode prog_2_method_8_code 2 = .ok (.invokevirtual 61, 3) := by decide +kernel
theorem dX0_greatestExchanges_5 : decode prog_2_method_8_code 5 = .ok (.iconst 1, 1) := by decide +kernel
theorem dX0_greatestExchanges_6 : decode prog_2_method_8_code 6 = .ok (.aload_n 1, 1) := by decide +kernel
theorem dX0_greatestExchanges_7 : decode prog_2_method_8_code 7 = .ok (.getfield 47, 3) := by decide +kernel
theorem dX0_greatestExchanges_10 : decode prog_2_method_8_code 10 = .ok (.ishl, 1) := by decide +kernel
theorem dX0_greatestExchanges_11 : decode prog_2_method_8_code 11 = .ok (.iconst 1, 1) := by decide +kernel
theorem dX0_greatestExchanges_12 : decode prog_2_method_8_code 12 = .ok (.isub, 1) := by decide +kernel
theorem dX0_greatestExchanges_13 : decode prog_2_method_8_code 13 = .ok (.istore_n 2, 1) := by decide +kernel
theorem dX0_greatestExchanges_14 : decode prog_2_method_8_code 14 = .ok (.aload_n 0, 1) := by decide +kernel
theorem dX0_greatestExchanges_15 : decode prog_2_method_8_code 15 = .ok (.getfield 9, 3) := by decide +kernel
theorem dX0_greatestExchanges_18 : decode prog_2_method_8_code 18 = .ok (.iconst 0, 1) := by decide +kernel
theorem dX0_greatestExchanges_19 : decode prog_2_method_8_code 19 = .ok (.iconst 0, 1) := by decide +kernel
theorem dX0_greatestExchanges_20 : decode prog_2_method_8_code 20 = .ok (.iastore, 1) := by decide +kernel
theorem dX0_greatestExchanges_21 : decode prog_2_method_8_code 21 = .ok (.iconst 1, 1) := by decide +kernel
theorem dX0_greatestExchanges_22 : decode prog_2_method_8_code 22 = .ok (.istore_n 3, 1) := by decide +kernel
theorem dX0_greatestExchanges_23 : decode prog_2_method_8_code 23 = .ok (.iload_n 3, 1) := by decide +kernel
theorem dX0_greatestExchanges_24 : decode prog_2_method_8_code 24 = .ok (.iload_n 2, 1) := by decide +kernel
theorem dX0_greatestExchanges_25 : decode prog_2_method_8_code 25 = .ok (.if_icmp .gt 82, 3) := by decide +kernel
theorem dX0_greatestExchanges_28 : decode prog_2_method_8_code 28 = .ok (.aload_n 0, 1) := by decide +kernel
theorem dX0_greatestExchanges_29 : decode prog_2_method_8_code 29 = .ok (.getfield 9, 3) := by decide +kernel
theorem dX0_greatestExchanges_32 : decode prog_2_method_8_code 32 = .ok (.iload_n 3, 1) := by decide +kernel
theorem dX0_greatestExchanges_33 : decode prog_2_method_8_code 33 = .ok (.iconst 0, 1) := by decide +kernel
theorem dX0_greatestExchanges_34 : decode prog_2_method_8_code 34 = .ok (.iastore, 1) := by decide +kernel
theorem dX0_greatestExchanges_35 : decode prog_2_method_8_code 35 = .ok (.iconst 0, 1) := by decide +kernel
theorem dX0_greatestExchanges_36 : decode prog_2_method_8_code 36 = .ok (.istore 4, 2) := by decide +kernel
theorem dX0_greatestExchanges_38 : decode prog_2_method_8_code 38 = .ok (.iload 4, 2) := by decide +kernel
theorem dX0_greatestExchanges_40 : decode prog_2_method_8_code 40 = .ok (.aload_n 1, 1) := by decide +kernel
theorem dX0_greatestExchanges_41 : decode prog_2_method_8_code 41 = .ok (.getfield 47, 3) := by decide +kernel
theorem dX0_greatestExchanges_44 : decode prog_2_method_8_code 44 = .ok (.if_icmp .ge 57, 3) := by decide +kernel
theorem dX0_greatestExchanges_47 : decode prog_2_method_8_code 47 = .ok (.iload_n 3, 1) := by decide +kernel
theorem dX0_greatestExchanges_48 : decode prog_2_method_8_code 48 = .ok (.iload 4, 2) := by decide +kernel
theorem dX0_greatestExchanges_50 : decode prog_2_method_8_code 50 = .ok (.ishr, 1) := by decide +kernel
theorem dX0_greatestExchanges_51 : decode prog_2_method_8_code 51 = .ok (.iconst 1, 1) := by decide +kernel
theorem dX0_greatestExchanges_52 : decode prog_2_method_8_code 52 = .ok (.iand, 1) := by decide +kernel
theorem dX0_greatestExchanges_53 : decode prog_2_method_8_code 53 = .ok (.iconst 1, 1) := by decide +kernel
theorem dX0_greatestExchanges_54 : decode prog_2_method_8_code 54 = .ok (.if_icmp .ne 41, 3) := by decide +kernel
theorem dX0_greatestExchanges_57 : decode prog_2_method_8_code 57 = .ok (.iload_n 3, 1) := by decide +kernel
theorem dX0_greatestExchanges_58 : decode prog_2_method_8_code 58 = .ok (.iconst 1, 1) := by decide +kernel
theorem dX0_greatestExchanges_59 : decode prog_2_method_8_code 59 = .ok (.iload 4, 2) := by decide +kernel
theorem dX0_greatestExchanges_61 : decode prog_2_method_8_code 61 = .ok (.ishl, 1) := by decide +kernel
theorem dX0_greatestExchanges_62 : decode prog_2_method_8_code 62 = .ok (.ixor, 1) := by decide +kernel
theorem dX0_greatestExchanges_63 : decode prog_2_method_8_code 63 = .ok (.istore 5, 2) := by decide +kernel
theorem dX0_greatestExchanges_65 : decode prog_2_method_8_code 65 = .ok (.aload_n 0, 1) := by decide +kernel
theorem dX0_greatestExchanges_66 : decode prog_2_method_8_code 66 = .ok (.getfield 9, 3) := by decide +kernel
theorem dX0_greatestExchanges_69 : decode prog_2_method_8_code 69 = .ok (.iload_n 3, 1) := by decide +kernel
theorem dX0_greatestExchanges_70 : decode prog_2_method_8_code 70 = .ok (.aload_n 0, 1) := by decide +kernel
theorem dX0_greatestExchanges_71 : decode prog_2_method_8_code 71 = .ok (.getfield 9, 3) := by decide +kernel
theorem dX0_greatestExchanges_74 : decode prog_2_method_8_code 74 = .ok (.iload_n 3, 1) := by decide +kernel
theorem dX0_greatestExchanges_75 : decode prog_2_method_8_code 75 = .ok (.iaload, 1) := by decide +kernel
theorem dX0_greatestExchanges_76 : decode prog_2_method_8_code 76 = .ok (.aload_n 0, 1) := by decide +kernel
theorem dX0_greatestExchanges_77 : decode prog_2_method_8_code 77 = .ok (.getfield 9, 3) := by decide +kernel
theorem dX0_greatestExchanges_80 : decode prog_2_method_8_code 80 = .ok (.iload 5, 2) := by decide +kernel
theorem dX0_greatestExchanges_82 : decode prog_2_method_8_code 82 = .ok (.iaload, 1) := by decide +kernel
theorem dX0_greatestExchanges_83 : decode prog_2_method_8_code 83 = .ok (.aload_n 0, 1) := by decide +kernel
theorem dX0_greatestExchanges_84 : decode prog_2_method_8_code 84 = .ok (.iload 5, 2) := by decide +kernel
theorem dX0_greatestExchanges_86 : decode prog_2_method_8_code 86 = .ok (.iload_n 3, 1) := by decide +kernel
theorem dX0_greatestExchanges_87 : decode prog_2_method_8_code 87 = .ok (.invokevirtual 68, 3) := by decide +kernel
theorem dX0_greatestExchanges_90 : decode prog_2_method_8_code 90 = .ok (.iadd, 1) := by decide +kernel
theorem dX0_greatestExchanges_91 : decode prog_2_method_8_code 91 = .ok (.invokestatic 71, 3) := by decide +kernel
theorem dX0_greatestExchanges_94 : decode prog_2_method_8_code 94 = .ok (.iastore, 1) := by decide +kernel
theorem dX0_greatestExchanges_95 : decode prog_2_method_8_code 95 = .ok (.iinc 4 1, 3) := by decide +kernel
theorem dX0_greatestExchanges_98 : decode prog_2_method_8_code 98 = .ok (.goto (-60), 3) := by decide +kernel
theorem dX0_greatestExchanges_101 : decode prog_2_method_8_code 101 = .ok (.iinc 3 1, 3) := by decide +kernel
theorem dX0_greatestExchanges_104 : decode prog_2_method_8_code 104 = .ok (.goto (-81), 3) := by decide +kernel
theorem dX0_greatestExchanges_107 : decode prog_2_method_8_code 107 = .ok (.aload_n 0, 1) := by decide +kernel
theorem dX0_greatestExchanges_108 : decode prog_2_method_8_code 108 = .ok (.getfield 9, 3) := by decide +kernel
theorem dX0_greatestExchanges_111 : decode prog_2_method_8_code 111 = .ok (.iload_n 2, 1) := by decide +kernel
theorem dX0_greatestExchanges_112 : decode prog_2_method_8_code 112 = .ok (.iaload, 1) := by decide +kernel
theorem dX0_greatestExchanges_113 : decode prog_2_method_8_code 113 = .ok (.ireturn, 1) := by decide +kernel
theorem sX0_greatestExchanges_38 {Q : Int → Hp → Prop} {h : Hp} {a1 l2 l3 l4 : Int}
    (hP : (nA a1) ∧
    ((l4 ≥ (h a1 0)) →
     (rj (l3 + 1)) ∧
     E 3 mX0_greatestExchanges 23 [(0, vr 97), (1, vr a1), (2, vi l2), (3, vi (l3 + 1))] [] h (qi Q)) ∧
    ((l4 < (h a1 0)) →
     (((j_iand (j_ishr l3 l4) 1) ≠ 1) →
      (rj (l4 + 1)) ∧
      E 3 mX0_greatestExchanges 38 [(0, vr 97), (1, vr a1), (2, vi l2), (3, vi l3), (4, vi (l4 + 1))] [] h (qi Q)) ∧
     (((j_iand (j_ishr l3 l4) 1) = 1) →
      (∀ x6 : Int, x6 = (j_ixor l3 (j_ishl 1 l4)) →
      (ix l3 256 ∧ ix x6 256) ∧
      CI 1 mX0_begun [vr 97, vi x6, vi l3] h (fun r9 h8 =>
       (rj ((h 98 x6) + r9) ∧ ix l3 256 ∧ rj (l4 + 1)) ∧
       E 3 mX0_greatestExchanges 38 [(0, vr 97), (1, vr a1), (2, vi l2), (3, vi l3), (4, vi (l4 + 1))] [] (up h8 98 l3 (if (h 98 l3) < ((h 98 x6) + r9) then ((h 98 x6) + r9) else (h 98 l3))) (qi Q)))))) :
    E 3 mX0_greatestExchanges 38 [(0, vr 97), (1, vr a1), (2, vi l2), (3, vi l3), (4, vi l4)] [] h (qi Q) := by
  obtain ⟨v1_0, hP⟩ := hP
  refine E_iload 4 dX0_greatestExchanges_38 rfl ?_
  refine E_aload_n 1 1 dX0_greatestExchanges_40 rfl rfl ?_
  refine E_gI 0 0 dX0_greatestExchanges_41 FX0_47 (icN0 v1_0) rfl ?_
  refine E_icmp_ge 101 dX0_greatestExchanges_44 rfl (fun hc => ?_) (fun hc => ?_)
  · replace hP := hP.1 (hc)
    obtain ⟨v2_0, hP⟩ := hP
    refine E_iinc 3 dX0_greatestExchanges_101 rfl (rgI v2_0) (by decide) rfl ?_
    refine E_goto 23 dX0_greatestExchanges_104 rfl ?_
    exact E_sub [1, 2, 3, 0] rfl hP
  · replace hP := hP.2 (by omega)
    refine E_iload_n 3 3 dX0_greatestExchanges_47 rfl rfl ?_
    refine E_iload 4 dX0_greatestExchanges_48 rfl ?_
    refine E_ishr dX0_greatestExchanges_50 ?_
    refine E_iconst dX0_greatestExchanges_51 (rg_of rfl) ?_
    refine E_iand dX0_greatestExchanges_52 ?_
    refine E_iconst dX0_greatestExchanges_53 (rg_of rfl) ?_
    refine E_icmp_ne 95 dX0_greatestExchanges_54 rfl (fun hc => ?_) (fun hc => ?_)
    · replace hP := hP.1 (hc)
      obtain ⟨v4_0, hP⟩ := hP
      refine E_iinc 4 dX0_greatestExchanges_95 rfl (rgI v4_0) (by decide) rfl ?_
      refine E_goto 38 dX0_greatestExchanges_98 rfl ?_
      exact E_sub [1, 2, 3, 4, 0] rfl hP
    · replace hP := hP.2 (by omega)
      refine E_iload_n 3 3 dX0_greatestExchanges_57 rfl rfl ?_
      refine E_iconst dX0_greatestExchanges_58 (rg_of rfl) ?_
      refine E_iload 4 dX0_greatestExchanges_59 rfl ?_
      refine E_ishl dX0_greatestExchanges_61 ?_
      refine E_ixor dX0_greatestExchanges_62 ?_
      obtain ⟨x6, hx6⟩ : ∃ x : Int, x = (j_ixor l3 (j_ishl 1 l4)) := ⟨_, rfl⟩
      refine E_top hx6.symm ?_
      replace hP := hP x6 hx6
      refine E_istore dX0_greatestExchanges_63 (by decide) rfl ?_
      obtain ⟨⟨v7_0, v7_1⟩, hP⟩ := hP
      refine E_aload_n 1 0 dX0_greatestExchanges_65 rfl rfl ?_
      refine E_gR 98 0 dX0_greatestExchanges_66 FX0_9 ic_97 (by decide) ?_
      refine E_iload_n 4 3 dX0_greatestExchanges_69 rfl rfl ?_
      refine E_aload_n 1 0 dX0_greatestExchanges_70 rfl rfl ?_
      refine E_gR 98 0 dX0_greatestExchanges_71 FX0_9 ic_97 (by decide) ?_
      refine E_iload_n 4 3 dX0_greatestExchanges_74 rfl rfl ?_
      refine E_iaload dX0_greatestExchanges_75 ic_98 v7_0.1 v7_0.2 ?_
      refine E_aload_n 1 0 dX0_greatestExchanges_76 rfl rfl ?_
      refine E_gR 98 0 dX0_greatestExchanges_77 FX0_9 ic_97 (by decide) ?_
      refine E_iload 0 dX0_greatestExchanges_80 rfl ?_
      refine E_iaload dX0_greatestExchanges_82 ic_98 v7_1.1 v7_1.2 ?_
      refine E_aload_n 1 0 dX0_greatestExchanges_83 rfl rfl ?_
      refine E_iload 0 dX0_greatestExchanges_84 rfl ?_
      refine E_iload_n 4 3 dX0_greatestExchanges_86 rfl rfl ?_
      refine E_invVI [vi x6, vi l3] dX0_greatestExchanges_87 fX0_begun lX0_68 ic_97 rfl (by decide) rfl rfl (Nat.le_of_ble_eq_true rfl) (CI_mono hP (fun r9 h8 hP => ?_))
      obtain ⟨⟨v10_0, v10_1, v10_2⟩, hP⟩ := hP
      refine E_iadd dX0_greatestExchanges_90 (rgI v10_0) ?_
      refine E_mmax dX0_greatestExchanges_91 lX0_71m (by decide) (Nat.le_of_ble_eq_true rfl) ?_
      refine E_iastore dX0_greatestExchanges_94 ic_98 v10_1.1 v10_1.2 ?_
      refine E_iinc 5 dX0_greatestExchanges_95 rfl (rgI v10_2) (by decide) rfl ?_
      refine E_goto 38 dX0_greatestExchanges_98 rfl ?_
      exact E_sub [2, 3, 4, 5, 0] rfl hP
theorem sX0_greatestExchanges_23 {Q : Int → Hp → Prop} {h : Hp} {a1 l2 l3 : Int}
    (hP : ((l3 > l2) →
     (ix l2 256) ∧
     Q (h 98 l2) h) ∧
    ((l3 ≤ l2) →
     (ix l3 256) ∧
     E 3 mX0_greatestExchanges 38 [(0, vr 97), (1, vr a1), (2, vi l2), (3, vi l3), (4, vi 0)] [] (up h 98 l3 0) (qi Q))) :
    E 3 mX0_greatestExchanges 23 [(0, vr 97), (1, vr a1), (2, vi l2), (3, vi l3)] [] h (qi Q) := by
  refine E_iload_n 3 3 dX0_greatestExchanges_23 rfl rfl ?_
  refine E_iload_n 2 2 dX0_greatestExchanges_24 rfl rfl ?_
  refine E_icmp_gt 107 dX0_greatestExchanges_25 rfl (fun hc => ?_) (fun hc => ?_)
  · replace hP := hP.1 (hc)
    obtain ⟨v2_0, hP⟩ := hP
    refine E_aload_n 0 0 dX0_greatestExchanges_107 rfl rfl ?_
    refine E_gR 98 0 dX0_greatestExchanges_108 FX0_9 ic_97 (by decide) ?_
    refine E_iload_n 2 2 dX0_greatestExchanges_111 rfl rfl ?_
    refine E_iaload dX0_greatestExchanges_112 ic_98 v2_0.1 v2_0.2 ?_
    exact E_retI dX0_greatestExchanges_113 rfl hP
  · replace hP := hP.2 (by omega)
    obtain ⟨v3_0, hP⟩ := hP
    refine E_aload_n 0 0 dX0_greatestExchanges_28 rfl rfl ?_
    refine E_gR 98 0 dX0_greatestExchanges_29 FX0_9 ic_97 (by decide) ?_
    refine E_iload_n 3 3 dX0_greatestExchanges_32 rfl rfl ?_
    refine E_iconst dX0_greatestExchanges_33 (rg_of rfl) ?_
    refine E_iastore dX0_greatestExchanges_34 ic_98 v3_0.1 v3_0.2 ?_
    refine E_iconst dX0_greatestExchanges_35 (rg_of rfl) ?_
    refine E_istore dX0_greatestExchanges_36 (by decide) rfl ?_
    exact E_sub [1, 2, 3, 4, 0] rfl hP
theorem sX0_greatestExchanges {Q : Int → Hp → Prop} {h : Hp} {a1 : Int}
    (hP : CV 2 mX0_noteExchanges [vr 97, vr a1] h (fun h2 =>
     (nA a1 ∧ rj ((j_ishl 1 (h2 a1 0)) - 1)) ∧
     (∀ x4 : Int, x4 = ((j_ishl 1 (h2 a1 0)) - 1) →
     (ix 0 256) ∧
     E 3 mX0_greatestExchanges 23 [(0, vr 97), (1, vr a1), (2, vi x4), (3, vi 1)] [] (up h2 98 0 0) (qi Q)))) :
    CI 3 mX0_greatestExchanges [vr 97, vr a1] h Q := by
  refine CI_of_E fX0_greatestExchanges.1 rfl (Nat.le_of_ble_eq_true rfl) ?_
  show E 3 mX0_greatestExchanges 0 [(0, vr 97), (1, vr a1)] [] h (qi Q)
  refine E_aload_n 0 0 dX0_greatestExchanges_0 rfl rfl ?_
  refine E_aload_n 1 1 dX0_greatestExchanges_1 rfl rfl ?_
  refine E_invVV [vr a1] dX0_greatestExchanges_2 fX0_noteExchanges lX0_61 ic_97 rfl (by decide) rfl rfl (Nat.le_of_ble_eq_true rfl) (CV_mono hP (fun h2 hP => ?_))
  obtain ⟨⟨v3_0, v3_1⟩, hP⟩ := hP
  refine E_iconst dX0_greatestExchanges_5 (rg_of rfl) ?_
  refine E_aload_n 1 1 dX0_greatestExchanges_6 rfl rfl ?_
  refine E_gI 0 0 dX0_greatestExchanges_7 FX0_47 (icN0 v3_0) rfl ?_
  refine E_ishl dX0_greatestExchanges_10 ?_
  refine E_iconst dX0_greatestExchanges_11 (rg_of rfl) ?_
  refine E_isub dX0_greatestExchanges_12 (rgI v3_1) ?_
  obtain ⟨x4, hx4⟩ : ∃ x : Int, x = ((j_ishl 1 (h2 a1 0)) - 1) := ⟨_, rfl⟩
  refine E_top hx4.symm ?_
  replace hP := hP x4 hx4
  refine E_istore_n dX0_greatestExchanges_13 rfl (by decide) rfl ?_
  obtain ⟨v5_0, hP⟩ := hP
  refine E_aload_n 1 0 dX0_greatestExchanges_14 rfl rfl ?_
  refine E_gR 98 0 dX0_greatestExchanges_15 FX0_9 ic_97 (by decide) ?_
  refine E_iconst dX0_greatestExchanges_18 (rg_of rfl) ?_
  refine E_iconst dX0_greatestExchanges_19 (rg_of rfl) ?_
  refine E_iastore dX0_greatestExchanges_20 ic_98 v5_0.1 v5_0.2 ?_
  refine E_iconst dX0_greatestExchanges_21 (rg_of rfl) ?_
  refine E_istore_n dX0_greatestExchanges_22 rfl (by decide) rfl ?_
  exact E_sub [2, 3, 1, 0] rfl hP
theorem dX4_countAfter_0 : decode prog_6_method_4_code 0 = .ok (.iconst 0, 1) := by decide +kernel
theorem dX4_countAfter_1 : decode prog_6_method_4_code 1 = .ok (.istore_n 3, 1) := by decide +kernel
theorem dX4_countAfter_2 : decode prog_6_method_4_code 2 = .ok (.iconst 0, 1) := by decide +kernel
theorem dX4_countAfter_3 : decode prog_6_method_4_code 3 = .ok (.istore 4, 2) := by decide +kernel
theorem dX4_countAfter_5 : decode prog_6_method_4_code 5 = .ok (.iload 4, 2) := by decide +kernel
theorem dX4_countAfter_7 : decode prog_6_method_4_code 7 = .ok (.aload_n 0, 1) := by decide +kernel
theorem dX4_countAfter_8 : decode prog_6_method_4_code 8 = .ok (.getfield 23, 3) := by decide +kernel
theorem dX4_countAfter_11 : decode prog_6_method_4_code 11 = .ok (.if_icmp .ge 48, 3) := by decide +kernel
theorem dX4_countAfter_14 : decode prog_6_method_4_code 14 = .ok (.aload_n 0, 1) := by decide +kernel
theorem dX4_countAfter_15 : decode prog_6_method_4_code 15 = .ok (.getfield 15, 3) := by decide +kernel
theorem dX4_countAfter_18 : decode prog_6_method_4_code 18 = .ok (.iload 4, 2) := by decide +kernel
theorem dX4_countAfter_20 : decode prog_6_method_4_code 20 = .ok (.iaload, 1) := by decide +kernel
theorem dX4_countAfter_21 : decode prog_6_method_4_code 21 = .ok (.iload_n 1, 1) := by decide +kernel
theorem dX4_countAfter_22 : decode prog_6_method_4_code 22 = .ok (.iload_n 2, 1) := by decide +kernel
theorem dX4_countAfter_23 : decode prog_6_method_4_code 23 = .ok (.invokestatic 33, 3) := by decide +kernel
theorem dX4_countAfter_26 : decode prog_6_method_4_code 26 = .ok (.istore 5, 2) := by decide +kernel
theorem dX4_countAfter_28 : decode prog_6_method_4_code 28 = .ok (.iload 5, 2) := by decide +kernel
theorem dX4_countAfter_30 : decode prog_6_method_4_code 30 = .ok (.aload_n 0, 1) := by decide +kernel
theorem dX4_countAfter_31 : decode prog_6_method_4_code 31 = .ok (.getfield 15, 3) := by decide +kernel
theorem dX4_countAfter_34 : decode prog_6_method_4_code 34 = .ok (.iload 4, 2) := by decide +kernel
theorem dX4_countAfter_36 : decode prog_6_method_4_code 36 = .ok (.iaload, 1) := by decide +kernel
theorem dX4_countAfter_37 : decode prog_6_method_4_code 37 = .ok (.if_icmp .eq 16, 3) := by decide +kernel
theorem dX4_countAfter_40 : decode prog_6_method_4_code 40 = .ok (.aload_n 0, 1) := by decide +kernel
theorem dX4_countAfter_41 : decode prog_6_method_4_code 41 = .ok (.getfield 9, 3) := by decide +kernel
theorem dX4_countAfter_44 : decode prog_6_method_4_code 44 = .ok (.iload 5, 2) := by decide +kernel
theorem dX4_countAfter_46 : decode prog_6_method_4_code 46 = .ok (.baload, 1) := by decide +kernel
theorem dX4_countAfter_47 : decode prog_6_method_4_code 47 = .ok (.ifCond .eq 6, 3) := by decide +kernel
theorem dX4_countAfter_50 : decode prog_6_method_4_code 50 = .ok (.iinc 3 1, 3) := by decide +kernel
theorem dX4_countAfter_53 : decode prog_6_method_4_code 53 = .ok (.iinc 4 1, 3) := by decide +kernel
theorem dX4_countAfter_56 : decode prog_6_method_4_code 56 = .ok (.goto (-51), 3) := by decide +kernel
theorem dX4_countAfter_59 : decode prog_6_method_4_code 59 = .ok (.aload_n 0, 1) := by decide +kernel
theorem dX4_countAfter_60 : decode prog_6_method_4_code 60 = .ok (.getfield 23, 3) := by decide +kernel
theorem dX4_countAfter_63 : decode prog_6_method_4_code 63 = .ok (.iload_n 3, 1) := by decide +kernel
theorem dX4_countAfter_64 : decode prog_6_method_4_code 64 = .ok (.isub, 1) := by decide +kernel
theorem dX4_countAfter_65 : decode prog_6_method_4_code 65 = .ok (.ireturn, 1) := by decide +kernel
theorem sX4_countAfter_5 {Q : Int → Hp → Prop} {h : Hp} {o0 l1 l2 l3 l4 : Int}
    (hP : (oA o0) ∧
    ((l4 ≥ (h o0 3)) →
     (oA o0 ∧ rj ((h o0 3) - l3)) ∧
     Q ((h o0 3) - l3) h) ∧
    ((l4 < (h o0 3)) →
     (oA o0 ∧ ix l4 256) ∧
     (∀ x4 : Int, x4 = (if (j_iand (j_ishr (h (o0 + 2) l4) l1) 1) ≤ (j_iand (j_ishr (h (o0 + 2) l4) l2) 1) then (h (o0 + 2) l4) else (j_ixor (h (o0 + 2) l4) (j_ior (j_ishl 1 l1) (j_ishl 1 l2)))) →
     (oA o0 ∧ ix l4 256) ∧
     ((x4 = (h (o0 + 2) l4)) →
      (rj (l4 + 1)) ∧
      E 1 mX4_countAfter 5 [(0, vr o0), (1, vi l1), (2, vi l2), (3, vi l3), (4, vi (l4 + 1))] [] h (qi Q)) ∧
     ((x4 ≠ (h (o0 + 2) l4)) →
      (oA o0 ∧ ix x4 256) ∧
      (((h (o0 + 1) x4) = 0) →
       (rj (l4 + 1)) ∧
       E 1 mX4_countAfter 5 [(0, vr o0), (1, vi l1), (2, vi l2), (3, vi l3), (4, vi (l4 + 1))] [] h (qi Q)) ∧
      (((h (o0 + 1) x4) ≠ 0) →
       (rj (l3 + 1) ∧ rj (l4 + 1)) ∧
       E 1 mX4_countAfter 5 [(0, vr o0), (1, vi l1), (2, vi l2), (3, vi (l3 + 1)), (4, vi (l4 + 1))] [] h (qi Q)))))) :
    E 1 mX4_countAfter 5 [(0, vr o0), (1, vi l1), (2, vi l2), (3, vi l3), (4, vi l4)] [] h (qi Q) := by
  obtain ⟨v1_0, hP⟩ := hP
  refine E_iload 4 dX4_countAfter_5 rfl ?_
  refine E_aload_n 0 0 dX4_countAfter_7 rfl rfl ?_
  refine E_gI 3 3 dX4_countAfter_8 FX4_23 (icO0 v1_0) rfl ?_
  refine E_icmp_ge 59 dX4_countAfter_11 rfl (fun hc => ?_) (fun hc => ?_)
  · replace hP := hP.1 (hc)
    obtain ⟨⟨v2_0, v2_1⟩, hP⟩ := hP
    refine E_aload_n 0 0 dX4_countAfter_59 rfl rfl ?_
    refine E_gI 3 3 dX4_countAfter_60 FX4_23 (icO0 v2_0) rfl ?_
    refine E_iload_n 3 3 dX4_countAfter_63 rfl rfl ?_
    refine E_isub dX4_countAfter_64 (rgI v2_1) ?_
    exact E_retI dX4_countAfter_65 rfl hP
  · replace hP := hP.2 (by omega)
    obtain ⟨⟨v3_0, v3_1⟩, hP⟩ := hP
    refine E_aload_n 0 0 dX4_countAfter_14 rfl rfl ?_
    refine E_gR (o0 + 2) 1 dX4_countAfter_15 FX4_15 (icO0 v3_0) (rfO1 v3_0) ?_
    refine E_iload 4 dX4_countAfter_18 rfl ?_
    refine E_iaload dX4_countAfter_20 (icO2 v3_0) v3_1.1 v3_1.2 ?_
    refine E_iload_n 1 1 dX4_countAfter_21 rfl rfl ?_
    refine E_iload_n 2 2 dX4_countAfter_22 rfl rfl ?_
    refine E_invNI [vi (h (o0 + 2) l4), vi l1, vi l2] dX4_countAfter_23 fX10_exchanged nX4_33 (by decide) rfl rfl (Nat.le_of_ble_eq_true rfl) (sX10_exchanged (h := h) (l0 := (h (o0 + 2) l4)) (l1 := l1) (l2 := l2) ?_)
    obtain ⟨x4, hx4⟩ : ∃ x : Int, x = (if (j_iand (j_ishr (h (o0 + 2) l4) l1) 1) ≤ (j_iand (j_ishr (h (o0 + 2) l4) l2) 1) then (h (o0 + 2) l4) else (j_ixor (h (o0 + 2) l4) (j_ior (j_ishl 1 l1) (j_ishl 1 l2)))) := ⟨_, rfl⟩
    refine E_top hx4.symm ?_
    replace hP := hP x4 hx4
    refine E_istore dX4_countAfter_26 (by decide) rfl ?_
    obtain ⟨⟨v5_0, v5_1⟩, hP⟩ := hP
    refine E_iload 0 dX4_countAfter_28 rfl ?_
    refine E_aload_n 1 0 dX4_countAfter_30 rfl rfl ?_
    refine E_gR (o0 + 2) 1 dX4_countAfter_31 FX4_15 (icO0 v5_0) (rfO1 v5_0) ?_
    refine E_iload 5 dX4_countAfter_34 rfl ?_
    refine E_iaload dX4_countAfter_36 (icO2 v5_0) v5_1.1 v5_1.2 ?_
    refine E_icmp_eq 53 dX4_countAfter_37 rfl (fun hc => ?_) (fun hc => ?_)
    · replace hP := hP.1 (hc)
      obtain ⟨v6_0, hP⟩ := hP
      refine E_iinc 5 dX4_countAfter_53 rfl (rgI v6_0) (by decide) rfl ?_
      refine E_goto 5 dX4_countAfter_56 rfl ?_
      exact E_sub [2, 3, 4, 5, 0] rfl hP
    · replace hP := hP.2 (by omega)
      obtain ⟨⟨v7_0, v7_1⟩, hP⟩ := hP
      refine E_aload_n 1 0 dX4_countAfter_40 rfl rfl ?_
      refine E_gR (o0 + 1) 0 dX4_countAfter_41 FX4_9 (icO0 v7_0) (rfO0 v7_0) ?_
      refine E_iload 0 dX4_countAfter_44 rfl ?_
      refine E_baload dX4_countAfter_46 (icO1 v7_0) v7_1.1 v7_1.2 ?_
      refine E_if_eq 53 dX4_countAfter_47 rfl (fun hc => ?_) (fun hc => ?_)
      · replace hP := hP.1 (hc)
        obtain ⟨v8_0, hP⟩ := hP
        refine E_iinc 5 dX4_countAfter_53 rfl (rgI v8_0) (by decide) rfl ?_
        refine E_goto 5 dX4_countAfter_56 rfl ?_
        exact E_sub [2, 3, 4, 5, 0] rfl hP
      · replace hP := hP.2 (by omega)
        obtain ⟨⟨v9_0, v9_1⟩, hP⟩ := hP
        refine E_iinc 4 dX4_countAfter_50 rfl (rgI v9_0) (by decide) rfl ?_
        refine E_iinc 5 dX4_countAfter_53 rfl (rgI v9_1) (by decide) rfl ?_
        refine E_goto 5 dX4_countAfter_56 rfl ?_
        exact E_sub [3, 4, 5, 1, 0] rfl hP
theorem sX4_countAfter {Q : Int → Hp → Prop} {h : Hp} {o0 l1 l2 : Int}
    (hP : E 1 mX4_countAfter 5 [(0, vr o0), (1, vi l1), (2, vi l2), (3, vi 0), (4, vi 0)] [] h (qi Q)) :
    CI 1 mX4_countAfter [vr o0, vi l1, vi l2] h Q := by
  refine CI_of_E fX4_countAfter.1 rfl (Nat.le_of_ble_eq_true rfl) ?_
  show E 1 mX4_countAfter 0 [(0, vr o0), (1, vi l1), (2, vi l2)] [] h (qi Q)
  refine E_iconst dX4_countAfter_0 (rg_of rfl) ?_
  refine E_istore_n dX4_countAfter_1 rfl (by decide) rfl ?_
  refine E_iconst dX4_countAfter_2 (rg_of rfl) ?_
  refine E_istore dX4_countAfter_3 (by decide) rfl ?_
  exact E_sub [2, 3, 4, 1, 0] rfl hP
theorem dX1_rankOne_0 : decode prog_3_method_3_code 0 = .ok (.aload_n 0, 1) := by decide +kernel
theorem dX1_rankOne_1 : decode prog_3_method_3_code 1 = .ok (.getfield 21, 3) := by decide +kernel
theorem dX1_rankOne_4 : decode prog_3_method_3_code 4 = .ok (.bipush 28, 2) := by decide +kernel
theorem dX1_rankOne_6 : decode prog_3_method_3_code 6 = .ok (.if_icmp .lt 4, 3) := by decide +kernel
theorem dX1_rankOne_9 : decode prog_3_method_3_code 9 = .ok (.return_, 1) := by decide +kernel
theorem dX1_rankOne_10 : decode prog_3_method_3_code 10 = .ok (.aload_n 0, 1) := by decide +kernel
theorem dX1_rankOne_11 : decode prog_3_method_3_code 11 = .ok (.getfield 21, 3) := by decide +kernel
theorem dX1_rankOne_14 : decode prog_3_method_3_code 14 = .ok (.istore 4, 2) := by decide +kernel
theorem dX1_rankOne_16 : decode prog_3_method_3_code 16 = .ok (.iload 4, 2) := by decide +kernel
theorem dX1_rankOne_18 : decode prog_3_method_3_code 18 = .ok (.ifCond .le 70, 3) := by decide +kernel
theorem dX1_rankOne_21 : decode prog_3_method_3_code 21 = .ok (.aload_n 0, 1) := by decide +kernel
theorem dX1_rankOne_22 : decode prog_3_method_3_code 22 = .ok (.getfield 18, 3) := by decide +kernel
theorem dX1_rankOne_25 : decode prog_3_method_3_code 25 = .ok (.iload 4, 2) := by decide +kernel
theorem dX1_rankOne_27 : decode prog_3_method_3_code 27 = .ok (.iconst 1, 1) := by decide +kernel
theorem dX1_rankOne_28 : decode prog_3_method_3_code 28 = .ok (.isub, 1) := by decide +kernel
theorem dX1_rankOne_29 : decode prog_3_method_3_code 29 = .ok (.iaload, 1) := by decide +kernel
theorem dX1_rankOne_30 : decode prog_3_method_3_code 30 = .ok (.iload_n 3, 1) := by decide +kernel
theorem dX1_rankOne_31 : decode prog_3_method_3_code 31 = .ok (.if_icmp .le 57, 3) := by decide +kernel
theorem dX1_rankOne_34 : decode prog_3_method_3_code 34 = .ok (.aload_n 0, 1) := by decide +kernel
theorem dX1_rankOne_35 : decode prog_3_method_3_code 35 = .ok (.getfield 9, 3) := by decide +kernel
theorem dX1_rankOne_38 : decode prog_3_method_3_code 38 = .ok (.iload 4, 2) := by decide +kernel
theorem dX1_rankOne_40 : decode prog_3_method_3_code 40 = .ok (.aload_n 0, 1) := by decide +kernel
theorem dX1_rankOne_41 : decode prog_3_method_3_code 41 = .ok (.getfield 9, 3) := by decide +kernel
theorem dX1_rankOne_44 : decode prog_3_method_3_code 44 = .ok (.iload 4, 2) := by decide +kernel
theorem dX1_rankOne_46 : decode prog_3_method_3_code 46 = .ok (.iconst 1, 1) := by decide +kernel
theorem dX1_rankOne_47 : decode prog_3_method_3_code 47 = .ok (.isub, 1) := by decide +kernel
theorem dX1_rankOne_48 : decode prog_3_method_3_code 48 = .ok (.iaload, 1) := by decide +kernel
theorem dX1_rankOne_49 : decode prog_3_method_3_code 49 = .ok (.iastore, 1) := by decide +kernel
theorem dX1_rankOne_50 : decode prog_3_method_3_code 50 = .ok (.aload_n 0, 1) := by decide +kernel
theorem dX1_rankOne_51 : decode prog_3_method_3_code 51 = .ok (.getfield 15, 3) := by decide +kernel
theorem dX1_rankOne_54 : decode prog_3_method_3_code 54 = .ok (.iload 4, 2) := by decide +kernel
theorem dX1_rankOne_56 : decode prog_3_method_3_code 56 = .ok (.aload_n 0, 1) := by decide +kernel
theorem dX1_rankOne_57 : decode prog_3_method_3_code 57 = .ok (.getfield 15, 3) := by decide +kernel
theorem dX1_rankOne_60 : decode prog_3_method_3_code 60 = .ok (.iload 4, 2) := by decide +kernel
theorem dX1_rankOne_62 : decode prog_3_method_3_code 62 = .ok (.iconst 1, 1) := by decide +kernel
theorem dX1_rankOne_63 : decode prog_3_method_3_code 63 = .ok (.isub, 1) := by decide +kernel
theorem dX1_rankOne_64 : decode prog_3_method_3_code 64 = .ok (.iaload, 1) := by decide +kernel
theorem dX1_rankOne_65 : decode prog_3_method_3_code 65 = .ok (.iastore, 1) := by decide +kernel
theorem dX1_rankOne_66 : decode prog_3_method_3_code 66 = .ok (.aload_n 0, 1) := by decide +kernel
theorem dX1_rankOne_67 : decode prog_3_method_3_code 67 = .ok (.getfield 18, 3) := by decide +kernel
theorem dX1_rankOne_70 : decode prog_3_method_3_code 70 = .ok (.iload 4, 2) := by decide +kernel
theorem dX1_rankOne_72 : decode prog_3_method_3_code 72 = .ok (.aload_n 0, 1) := by decide +kernel
theorem dX1_rankOne_73 : decode prog_3_method_3_code 73 = .ok (.getfield 18, 3) := by decide +kernel
theorem dX1_rankOne_76 : decode prog_3_method_3_code 76 = .ok (.iload 4, 2) := by decide +kernel
theorem dX1_rankOne_78 : decode prog_3_method_3_code 78 = .ok (.iconst 1, 1) := by decide +kernel
theorem dX1_rankOne_79 : decode prog_3_method_3_code 79 = .ok (.isub, 1) := by decide +kernel
theorem dX1_rankOne_80 : decode prog_3_method_3_code 80 = .ok (.iaload, 1) := by decide +kernel
theorem dX1_rankOne_81 : decode prog_3_method_3_code 81 = .ok (.iastore, 1) := by decide +kernel
theorem dX1_rankOne_82 : decode prog_3_method_3_code 82 = .ok (.iinc 4 (-1), 3) := by decide +kernel
theorem dX1_rankOne_85 : decode prog_3_method_3_code 85 = .ok (.goto (-69), 3) := by decide +kernel
theorem dX1_rankOne_88 : decode prog_3_method_3_code 88 = .ok (.aload_n 0, 1) := by decide +kernel
theorem dX1_rankOne_89 : decode prog_3_method_3_code 89 = .ok (.getfield 9, 3) := by decide +kernel
theorem dX1_rankOne_92 : decode prog_3_method_3_code 92 = .ok (.iload 4, 2) := by decide +kernel
theorem dX1_rankOne_94 : decode prog_3_method_3_code 94 = .ok (.iload_n 1, 1) := by decide +kernel
theorem dX1_rankOne_95 : decode prog_3_method_3_code 95 = .ok (.iastore, 1) := by decide +kernel
theorem dX1_rankOne_96 : decode prog_3_method_3_code 96 = .ok (.aload_n 0, 1) := by decide +kernel
theorem dX1_rankOne_97 : decode prog_3_method_3_code 97 = .ok (.getfield 15, 3) := by decide +kernel
theorem dX1_rankOne_100 : decode prog_3_method_3_code 100 = .ok (.iload 4, 2) := by decide +kernel
theorem dX1_rankOne_102 : decode prog_3_method_3_code 102 = .ok (.iload_n 2, 1) := by decide +kernel
theorem dX1_rankOne_103 : decode prog_3_method_3_code 103 = .ok (.iastore, 1) := by decide +kernel
theorem dX1_rankOne_104 : decode prog_3_method_3_code 104 = .ok (.aload_n 0, 1) := by decide +kernel
theorem dX1_rankOne_105 : decode prog_3_method_3_code 105 = .ok (.getfield 18, 3) := by decide +kernel
theorem dX1_rankOne_108 : decode prog_3_method_3_code 108 = .ok (.iload 4, 2) := by decide +kernel
theorem dX1_rankOne_110 : decode prog_3_method_3_code 110 = .ok (.iload_n 3, 1) := by decide +kernel
theorem dX1_rankOne_111 : decode prog_3_method_3_code 111 = .ok (.iastore, 1) := by decide +kernel
theorem dX1_rankOne_112 : decode prog_3_method_3_code 112 = .ok (.aload_n 0, 1) := by decide +kernel
theorem dX1_rankOne_113 : decode prog_3_method_3_code 113 = .ok (.dup, 1) := by decide +kernel
theorem dX1_rankOne_114 : decode prog_3_method_3_code 114 = .ok (.getfield 21, 3) := by decide +kernel
theorem dX1_rankOne_117 : decode prog_3_method_3_code 117 = .ok (.iconst 1, 1) := by decide +kernel
theorem dX1_rankOne_118 : decode prog_3_method_3_code 118 = .ok (.iadd, 1) := by decide +kernel
theorem dX1_rankOne_119 : decode prog_3_method_3_code 119 = .ok (.putfield 21, 3) := by decide +kernel
theorem dX1_rankOne_122 : decode prog_3_method_3_code 122 = .ok (.return_, 1) := by decide +kernel
theorem sX1_rankOne_88 {Q : Hp → Prop} {h : Hp} {l1 l2 l3 l4 : Int}
    (hP : (ix l4 28 ∧ rj ((h 91 3) + 1)) ∧
    Q (up (up (up (up h 92 l4 l1) 93 l4 l2) 94 l4 l3) 91 3 ((h 91 3) + 1))) :
    E 0 mX1_rankOne 88 [(0, vr 91), (1, vi l1), (2, vi l2), (3, vi l3), (4, vi l4)] [] h (qv Q) := by
  obtain ⟨⟨v1_0, v1_1⟩, hP⟩ := hP
  refine E_aload_n 0 0 dX1_rankOne_88 rfl rfl ?_
  refine E_gR 92 0 dX1_rankOne_89 FX1_9 ic_91 (by decide) ?_
  refine E_iload 4 dX1_rankOne_92 rfl ?_
  refine E_iload_n 1 1 dX1_rankOne_94 rfl rfl ?_
  refine E_iastore dX1_rankOne_95 ic_92 v1_0.1 v1_0.2 ?_
  refine E_aload_n 0 0 dX1_rankOne_96 rfl rfl ?_
  refine E_gR 93 1 dX1_rankOne_97 FX1_15 ic_91 (by decide) ?_
  refine E_iload 4 dX1_rankOne_100 rfl ?_
  refine E_iload_n 2 2 dX1_rankOne_102 rfl rfl ?_
  refine E_iastore dX1_rankOne_103 ic_93 v1_0.1 v1_0.2 ?_
  refine E_aload_n 0 0 dX1_rankOne_104 rfl rfl ?_
  refine E_gR 94 2 dX1_rankOne_105 FX1_18 ic_91 (by decide) ?_
  refine E_iload 4 dX1_rankOne_108 rfl ?_
  refine E_iload_n 3 3 dX1_rankOne_110 rfl rfl ?_
  refine E_iastore dX1_rankOne_111 ic_94 v1_0.1 v1_0.2 ?_
  refine E_aload_n 0 0 dX1_rankOne_112 rfl rfl ?_
  refine E_dup dX1_rankOne_113 rfl ?_
  refine E_gI 3 3 dX1_rankOne_114 FX1_21 ic_91 rfl ?_
  refine E_top (y := (h 91 3)) (by simp [up]) ?_
  refine E_iconst dX1_rankOne_117 (rg_of rfl) ?_
  refine E_iadd dX1_rankOne_118 (rgI v1_1) ?_
  refine E_pI 3 3 dX1_rankOne_119 PX1_21 ic_91 rfl ?_
  exact E_retV dX1_rankOne_122 rfl hP
theorem sX1_rankOne_16 {Q : Hp → Prop} {h : Hp} {l1 l2 l3 l4 : Int}
    (hP : ((l4 ≤ 0) →
     E 0 mX1_rankOne 88 [(0, vr 91), (1, vi l1), (2, vi l2), (3, vi l3), (4, vi l4)] [] h (qv Q)) ∧
    ((l4 > 0) →
     (rj (l4 - 1) ∧ ix (l4 - 1) 28) ∧
     (((h 94 (l4 - 1)) ≤ l3) →
      E 0 mX1_rankOne 88 [(0, vr 91), (1, vi l1), (2, vi l2), (3, vi l3), (4, vi l4)] [] h (qv Q)) ∧
     (((h 94 (l4 - 1)) > l3) →
      (rj (l4 - 1) ∧ ix (l4 - 1) 28 ∧ ix l4 28 ∧ rj (l4 + (-1))) ∧
      E 0 mX1_rankOne 16 [(0, vr 91), (1, vi l1), (2, vi l2), (3, vi l3), (4, vi (l4 + (-1)))] [] (up (up (up h 92 l4 (h 92 (l4 - 1))) 93 l4 (h 93 (l4 - 1))) 94 l4 (h 94 (l4 - 1))) (qv Q)))) :
    E 0 mX1_rankOne 16 [(0, vr 91), (1, vi l1), (2, vi l2), (3, vi l3), (4, vi l4)] [] h (qv Q) := by
  refine E_iload 4 dX1_rankOne_16 rfl ?_
  refine E_if_le 88 dX1_rankOne_18 rfl (fun hc => ?_) (fun hc => ?_)
  · replace hP := hP.1 (hc)
    exact hP
  · replace hP := hP.2 (by omega)
    obtain ⟨⟨v3_0, v3_1⟩, hP⟩ := hP
    refine E_aload_n 0 0 dX1_rankOne_21 rfl rfl ?_
    refine E_gR 94 2 dX1_rankOne_22 FX1_18 ic_91 (by decide) ?_
    refine E_iload 4 dX1_rankOne_25 rfl ?_
    refine E_iconst dX1_rankOne_27 (rg_of rfl) ?_
    refine E_isub dX1_rankOne_28 (rgI v3_0) ?_
    refine E_iaload dX1_rankOne_29 ic_94 v3_1.1 v3_1.2 ?_
    refine E_iload_n 3 3 dX1_rankOne_30 rfl rfl ?_
    refine E_icmp_le 88 dX1_rankOne_31 rfl (fun hc => ?_) (fun hc => ?_)
    · replace hP := hP.1 (hc)
      exact hP
    · replace hP := hP.2 (by omega)
      obtain ⟨⟨v5_0, v5_1, v5_2, v5_3⟩, hP⟩ := hP
      refine E_aload_n 0 0 dX1_rankOne_34 rfl rfl ?_
      refine E_gR 92 0 dX1_rankOne_35 FX1_9 ic_91 (by decide) ?_
      refine E_iload 4 dX1_rankOne_38 rfl ?_
      refine E_aload_n 0 0 dX1_rankOne_40 rfl rfl ?_
      refine E_gR 92 0 dX1_rankOne_41 FX1_9 ic_91 (by decide) ?_
      refine E_iload 4 dX1_rankOne_44 rfl ?_
      refine E_iconst dX1_rankOne_46 (rg_of rfl) ?_
      refine E_isub dX1_rankOne_47 (rgI v5_0) ?_
      refine E_iaload dX1_rankOne_48 ic_92 v5_1.1 v5_1.2 ?_
      refine E_iastore dX1_rankOne_49 ic_92 v5_2.1 v5_2.2 ?_
      refine E_aload_n 0 0 dX1_rankOne_50 rfl rfl ?_
      refine E_gR 93 1 dX1_rankOne_51 FX1_15 ic_91 (by decide) ?_
      refine E_iload 4 dX1_rankOne_54 rfl ?_
      refine E_aload_n 0 0 dX1_rankOne_56 rfl rfl ?_
      refine E_gR 93 1 dX1_rankOne_57 FX1_15 ic_91 (by decide) ?_
      refine E_iload 4 dX1_rankOne_60 rfl ?_
      refine E_iconst dX1_rankOne_62 (rg_of rfl) ?_
      refine E_isub dX1_rankOne_63 (rgI v5_0) ?_
      refine E_iaload dX1_rankOne_64 ic_93 v5_1.1 v5_1.2 ?_
      refine E_top (y := (h 93 (l4 - 1))) (by simp [up]) ?_
      refine E_iastore dX1_rankOne_65 ic_93 v5_2.1 v5_2.2 ?_
      refine E_aload_n 0 0 dX1_rankOne_66 rfl rfl ?_
      refine E_gR 94 2 dX1_rankOne_67 FX1_18 ic_91 (by decide) ?_
      refine E_iload 4 dX1_rankOne_70 rfl ?_
      refine E_aload_n 0 0 dX1_rankOne_72 rfl rfl ?_
      refine E_gR 94 2 dX1_rankOne_73 FX1_18 ic_91 (by decide) ?_
      refine E_iload 4 dX1_rankOne_76 rfl ?_
      refine E_iconst dX1_rankOne_78 (rg_of rfl) ?_
      refine E_isub dX1_rankOne_79 (rgI v5_0) ?_
      refine E_iaload dX1_rankOne_80 ic_94 v5_1.1 v5_1.2 ?_
      refine E_top (y := (h 94 (l4 - 1))) (by simp [up]) ?_
      refine E_iastore dX1_rankOne_81 ic_94 v5_2.1 v5_2.2 ?_
      refine E_iinc 4 dX1_rankOne_82 rfl (rgI v5_3) (by decide) rfl ?_
      refine E_goto 16 dX1_rankOne_85 rfl ?_
      exact E_sub [1, 2, 3, 4, 0] rfl hP
theorem sX1_rankOne {Q : Hp → Prop} {h : Hp} {l1 l2 l3 : Int}
    (hP : (((h 91 3) < 28) →
     E 0 mX1_rankOne 16 [(0, vr 91), (1, vi l1), (2, vi l2), (3, vi l3), (4, vi (h 91 3))] [] h (qv Q)) ∧
    (((h 91 3) ≥ 28) →
     Q h)) :
    CV 0 mX1_rankOne [vr 91, vi l1, vi l2, vi l3] h Q := by
  refine CV_of_E fX1_rankOne.1 rfl (Nat.le_of_ble_eq_true rfl) ?_
  show E 0 mX1_rankOne 0 [(0, vr 91), (1, vi l1), (2, vi l2), (3, vi l3)] [] h (qv Q)
  refine E_aload_n 0 0 dX1_rankOne_0 rfl rfl ?_
  refine E_gI 3 3 dX1_rankOne_1 FX1_21 ic_91 rfl ?_
  refine E_bipush dX1_rankOne_4 (by decide) ?_
  refine E_icmp_lt 10 dX1_rankOne_6 rfl (fun hc => ?_) (fun hc => ?_)
  · replace hP := hP.1 (hc)
    refine E_aload_n 0 0 dX1_rankOne_10 rfl rfl ?_
    refine E_gI 3 3 dX1_rankOne_11 FX1_21 ic_91 rfl ?_
    refine E_istore dX1_rankOne_14 (by decide) rfl ?_
    exact E_sub [1, 2, 3, 4, 0] rfl hP
  · replace hP := hP.2 (by omega)
    exact E_retV dX1_rankOne_9 rfl hP
theorem dX1_rankAll_0 : decode prog_3_method_2_code 0 = .ok (.aload_n 0, 1) := by decide +kernel
theorem dX1_rankAll_1 : decode prog_3_method_2_code 1 = .ok (.iconst 0, 1) := by decide +kernel
theorem dX1_rankAll_2 : decode prog_3_method_2_code 2 = .ok (.putfield 21, 3) := by decide +kernel
theorem dX1_rankAll_5 : decode prog_3_method_2_code 5 = .ok (.iconst 0, 1) := by decide +kernel
theorem dX1_rankAll_6 : decode prog_3_method_2_code 6 = .ok (.istore_n 2, 1) := by decide +kernel
theorem dX1_rankAll_7 : decode prog_3_method_2_code 7 = .ok (.iload_n 2, 1) := by decide +kernel
theorem dX1_rankAll_8 : decode prog_3_method_2_code 8 = .ok (.aload_n 1, 1) := by decide +kernel
theorem dX1_rankAll_9 : decode prog_3_method_2_code 9 = .ok (.getfield 31, 3) := by decide +kernel
theorem dX1_rankAll_12 : decode prog_3_method_2_code 12 = .ok (.if_icmp .ge 39, 3) := by decide +kernel
theorem dX1_rankAll_15 : decode prog_3_method_2_code 15 = .ok (.iload_n 2, 1) := by decide +kernel
theorem dX1_rankAll_16 : decode prog_3_method_2_code 16 = .ok (.iconst 1, 1) := by decide +kernel
theorem dX1_rankAll_17 : decode prog_3_method_2_code 17 = .ok (.iadd, 1) := by decide +kernel
theorem dX1_rankAll_18 : decode prog_3_method_2_code 18 = .ok (.istore_n 3, 1) := by decide +kernel
theorem dX1_rankAll_19 : decode prog_3_method_2_code 19 = .ok (.iload_n 3, 1) := by decide +kernel
theorem dX1_rankAll_20 : decode prog_3_method_2_code 20 = .ok (.aload_n 1, 1) := by decide +kernel
theorem dX1_rankAll_21 : decode prog_3_method_2_code 21 = .ok (.getfield 31, 3) := by decide +kernel
theorem dX1_rankAll_24 : decode prog_3_method_2_code 24 = .ok (.if_icmp .ge 21, 3) := by decide +kernel
theorem dX1_rankAll_27 : decode prog_3_method_2_code 27 = .ok (.aload_n 0, 1) := by decide +kernel
theorem dX1_rankAll_28 : decode prog_3_method_2_code 28 = .ok (.iload_n 2, 1) := by decide +kernel
theorem dX1_rankAll_29 : decode prog_3_method_2_code 29 = .ok (.iload_n 3, 1) := by decide +kernel
theorem dX1_rankAll_30 : decode prog_3_method_2_code 30 = .ok (.aload_n 1, 1) := by decide +kernel
theorem dX1_rankAll_31 : decode prog_3_method_2_code 31 = .ok (.iload_n 2, 1) := by decide +kernel
theorem dX1_rankAll_32 : decode prog_3_method_2_code 32 = .ok (.iload_n 3, 1) := by decide +kernel
theorem dX1_rankAll_33 : decode prog_3_method_2_code 33 = .ok (.invokevirtual 36, 3) := by decide +kernel
theorem dX1_rankAll_36 : decode prog_3_method_2_code 36 = .ok (.invokevirtual 40, 3) := by decide +kernel
theorem dX1_rankAll_39 : decode prog_3_method_2_code 39 = .ok (.iinc 3 1, 3) := by decide +kernel
theorem dX1_rankAll_42 : decode prog_3_method_2_code 42 = .ok (.goto (-23), 3) := by decide +kernel
theorem dX1_rankAll_45 : decode prog_3_method_2_code 45 = .ok (.iinc 2 1, 3) := by decide +kernel
theorem dX1_rankAll_48 : decode prog_3_method_2_code 48 = .ok (.goto (-41), 3) := by decide +kernel
theorem dX1_rankAll_51 : decode prog_3_method_2_code 51 = .ok (.return_, 1) := by decide +kernel
theorem sX1_rankAll_19 {Q : Hp → Prop} {h : Hp} {o1 l2 l3 : Int}
    (hP : (oA o1) ∧
    ((l3 ≥ (h o1 2)) →
     (rj (l2 + 1)) ∧
     E 2 mX1_rankAll 7 [(0, vr 91), (1, vr o1), (2, vi (l2 + 1))] [] h (qv Q)) ∧
    ((l3 < (h o1 2)) →
     (oA o1) ∧
     CI 1 mX4_countAfter [vr o1, vi l2, vi l3] h (fun r5 h4 =>
      CV 0 mX1_rankOne [vr 91, vi l2, vi l3, vi r5] h4 (fun h7 =>
       (rj (l3 + 1)) ∧
       E 2 mX1_rankAll 19 [(0, vr 91), (1, vr o1), (2, vi l2), (3, vi (l3 + 1))] [] h7 (qv Q))))) :
    E 2 mX1_rankAll 19 [(0, vr 91), (1, vr o1), (2, vi l2), (3, vi l3)] [] h (qv Q) := by
  obtain ⟨v1_0, hP⟩ := hP
  refine E_iload_n 3 3 dX1_rankAll_19 rfl rfl ?_
  refine E_aload_n 1 1 dX1_rankAll_20 rfl rfl ?_
  refine E_gI 2 2 dX1_rankAll_21 FX1_31 (icO0 v1_0) rfl ?_
  refine E_icmp_ge 45 dX1_rankAll_24 rfl (fun hc => ?_) (fun hc => ?_)
  · replace hP := hP.1 (hc)
    obtain ⟨v2_0, hP⟩ := hP
    refine E_iinc 2 dX1_rankAll_45 rfl (rgI v2_0) (by decide) rfl ?_
    refine E_goto 7 dX1_rankAll_48 rfl ?_
    exact E_sub [1, 2, 0] rfl hP
  · replace hP := hP.2 (by omega)
    obtain ⟨v3_0, hP⟩ := hP
    refine E_aload_n 0 0 dX1_rankAll_27 rfl rfl ?_
    refine E_iload_n 2 2 dX1_rankAll_28 rfl rfl ?_
    refine E_iload_n 3 3 dX1_rankAll_29 rfl rfl ?_
    refine E_aload_n 1 1 dX1_rankAll_30 rfl rfl ?_
    refine E_iload_n 2 2 dX1_rankAll_31 rfl rfl ?_
    refine E_iload_n 3 3 dX1_rankAll_32 rfl rfl ?_
    refine E_invVI [vi l2, vi l3] dX1_rankAll_33 fX4_countAfter lX1_36 (icO0 v3_0) rfl (by decide) rfl rfl (Nat.le_of_ble_eq_true rfl) (CI_mono hP (fun r5 h4 hP => ?_))
    refine E_invVV [vi l2, vi l3, vi r5] dX1_rankAll_36 fX1_rankOne lX1_40 ic_91 rfl (by decide) rfl rfl (Nat.le_of_ble_eq_true rfl) (CV_mono hP (fun h7 hP => ?_))
    obtain ⟨v8_0, hP⟩ := hP
    refine E_iinc 3 dX1_rankAll_39 rfl (rgI v8_0) (by decide) rfl ?_
    refine E_goto 19 dX1_rankAll_42 rfl ?_
    exact E_sub [1, 2, 3, 0] rfl hP
theorem sX1_rankAll_7 {Q : Hp → Prop} {h : Hp} {o1 l2 : Int}
    (hP : (oA o1) ∧
    ((l2 ≥ (h o1 2)) →
     Q h) ∧
    ((l2 < (h o1 2)) →
     (rj (l2 + 1)) ∧
     E 2 mX1_rankAll 19 [(0, vr 91), (1, vr o1), (2, vi l2), (3, vi (l2 + 1))] [] h (qv Q))) :
    E 2 mX1_rankAll 7 [(0, vr 91), (1, vr o1), (2, vi l2)] [] h (qv Q) := by
  obtain ⟨v1_0, hP⟩ := hP
  refine E_iload_n 2 2 dX1_rankAll_7 rfl rfl ?_
  refine E_aload_n 1 1 dX1_rankAll_8 rfl rfl ?_
  refine E_gI 2 2 dX1_rankAll_9 FX1_31 (icO0 v1_0) rfl ?_
  refine E_icmp_ge 51 dX1_rankAll_12 rfl (fun hc => ?_) (fun hc => ?_)
  · replace hP := hP.1 (hc)
    exact E_retV dX1_rankAll_51 rfl hP
  · replace hP := hP.2 (by omega)
    obtain ⟨v3_0, hP⟩ := hP
    refine E_iload_n 2 2 dX1_rankAll_15 rfl rfl ?_
    refine E_iconst dX1_rankAll_16 (rg_of rfl) ?_
    refine E_iadd dX1_rankAll_17 (rgI v3_0) ?_
    refine E_istore_n dX1_rankAll_18 rfl (by decide) rfl ?_
    exact E_sub [1, 2, 3, 0] rfl hP
theorem sX1_rankAll {Q : Hp → Prop} {h : Hp} {o1 : Int}
    (hP : E 2 mX1_rankAll 7 [(0, vr 91), (1, vr o1), (2, vi 0)] [] (up h 91 3 0) (qv Q)) :
    CV 2 mX1_rankAll [vr 91, vr o1] h Q := by
  refine CV_of_E fX1_rankAll.1 rfl (Nat.le_of_ble_eq_true rfl) ?_
  show E 2 mX1_rankAll 0 [(0, vr 91), (1, vr o1)] [] h (qv Q)
  refine E_aload_n 0 0 dX1_rankAll_0 rfl rfl ?_
  refine E_iconst dX1_rankAll_1 (rg_of rfl) ?_
  refine E_pI 3 3 dX1_rankAll_2 PX1_21 ic_91 rfl ?_
  refine E_iconst dX1_rankAll_5 (rg_of rfl) ?_
  refine E_istore_n dX1_rankAll_6 rfl (by decide) rfl ?_
  exact E_sub [1, 2, 0] rfl hP
theorem dX1_codeAt_0 : decode prog_3_method_4_code 0 = .ok (.iload_n 1, 1) := by decide +kernel
theorem dX1_codeAt_1 : decode prog_3_method_4_code 1 = .ok (.ifCond .lt 30, 3) := by decide +kernel
theorem dX1_codeAt_4 : decode prog_3_method_4_code 4 = .ok (.iload_n 1, 1) := by decide +kernel
theorem dX1_codeAt_5 : decode prog_3_method_4_code 5 = .ok (.aload_n 0, 1) := by decide +kernel
theorem dX1_codeAt_6 : decode prog_3_method_4_code 6 = .ok (.getfield 21, 3) := by decide +kernel
theorem dX1_codeAt_9 : decode prog_3_method_4_code 9 = .ok (.if_icmp .ge 22, 3) := by decide +kernel
theorem dX1_codeAt_12 : decode prog_3_method_4_code 12 = .ok (.bipush 10, 2) := by decide +kernel
theorem dX1_codeAt_14 : decode prog_3_method_4_code 14 = .ok (.aload_n 0, 1) := by decide +kernel
theorem dX1_codeAt_15 : decode prog_3_method_4_code 15 = .ok (.getfield 9, 3) := by decide +kernel
theorem dX1_codeAt_18 : decode prog_3_method_4_code 18 = .ok (.iload_n 1, 1) := by decide +kernel
theorem dX1_codeAt_19 : decode prog_3_method_4_code 19 = .ok (.iaload, 1) := by decide +kernel
theorem dX1_codeAt_20 : decode prog_3_method_4_code 20 = .ok (.imul, 1) := by decide +kernel
theorem dX1_codeAt_21 : decode prog_3_method_4_code 21 = .ok (.aload_n 0, 1) := by decide +kernel
theorem dX1_codeAt_22 : decode prog_3_method_4_code 22 = .ok (.getfield 15, 3) := by decide +kernel
theorem dX1_codeAt_25 : decode prog_3_method_4_code 25 = .ok (.iload_n 1, 1) := by decide +kernel
theorem dX1_codeAt_26 : decode prog_3_method_4_code 26 = .ok (.iaload, 1) := by decide +kernel
theorem dX1_codeAt_27 : decode prog_3_method_4_code 27 = .ok (.iadd, 1) := by decide +kernel
theorem dX1_codeAt_28 : decode prog_3_method_4_code 28 = .ok (.goto 5, 3) := by decide +kernel
theorem dX1_codeAt_31 : decode prog_3_method_4_code 31 = .ok (.bipush (-2), 2) := by decide +kernel
theorem dX1_codeAt_33 : decode prog_3_method_4_code 33 = .ok (.ireturn, 1) := by decide +kernel
theorem sX1_codeAt {Q : Int → Hp → Prop} {h : Hp} {l1 : Int}
    (hP : (((l1 ≥ 0 ∧ l1 < (h 91 3)) → (ix l1 28)) ∧ ((l1 ≥ 0 ∧ l1 < (h 91 3)) → (rj (10 * (h 92 l1)))) ∧ ((l1 ≥ 0 ∧ l1 < (h 91 3)) → (rj ((10 * (h 92 l1)) + (h 93 l1))))) ∧
    Q (if l1 < 0 then (-2) else (if l1 ≥ (h 91 3) then (-2) else ((10 * (h 92 l1)) + (h 93 l1)))) h) :
    CI 0 mX1_codeAt [vr 91, vi l1] h Q := by
  refine CI_of_E fX1_codeAt.1 rfl (Nat.le_of_ble_eq_true rfl) ?_
  show E 0 mX1_codeAt 0 [(0, vr 91), (1, vi l1)] [] h (qi Q)
  obtain ⟨⟨v1_0, v1_1, v1_2⟩, hP⟩ := hP
  refine E_iload_n 1 1 dX1_codeAt_0 rfl rfl ?_
  have hJ : E 0 mX1_codeAt 33 [(0, vr 91), (1, vi l1)] [vi (if l1 < 0 then (-2) else (if l1 ≥ (h 91 3) then (-2) else ((10 * (h 92 l1)) + (h 93 l1))))] h (qi Q) := by
    exact E_retI dX1_codeAt_33 rfl hP
  refine E_if_lt 31 dX1_codeAt_1 rfl (fun hc => ?_) (fun hc => ?_)
  · have hp1 := (hc : l1 < 0)
    refine E_bipush dX1_codeAt_31 (by decide) ?_
    exact E_top (by first | exact (if_pos (by omega)).symm | exact (if_neg (by omega)).symm | (repeat first | rw [if_pos (by omega)] | rw [if_neg (by omega)])) hJ
  · have hp1 := (by omega : l1 ≥ 0)
    refine E_iload_n 1 1 dX1_codeAt_4 rfl rfl ?_
    refine E_aload_n 0 0 dX1_codeAt_5 rfl rfl ?_
    refine E_gI 3 3 dX1_codeAt_6 FX1_21 ic_91 rfl ?_
    refine E_icmp_ge 31 dX1_codeAt_9 rfl (fun hc => ?_) (fun hc => ?_)
    · have hp9 := (hc : l1 ≥ (h 91 3))
      refine E_bipush dX1_codeAt_31 (by decide) ?_
      exact E_top (by first | exact (if_pos (by omega)).symm | exact (if_neg (by omega)).symm | (repeat first | rw [if_pos (by omega)] | rw [if_neg (by omega)])) hJ
    · have hp9 := (by omega : l1 < (h 91 3))
      refine E_bipush dX1_codeAt_12 (by decide) ?_
      refine E_aload_n 0 0 dX1_codeAt_14 rfl rfl ?_
      refine E_gR 92 0 dX1_codeAt_15 FX1_9 ic_91 (by decide) ?_
      refine E_iload_n 1 1 dX1_codeAt_18 rfl rfl ?_
      refine E_iaload dX1_codeAt_19 ic_92 (v1_0 (by omega)).1 (v1_0 (by omega)).2 ?_
      refine E_imul dX1_codeAt_20 (rgI (v1_1 (by omega))) ?_
      refine E_aload_n 0 0 dX1_codeAt_21 rfl rfl ?_
      refine E_gR 93 1 dX1_codeAt_22 FX1_15 ic_91 (by decide) ?_
      refine E_iload_n 1 1 dX1_codeAt_25 rfl rfl ?_
      refine E_iaload dX1_codeAt_26 ic_93 (v1_0 (by omega)).1 (v1_0 (by omega)).2 ?_
      refine E_iadd dX1_codeAt_27 (rgI (v1_2 (by omega))) ?_
      refine E_goto 33 dX1_codeAt_28 rfl ?_
      exact E_top (by first | exact (if_pos (by omega)).symm | exact (if_neg (by omega)).symm | (repeat first | rw [if_pos (by omega)] | rw [if_neg (by omega)])) hJ
theorem dX1_outputsAt_0 : decode prog_3_method_5_code 0 = .ok (.iload_n 1, 1) := by decide +kernel
theorem dX1_outputsAt_1 : decode prog_3_method_5_code 1 = .ok (.ifCond .lt 20, 3) := by decide +kernel
theorem dX1_outputsAt_4 : decode prog_3_method_5_code 4 = .ok (.iload_n 1, 1) := by decide +kernel
theorem dX1_outputsAt_5 : decode prog_3_method_5_code 5 = .ok (.aload_n 0, 1) := by decide +kernel
theorem dX1_outputsAt_6 : decode prog_3_method_5_code 6 = .ok (.getfield 21, 3) := by decide +kernel
theorem dX1_outputsAt_9 : decode prog_3_method_5_code 9 = .ok (.if_icmp .ge 12, 3) := by decide +kernel
theorem dX1_outputsAt_12 : decode prog_3_method_5_code 12 = .ok (.aload_n 0, 1) := by decide +kernel
theorem dX1_outputsAt_13 : decode prog_3_method_5_code 13 = .ok (.getfield 18, 3) := by decide +kernel
theorem dX1_outputsAt_16 : decode prog_3_method_5_code 16 = .ok (.iload_n 1, 1) := by decide +kernel
theorem dX1_outputsAt_17 : decode prog_3_method_5_code 17 = .ok (.iaload, 1) := by decide +kernel
theorem dX1_outputsAt_18 : decode prog_3_method_5_code 18 = .ok (.goto 5, 3) := by decide +kernel
theorem dX1_outputsAt_21 : decode prog_3_method_5_code 21 = .ok (.bipush (-2), 2) := by decide +kernel
theorem dX1_outputsAt_23 : decode prog_3_method_5_code 23 = .ok (.ireturn, 1) := by decide +kernel
theorem sX1_outputsAt {Q : Int → Hp → Prop} {h : Hp} {l1 : Int}
    (hP : (((l1 ≥ 0 ∧ l1 < (h 91 3)) → (ix l1 28))) ∧
    Q (if l1 < 0 then (-2) else (if l1 ≥ (h 91 3) then (-2) else (h 94 l1))) h) :
    CI 0 mX1_outputsAt [vr 91, vi l1] h Q := by
  refine CI_of_E fX1_outputsAt.1 rfl (Nat.le_of_ble_eq_true rfl) ?_
  show E 0 mX1_outputsAt 0 [(0, vr 91), (1, vi l1)] [] h (qi Q)
  obtain ⟨v1_0, hP⟩ := hP
  refine E_iload_n 1 1 dX1_outputsAt_0 rfl rfl ?_
  have hJ : E 0 mX1_outputsAt 23 [(0, vr 91), (1, vi l1)] [vi (if l1 < 0 then (-2) else (if l1 ≥ (h 91 3) then (-2) else (h 94 l1)))] h (qi Q) := by
    exact E_retI dX1_outputsAt_23 rfl hP
  refine E_if_lt 21 dX1_outputsAt_1 rfl (fun hc => ?_) (fun hc => ?_)
  · have hp1 := (hc : l1 < 0)
    refine E_bipush dX1_outputsAt_21 (by decide) ?_
    exact E_top (by first | exact (if_pos (by omega)).symm | exact (if_neg (by omega)).symm | (repeat first | rw [if_pos (by omega)] | rw [if_neg (by omega)])) hJ
  · have hp1 := (by omega : l1 ≥ 0)
    refine E_iload_n 1 1 dX1_outputsAt_4 rfl rfl ?_
    refine E_aload_n 0 0 dX1_outputsAt_5 rfl rfl ?_
    refine E_gI 3 3 dX1_outputsAt_6 FX1_21 ic_91 rfl ?_
    refine E_icmp_ge 21 dX1_outputsAt_9 rfl (fun hc => ?_) (fun hc => ?_)
    · have hp9 := (hc : l1 ≥ (h 91 3))
      refine E_bipush dX1_outputsAt_21 (by decide) ?_
      exact E_top (by first | exact (if_pos (by omega)).symm | exact (if_neg (by omega)).symm | (repeat first | rw [if_pos (by omega)] | rw [if_neg (by omega)])) hJ
    · have hp9 := (by omega : l1 < (h 91 3))
      refine E_aload_n 0 0 dX1_outputsAt_12 rfl rfl ?_
      refine E_gR 94 2 dX1_outputsAt_13 FX1_18 ic_91 (by decide) ?_
      refine E_iload_n 1 1 dX1_outputsAt_16 rfl rfl ?_
      refine E_iaload dX1_outputsAt_17 ic_94 (v1_0 (by omega)).1 (v1_0 (by omega)).2 ?_
      refine E_goto 23 dX1_outputsAt_18 rfl ?_
      exact E_top (by first | exact (if_pos (by omega)).symm | exact (if_neg (by omega)).symm | (repeat first | rw [if_pos (by omega)] | rw [if_neg (by omega)])) hJ
theorem dX1_pairSorts_0 : decode prog_3_method_8_code 0 = .ok (.iconst 0, 1) := by decide +kernel
theorem dX1_pairSorts_1 : decode prog_3_method_8_code 1 = .ok (.istore 5, 2) := by decide +kernel
theorem dX1_pairSorts_3 : decode prog_3_method_8_code 3 = .ok (.iload 5, 2) := by decide +kernel
theorem dX1_pairSorts_5 : decode prog_3_method_8_code 5 = .ok (.iload_n 1, 1) := by decide +kernel
theorem dX1_pairSorts_6 : decode prog_3_method_8_code 6 = .ok (.if_icmp .ge 28, 3) := by decide +kernel
theorem dX1_pairSorts_9 : decode prog_3_method_8_code 9 = .ok (.aload_n 0, 1) := by decide +kernel
theorem dX1_pairSorts_10 : decode prog_3_method_8_code 10 = .ok (.iload 5, 2) := by decide +kernel
theorem dX1_pairSorts_12 : decode prog_3_method_8_code 12 = .ok (.iaload, 1) := by decide +kernel
theorem dX1_pairSorts_13 : decode prog_3_method_8_code 13 = .ok (.iload_n 3, 1) := by decide +kernel
theorem dX1_pairSorts_14 : decode prog_3_method_8_code 14 = .ok (.iload 4, 2) := by decide +kernel
theorem dX1_pairSorts_16 : decode prog_3_method_8_code 16 = .ok (.invokestatic 63, 3) := by decide +kernel
theorem dX1_pairSorts_19 : decode prog_3_method_8_code 19 = .ok (.iload_n 2, 1) := by decide +kernel
theorem dX1_pairSorts_20 : decode prog_3_method_8_code 20 = .ok (.invokestatic 48, 3) := by decide +kernel
theorem dX1_pairSorts_23 : decode prog_3_method_8_code 23 = .ok (.ifCond .ne 5, 3) := by decide +kernel
theorem dX1_pairSorts_26 : decode prog_3_method_8_code 26 = .ok (.iconst 0, 1) := by decide +kernel
theorem dX1_pairSorts_27 : decode prog_3_method_8_code 27 = .ok (.ireturn, 1) := by decide +kernel
theorem dX1_pairSorts_28 : decode prog_3_method_8_code 28 = .ok (.iinc 5 1, 3) := by decide +kernel
theorem dX1_pairSorts_31 : decode prog_3_method_8_code 31 = .ok (.goto (-28), 3) := by decide +kernel
theorem dX1_pairSorts_34 : decode prog_3_method_8_code 34 = .ok (.iconst 1, 1) := by decide +kernel
theorem dX1_pairSorts_35 : decode prog_3_method_8_code 35 = .ok (.ireturn, 1) := by decide +kernel
theorem sX1_pairSorts_3 {Q : Int → Hp → Prop} {h : Hp} {r0 l1 l2 l3 l4 l5 : Int}
    (hP : ((l5 ≥ l1) →
     Q 1 h) ∧
    ((l5 < l1) →
     (unsA r0 ∧ ix l5 256) ∧
     CI 0 mX10_isSorted [vi (if (j_iand (j_ishr (h r0 l5) l3) 1) ≤ (j_iand (j_ishr (h r0 l5) l4) 1) then (h r0 l5) else (j_ixor (h r0 l5) (j_ior (j_ishl 1 l3) (j_ishl 1 l4)))), vi l2] h (fun r5 h4 =>
      ((r5 ≠ 0) →
       (rj (l5 + 1)) ∧
       E 1 mX1_pairSorts 3 [(0, vr r0), (1, vi l1), (2, vi l2), (3, vi l3), (4, vi l4), (5, vi (l5 + 1))] [] h4 (qi Q)) ∧
      ((r5 = 0) →
       Q 0 h4)))) :
    E 1 mX1_pairSorts 3 [(0, vr r0), (1, vi l1), (2, vi l2), (3, vi l3), (4, vi l4), (5, vi l5)] [] h (qi Q) := by
  refine E_iload 5 dX1_pairSorts_3 rfl ?_
  refine E_iload_n 1 1 dX1_pairSorts_5 rfl rfl ?_
  refine E_icmp_ge 34 dX1_pairSorts_6 rfl (fun hc => ?_) (fun hc => ?_)
  · replace hP := hP.1 (hc)
    refine E_iconst dX1_pairSorts_34 (rg_of rfl) ?_
    exact E_retZ dX1_pairSorts_35 rfl (Or.inr rfl) hP
  · replace hP := hP.2 (by omega)
    obtain ⟨⟨v3_0, v3_1⟩, hP⟩ := hP
    refine E_aload_n 0 0 dX1_pairSorts_9 rfl rfl ?_
    refine E_iload 5 dX1_pairSorts_10 rfl ?_
    refine E_iaload dX1_pairSorts_12 (icUns v3_0) v3_1.1 v3_1.2 ?_
    refine E_iload_n 3 3 dX1_pairSorts_13 rfl rfl ?_
    refine E_iload 4 dX1_pairSorts_14 rfl ?_
    refine E_invNI [vi (h r0 l5), vi l3, vi l4] dX1_pairSorts_16 fX10_exchanged nX1_63 (by decide) rfl rfl (Nat.le_of_ble_eq_true rfl) (sX10_exchanged (h := h) (l0 := (h r0 l5)) (l1 := l3) (l2 := l4) ?_)
    refine E_iload_n 2 2 dX1_pairSorts_19 rfl rfl ?_
    refine E_invNI [vi (if (j_iand (j_ishr (h r0 l5) l3) 1) ≤ (j_iand (j_ishr (h r0 l5) l4) 1) then (h r0 l5) else (j_ixor (h r0 l5) (j_ior (j_ishl 1 l3) (j_ishl 1 l4)))), vi l2] dX1_pairSorts_20 fX10_isSorted nX1_48 (by decide) rfl rfl (Nat.le_of_ble_eq_true rfl) (CI_mono hP (fun r5 h4 hP => ?_))
    refine E_if_ne 28 dX1_pairSorts_23 rfl (fun hc => ?_) (fun hc => ?_)
    · replace hP := hP.1 (hc)
      obtain ⟨v7_0, hP⟩ := hP
      refine E_iinc 5 dX1_pairSorts_28 rfl (rgI v7_0) (by decide) rfl ?_
      refine E_goto 3 dX1_pairSorts_31 rfl ?_
      exact E_sub [1, 2, 3, 4, 5, 0] rfl hP
    · replace hP := hP.2 (by omega)
      refine E_iconst dX1_pairSorts_26 (rg_of rfl) ?_
      exact E_retZ dX1_pairSorts_27 rfl (Or.inl rfl) hP
theorem sX1_pairSorts {Q : Int → Hp → Prop} {h : Hp} {r0 l1 l2 l3 l4 : Int}
    (hP : E 1 mX1_pairSorts 3 [(0, vr r0), (1, vi l1), (2, vi l2), (3, vi l3), (4, vi l4), (5, vi 0)] [] h (qi Q)) :
    CI 1 mX1_pairSorts [vr r0, vi l1, vi l2, vi l3, vi l4] h Q := by
  refine CI_of_E fX1_pairSorts.1 rfl (Nat.le_of_ble_eq_true rfl) ?_
  show E 1 mX1_pairSorts 0 [(0, vr r0), (1, vi l1), (2, vi l2), (3, vi l3), (4, vi l4)] [] h (qi Q)
  refine E_iconst dX1_pairSorts_0 (rg_of rfl) ?_
  refine E_istore dX1_pairSorts_1 (by decide) rfl ?_
  exact E_sub [1, 2, 3, 4, 5, 0] rfl hP
theorem dX1_oneSorts_0 : decode prog_3_method_7_code 0 = .ok (.iconst 0, 1) := by decide +kernel
theorem dX1_oneSorts_1 : decode prog_3_method_7_code 1 = .ok (.istore_n 3, 1) := by decide +kernel
theorem dX1_oneSorts_2 : decode prog_3_method_7_code 2 = .ok (.iload_n 3, 1) := by decide +kernel
theorem dX1_oneSorts_3 : decode prog_3_method_7_code 3 = .ok (.iload_n 2, 1) := by decide +kernel
theorem dX1_oneSorts_4 : decode prog_3_method_7_code 4 = .ok (.if_icmp .ge 40, 3) := by decide +kernel
theorem dX1_oneSorts_7 : decode prog_3_method_7_code 7 = .ok (.iload_n 3, 1) := by decide +kernel
theorem dX1_oneSorts_8 : decode prog_3_method_7_code 8 = .ok (.iconst 1, 1) := by decide +kernel
theorem dX1_oneSorts_9 : decode prog_3_method_7_code 9 = .ok (.iadd, 1) := by decide +kernel
theorem dX1_oneSorts_10 : decode prog_3_method_7_code 10 = .ok (.istore 4, 2) := by decide +kernel
theorem dX1_oneSorts_12 : decode prog_3_method_7_code 12 = .ok (.iload 4, 2) := by decide +kernel
theorem dX1_oneSorts_14 : decode prog_3_method_7_code 14 = .ok (.iload_n 2, 1) := by decide +kernel
theorem dX1_oneSorts_15 : decode prog_3_method_7_code 15 = .ok (.if_icmp .ge 23, 3) := by decide +kernel
theorem dX1_oneSorts_18 : decode prog_3_method_7_code 18 = .ok (.aload_n 0, 1) := by decide +kernel
theorem dX1_oneSorts_19 : decode prog_3_method_7_code 19 = .ok (.iload_n 1, 1) := by decide +kernel
theorem dX1_oneSorts_20 : decode prog_3_method_7_code 20 = .ok (.iload_n 2, 1) := by decide +kernel
theorem dX1_oneSorts_21 : decode prog_3_method_7_code 21 = .ok (.iload_n 3, 1) := by decide +kernel
theorem dX1_oneSorts_22 : decode prog_3_method_7_code 22 = .ok (.iload 4, 2) := by decide +kernel
theorem dX1_oneSorts_24 : decode prog_3_method_7_code 24 = .ok (.invokestatic 59, 3) := by decide +kernel
theorem dX1_oneSorts_27 : decode prog_3_method_7_code 27 = .ok (.ifCond .eq 5, 3) := by decide +kernel
theorem dX1_oneSorts_30 : decode prog_3_method_7_code 30 = .ok (.iconst 1, 1) := by decide +kernel
theorem dX1_oneSorts_31 : decode prog_3_method_7_code 31 = .ok (.ireturn, 1) := by decide +kernel
theorem dX1_oneSorts_32 : decode prog_3_method_7_code 32 = .ok (.iinc 4 1, 3) := by decide +kernel
theorem dX1_oneSorts_35 : decode prog_3_method_7_code 35 = .ok (.goto (-23), 3) := by decide +kernel
theorem dX1_oneSorts_38 : decode prog_3_method_7_code 38 = .ok (.iinc 3 1, 3) := by decide +kernel
theorem dX1_oneSorts_41 : decode prog_3_method_7_code 41 = .ok (.goto (-39), 3) := by decide +kernel
theorem dX1_oneSorts_44 : decode prog_3_method_7_code 44 = .ok (.iconst 0, 1) := by decide +kernel
theorem dX1_oneSorts_45 : decode prog_3_method_7_code 45 = .ok (.ireturn, 1) := by decide +kernel
theorem sX1_oneSorts_12 {Q : Int → Hp → Prop} {h : Hp} {r0 l1 l2 l3 l4 : Int}
    (hP : ((l4 ≥ l2) →
     (rj (l3 + 1)) ∧
     E 2 mX1_oneSorts 2 [(0, vr r0), (1, vi l1), (2, vi l2), (3, vi (l3 + 1))] [] h (qi Q)) ∧
    ((l4 < l2) →
     CI 1 mX1_pairSorts [vr r0, vi l1, vi l2, vi l3, vi l4] h (fun r5 h4 =>
      ((r5 = 0) →
       (rj (l4 + 1)) ∧
       E 2 mX1_oneSorts 12 [(0, vr r0), (1, vi l1), (2, vi l2), (3, vi l3), (4, vi (l4 + 1))] [] h4 (qi Q)) ∧
      ((r5 ≠ 0) →
       Q 1 h4)))) :
    E 2 mX1_oneSorts 12 [(0, vr r0), (1, vi l1), (2, vi l2), (3, vi l3), (4, vi l4)] [] h (qi Q) := by
  refine E_iload 4 dX1_oneSorts_12 rfl ?_
  refine E_iload_n 2 2 dX1_oneSorts_14 rfl rfl ?_
  refine E_icmp_ge 38 dX1_oneSorts_15 rfl (fun hc => ?_) (fun hc => ?_)
  · replace hP := hP.1 (hc)
    obtain ⟨v2_0, hP⟩ := hP
    refine E_iinc 3 dX1_oneSorts_38 rfl (rgI v2_0) (by decide) rfl ?_
    refine E_goto 2 dX1_oneSorts_41 rfl ?_
    exact E_sub [1, 2, 3, 0] rfl hP
  · replace hP := hP.2 (by omega)
    refine E_aload_n 0 0 dX1_oneSorts_18 rfl rfl ?_
    refine E_iload_n 1 1 dX1_oneSorts_19 rfl rfl ?_
    refine E_iload_n 2 2 dX1_oneSorts_20 rfl rfl ?_
    refine E_iload_n 3 3 dX1_oneSorts_21 rfl rfl ?_
    refine E_iload 4 dX1_oneSorts_22 rfl ?_
    refine E_invSI [vr r0, vi l1, vi l2, vi l3, vi l4] dX1_oneSorts_24 fX1_pairSorts lX1_59 (by decide) rfl rfl (Nat.le_of_ble_eq_true rfl) (CI_mono hP (fun r5 h4 hP => ?_))
    refine E_if_eq 32 dX1_oneSorts_27 rfl (fun hc => ?_) (fun hc => ?_)
    · replace hP := hP.1 (hc)
      obtain ⟨v7_0, hP⟩ := hP
      refine E_iinc 4 dX1_oneSorts_32 rfl (rgI v7_0) (by decide) rfl ?_
      refine E_goto 12 dX1_oneSorts_35 rfl ?_
      exact E_sub [1, 2, 3, 4, 0] rfl hP
    · replace hP := hP.2 (by omega)
      refine E_iconst dX1_oneSorts_30 (rg_of rfl) ?_
      exact E_retZ dX1_oneSorts_31 rfl (Or.inr rfl) hP
theorem sX1_oneSorts_2 {Q : Int → Hp → Prop} {h : Hp} {r0 l1 l2 l3 : Int}
    (hP : ((l3 ≥ l2) →
     Q 0 h) ∧
    ((l3 < l2) →
     (rj (l3 + 1)) ∧
     E 2 mX1_oneSorts 12 [(0, vr r0), (1, vi l1), (2, vi l2), (3, vi l3), (4, vi (l3 + 1))] [] h (qi Q))) :
    E 2 mX1_oneSorts 2 [(0, vr r0), (1, vi l1), (2, vi l2), (3, vi l3)] [] h (qi Q) := by
  refine E_iload_n 3 3 dX1_oneSorts_2 rfl rfl ?_
  refine E_iload_n 2 2 dX1_oneSorts_3 rfl rfl ?_
  refine E_icmp_ge 44 dX1_oneSorts_4 rfl (fun hc => ?_) (fun hc => ?_)
  · replace hP := hP.1 (hc)
    refine E_iconst dX1_oneSorts_44 (rg_of rfl) ?_
    exact E_retZ dX1_oneSorts_45 rfl (Or.inl rfl) hP
  · replace hP := hP.2 (by omega)
    obtain ⟨v3_0, hP⟩ := hP
    refine E_iload_n 3 3 dX1_oneSorts_7 rfl rfl ?_
    refine E_iconst dX1_oneSorts_8 (rg_of rfl) ?_
    refine E_iadd dX1_oneSorts_9 (rgI v3_0) ?_
    refine E_istore dX1_oneSorts_10 (by decide) rfl ?_
    exact E_sub [1, 2, 3, 4, 0] rfl hP
theorem sX1_oneSorts {Q : Int → Hp → Prop} {h : Hp} {r0 l1 l2 : Int}
    (hP : E 2 mX1_oneSorts 2 [(0, vr r0), (1, vi l1), (2, vi l2), (3, vi 0)] [] h (qi Q)) :
    CI 2 mX1_oneSorts [vr r0, vi l1, vi l2] h Q := by
  refine CI_of_E fX1_oneSorts.1 rfl (Nat.le_of_ble_eq_true rfl) ?_
  show E 2 mX1_oneSorts 0 [(0, vr r0), (1, vi l1), (2, vi l2)] [] h (qi Q)
  refine E_iconst dX1_oneSorts_0 (rg_of rfl) ?_
  refine E_istore_n dX1_oneSorts_1 rfl (by decide) rfl ?_
  exact E_sub [1, 2, 3, 0] rfl hP
theorem dX1_keepUnsorted_0 : decode prog_3_method_10_code 0 = .ok (.iconst 0, 1) := by decide +kernel
theorem dX1_keepUnsorted_1 : decode prog_3_method_10_code 1 = .ok (.istore 5, 2) := by decide +kernel
theorem dX1_keepUnsorted_3 : decode prog_3_method_10_code 3 = .ok (.iconst 0, 1) := by decide +kernel
theorem dX1_keepUnsorted_4 : decode prog_3_method_10_code 4 = .ok (.istore 6, 2) := by decide +kernel
theorem dX1_keepUnsorted_6 : decode prog_3_method_10_code 6 = .ok (.iload 6, 2) := by decide +kernel
theorem dX1_keepUnsorted_8 : decode prog_3_method_10_code 8 = .ok (.iload_n 1, 1) := by decide +kernel
theorem dX1_keepUnsorted_9 : decode prog_3_method_10_code 9 = .ok (.if_icmp .ge 45, 3) := by decide +kernel
theorem dX1_keepUnsorted_12 : decode prog_3_method_10_code 12 = .ok (.aload_n 0, 1) := by decide +kernel
theorem dX1_keepUnsorted_13 : decode prog_3_method_10_code 13 = .ok (.getfield 25, 3) := by decide +kernel
theorem dX1_keepUnsorted_16 : decode prog_3_method_10_code 16 = .ok (.iload 6, 2) := by decide +kernel
theorem dX1_keepUnsorted_18 : decode prog_3_method_10_code 18 = .ok (.iaload, 1) := by decide +kernel
theorem dX1_keepUnsorted_19 : decode prog_3_method_10_code 19 = .ok (.iload_n 3, 1) := by decide +kernel
theorem dX1_keepUnsorted_20 : decode prog_3_method_10_code 20 = .ok (.iload 4, 2) := by decide +kernel
theorem dX1_keepUnsorted_22 : decode prog_3_method_10_code 22 = .ok (.invokestatic 63, 3) := by decide +kernel
theorem dX1_keepUnsorted_25 : decode prog_3_method_10_code 25 = .ok (.istore 7, 2) := by decide +kernel
theorem dX1_keepUnsorted_27 : decode prog_3_method_10_code 27 = .ok (.iload 7, 2) := by decide +kernel
theorem dX1_keepUnsorted_29 : decode prog_3_method_10_code 29 = .ok (.iload_n 2, 1) := by decide +kernel
theorem dX1_keepUnsorted_30 : decode prog_3_method_10_code 30 = .ok (.invokestatic 48, 3) := by decide +kernel
theorem dX1_keepUnsorted_33 : decode prog_3_method_10_code 33 = .ok (.ifCond .ne 15, 3) := by decide +kernel
theorem dX1_keepUnsorted_36 : decode prog_3_method_10_code 36 = .ok (.aload_n 0, 1) := by decide +kernel
theorem dX1_keepUnsorted_37 : decode prog_3_method_10_code 37 = .ok (.getfield 28, 3) := by decide +kernel
theorem dX1_keepUnsorted_40 : decode prog_3_method_10_code 40 = .ok (.iload 5, 2) := by decide +kernel
theorem dX1_keepUnsorted_42 : decode prog_3_method_10_code 42 = .ok (.iload 7, 2) := by decide +kernel
theorem dX1_keepUnsorted_44 : decode prog_3_method_10_code 44 = .ok (.iastore, 1) := by decide +kernel
theorem dX1_keepUnsorted_45 : decode prog_3_method_10_code 45 = .ok (.iinc 5 1, 3) := by decide +kernel
theorem dX1_keepUnsorted_48 : decode prog_3_method_10_code 48 = .ok (.iinc 6 1, 3) := by decide +kernel
theorem dX1_keepUnsorted_51 : decode prog_3_method_10_code 51 = .ok (.goto (-45), 3) := by decide +kernel
theorem dX1_keepUnsorted_54 : decode prog_3_method_10_code 54 = .ok (.iload 5, 2) := by decide +kernel
theorem dX1_keepUnsorted_56 : decode prog_3_method_10_code 56 = .ok (.ireturn, 1) := by decide +kernel
theorem sX1_keepUnsorted_6 {Q : Int → Hp → Prop} {h : Hp} {l1 l2 l3 l4 l5 l6 : Int}
    (hP : ((l6 ≥ l1) →
     Q l5 h) ∧
    ((l6 < l1) →
     (ix l6 256) ∧
     (∀ x4 : Int, x4 = (if (j_iand (j_ishr (h 95 l6) l3) 1) ≤ (j_iand (j_ishr (h 95 l6) l4) 1) then (h 95 l6) else (j_ixor (h 95 l6) (j_ior (j_ishl 1 l3) (j_ishl 1 l4)))) →
     CI 0 mX10_isSorted [vi x4, vi l2] h (fun r7 h6 =>
      ((r7 ≠ 0) →
       (rj (l6 + 1)) ∧
       E 1 mX1_keepUnsorted 6 [(0, vr 91), (1, vi l1), (2, vi l2), (3, vi l3), (4, vi l4), (5, vi l5), (6, vi (l6 + 1))] [] h6 (qi Q)) ∧
      ((r7 = 0) →
       (ix l5 256 ∧ rj (l5 + 1) ∧ rj (l6 + 1)) ∧
       E 1 mX1_keepUnsorted 6 [(0, vr 91), (1, vi l1), (2, vi l2), (3, vi l3), (4, vi l4), (5, vi (l5 + 1)), (6, vi (l6 + 1))] [] (up h6 96 l5 x4) (qi Q)))))) :
    E 1 mX1_keepUnsorted 6 [(0, vr 91), (1, vi l1), (2, vi l2), (3, vi l3), (4, vi l4), (5, vi l5), (6, vi l6)] [] h (qi Q) := by
  refine E_iload 6 dX1_keepUnsorted_6 rfl ?_
  refine E_iload_n 1 1 dX1_keepUnsorted_8 rfl rfl ?_
  refine E_icmp_ge 54 dX1_keepUnsorted_9 rfl (fun hc => ?_) (fun hc => ?_)
  · replace hP := hP.1 (hc)
    refine E_iload 5 dX1_keepUnsorted_54 rfl ?_
    exact E_retI dX1_keepUnsorted_56 rfl hP
  · replace hP := hP.2 (by omega)
    obtain ⟨v3_0, hP⟩ := hP
    refine E_aload_n 0 0 dX1_keepUnsorted_12 rfl rfl ?_
    refine E_gR 95 4 dX1_keepUnsorted_13 FX1_25 ic_91 (by decide) ?_
    refine E_iload 6 dX1_keepUnsorted_16 rfl ?_
    refine E_iaload dX1_keepUnsorted_18 ic_95 v3_0.1 v3_0.2 ?_
    refine E_iload_n 3 3 dX1_keepUnsorted_19 rfl rfl ?_
    refine E_iload 4 dX1_keepUnsorted_20 rfl ?_
    refine E_invNI [vi (h 95 l6), vi l3, vi l4] dX1_keepUnsorted_22 fX10_exchanged nX1_63 (by decide) rfl rfl (Nat.le_of_ble_eq_true rfl) (sX10_exchanged (h := h) (l0 := (h 95 l6)) (l1 := l3) (l2 := l4) ?_)
    obtain ⟨x4, hx4⟩ : ∃ x : Int, x = (if (j_iand (j_ishr (h 95 l6) l3) 1) ≤ (j_iand (j_ishr (h 95 l6) l4) 1) then (h 95 l6) else (j_ixor (h 95 l6) (j_ior (j_ishl 1 l3) (j_ishl 1 l4)))) := ⟨_, rfl⟩
    refine E_top hx4.symm ?_
    replace hP := hP x4 hx4
    refine E_istore dX1_keepUnsorted_25 (by decide) rfl ?_
    refine E_iload 0 dX1_keepUnsorted_27 rfl ?_
    refine E_iload_n 3 2 dX1_keepUnsorted_29 rfl rfl ?_
    refine E_invNI [vi x4, vi l2] dX1_keepUnsorted_30 fX10_isSorted nX1_48 (by decide) rfl rfl (Nat.le_of_ble_eq_true rfl) (CI_mono hP (fun r7 h6 hP => ?_))
    refine E_if_ne 48 dX1_keepUnsorted_33 rfl (fun hc => ?_) (fun hc => ?_)
    · replace hP := hP.1 (hc)
      obtain ⟨v9_0, hP⟩ := hP
      refine E_iinc 7 dX1_keepUnsorted_48 rfl (rgI v9_0) (by decide) rfl ?_
      refine E_goto 6 dX1_keepUnsorted_51 rfl ?_
      exact E_sub [2, 3, 4, 5, 6, 7, 0] rfl hP
    · replace hP := hP.2 (by omega)
      obtain ⟨⟨v10_0, v10_1, v10_2⟩, hP⟩ := hP
      refine E_aload_n 1 0 dX1_keepUnsorted_36 rfl rfl ?_
      refine E_gR 96 5 dX1_keepUnsorted_37 FX1_28 ic_91 (by decide) ?_
      refine E_iload 6 dX1_keepUnsorted_40 rfl ?_
      refine E_iload 0 dX1_keepUnsorted_42 rfl ?_
      refine E_iastore dX1_keepUnsorted_44 ic_96 v10_0.1 v10_0.2 ?_
      refine E_iinc 6 dX1_keepUnsorted_45 rfl (rgI v10_1) (by decide) rfl ?_
      refine E_iinc 7 dX1_keepUnsorted_48 rfl (rgI v10_2) (by decide) rfl ?_
      refine E_goto 6 dX1_keepUnsorted_51 rfl ?_
      exact E_sub [3, 4, 5, 6, 7, 1, 0] rfl hP
theorem sX1_keepUnsorted {Q : Int → Hp → Prop} {h : Hp} {l1 l2 l3 l4 : Int}
    (hP : E 1 mX1_keepUnsorted 6 [(0, vr 91), (1, vi l1), (2, vi l2), (3, vi l3), (4, vi l4), (5, vi 0), (6, vi 0)] [] h (qi Q)) :
    CI 1 mX1_keepUnsorted [vr 91, vi l1, vi l2, vi l3, vi l4] h Q := by
  refine CI_of_E fX1_keepUnsorted.1 rfl (Nat.le_of_ble_eq_true rfl) ?_
  show E 1 mX1_keepUnsorted 0 [(0, vr 91), (1, vi l1), (2, vi l2), (3, vi l3), (4, vi l4)] [] h (qi Q)
  refine E_iconst dX1_keepUnsorted_0 (rg_of rfl) ?_
  refine E_istore dX1_keepUnsorted_1 (by decide) rfl ?_
  refine E_iconst dX1_keepUnsorted_3 (rg_of rfl) ?_
  refine E_istore dX1_keepUnsorted_4 (by decide) rfl ?_
  exact E_sub [2, 3, 4, 5, 6, 1, 0] rfl hP
theorem dX1_twoSort_0 : decode prog_3_method_9_code 0 = .ok (.iconst 0, 1) := by decide +kernel
theorem dX1_twoSort_1 : decode prog_3_method_9_code 1 = .ok (.istore_n 3, 1) := by decide +kernel
theorem dX1_twoSort_2 : decode prog_3_method_9_code 2 = .ok (.iload_n 3, 1) := by decide +kernel
theorem dX1_twoSort_3 : decode prog_3_method_9_code 3 = .ok (.iload_n 2, 1) := by decide +kernel
theorem dX1_twoSort_4 : decode prog_3_method_9_code 4 = .ok (.if_icmp .ge 52, 3) := by decide +kernel
theorem dX1_twoSort_7 : decode prog_3_method_9_code 7 = .ok (.iload_n 3, 1) := by decide +kernel
theorem dX1_twoSort_8 : decode prog_3_method_9_code 8 = .ok (.iconst 1, 1) := by decide +kernel
theorem dX1_twoSort_9 : decode prog_3_method_9_code 9 = .ok (.iadd, 1) := by decide +kernel
theorem dX1_twoSort_10 : decode prog_3_method_9_code 10 = .ok (.istore 4, 2) := by decide +kernel
theorem dX1_twoSort_12 : decode prog_3_method_9_code 12 = .ok (.iload 4, 2) := by decide +kernel
theorem dX1_twoSort_14 : decode prog_3_method_9_code 14 = .ok (.iload_n 2, 1) := by decide +kernel
theorem dX1_twoSort_15 : decode prog_3_method_9_code 15 = .ok (.if_icmp .ge 35, 3) := by decide +kernel
theorem dX1_twoSort_18 : decode prog_3_method_9_code 18 = .ok (.aload_n 0, 1) := by decide +kernel
theorem dX1_twoSort_19 : decode prog_3_method_9_code 19 = .ok (.iload_n 1, 1) := by decide +kernel
theorem dX1_twoSort_20 : decode prog_3_method_9_code 20 = .ok (.iload_n 2, 1) := by decide +kernel
theorem dX1_twoSort_21 : decode prog_3_method_9_code 21 = .ok (.iload_n 3, 1) := by decide +kernel
theorem dX1_twoSort_22 : decode prog_3_method_9_code 22 = .ok (.iload 4, 2) := by decide +kernel
theorem dX1_twoSort_24 : decode prog_3_method_9_code 24 = .ok (.invokevirtual 67, 3) := by decide +kernel
theorem dX1_twoSort_27 : decode prog_3_method_9_code 27 = .ok (.istore 5, 2) := by decide +kernel
theorem dX1_twoSort_29 : decode prog_3_method_9_code 29 = .ok (.aload_n 0, 1) := by decide +kernel
theorem dX1_twoSort_30 : decode prog_3_method_9_code 30 = .ok (.getfield 28, 3) := by decide +kernel
theorem dX1_twoSort_33 : decode prog_3_method_9_code 33 = .ok (.iload 5, 2) := by decide +kernel
theorem dX1_twoSort_35 : decode prog_3_method_9_code 35 = .ok (.iload_n 2, 1) := by decide +kernel
theorem dX1_twoSort_36 : decode prog_3_method_9_code 36 = .ok (.invokestatic 52, 3) := by decide +kernel
theorem dX1_twoSort_39 : decode prog_3_method_9_code 39 = .ok (.ifCond .eq 5, 3) := by decide +kernel
theorem dX1_twoSort_42 : decode prog_3_method_9_code 42 = .ok (.iconst 1, 1) := by decide +kernel
theorem dX1_twoSort_43 : decode prog_3_method_9_code 43 = .ok (.ireturn, 1) := by decide +kernel
theorem dX1_twoSort_44 : decode prog_3_method_9_code 44 = .ok (.iinc 4 1, 3) := by decide +kernel
theorem dX1_twoSort_47 : decode prog_3_method_9_code 47 = .ok (.goto (-35), 3) := by decide +kernel
theorem dX1_twoSort_50 : decode prog_3_method_9_code 50 = .ok (.iinc 3 1, 3) := by decide +kernel
theorem dX1_twoSort_53 : decode prog_3_method_9_code 53 = .ok (.goto (-51), 3) := by decide +kernel
theorem dX1_twoSort_56 : decode prog_3_method_9_code 56 = .ok (.iconst 0, 1) := by decide +kernel
theorem dX1_twoSort_57 : decode prog_3_method_9_code 57 = .ok (.ireturn, 1) := by decide +kernel
theorem sX1_twoSort_12 {Q : Int → Hp → Prop} {h : Hp} {l1 l2 l3 l4 : Int}
    (hP : ((l4 ≥ l2) →
     (rj (l3 + 1)) ∧
     E 3 mX1_twoSort 2 [(0, vr 91), (1, vi l1), (2, vi l2), (3, vi (l3 + 1))] [] h (qi Q)) ∧
    ((l4 < l2) →
     CI 1 mX1_keepUnsorted [vr 91, vi l1, vi l2, vi l3, vi l4] h (fun r5 h4 =>
      CI 2 mX1_oneSorts [vr 96, vi r5, vi l2] h4 (fun r8 h7 =>
       ((r8 = 0) →
        (rj (l4 + 1)) ∧
        E 3 mX1_twoSort 12 [(0, vr 91), (1, vi l1), (2, vi l2), (3, vi l3), (4, vi (l4 + 1))] [] h7 (qi Q)) ∧
       ((r8 ≠ 0) →
        Q 1 h7))))) :
    E 3 mX1_twoSort 12 [(0, vr 91), (1, vi l1), (2, vi l2), (3, vi l3), (4, vi l4)] [] h (qi Q) := by
  refine E_iload 4 dX1_twoSort_12 rfl ?_
  refine E_iload_n 2 2 dX1_twoSort_14 rfl rfl ?_
  refine E_icmp_ge 50 dX1_twoSort_15 rfl (fun hc => ?_) (fun hc => ?_)
  · replace hP := hP.1 (hc)
    obtain ⟨v2_0, hP⟩ := hP
    refine E_iinc 3 dX1_twoSort_50 rfl (rgI v2_0) (by decide) rfl ?_
    refine E_goto 2 dX1_twoSort_53 rfl ?_
    exact E_sub [1, 2, 3, 0] rfl hP
  · replace hP := hP.2 (by omega)
    refine E_aload_n 0 0 dX1_twoSort_18 rfl rfl ?_
    refine E_iload_n 1 1 dX1_twoSort_19 rfl rfl ?_
    refine E_iload_n 2 2 dX1_twoSort_20 rfl rfl ?_
    refine E_iload_n 3 3 dX1_twoSort_21 rfl rfl ?_
    refine E_iload 4 dX1_twoSort_22 rfl ?_
    refine E_invVI [vi l1, vi l2, vi l3, vi l4] dX1_twoSort_24 fX1_keepUnsorted lX1_67 ic_91 rfl (by decide) rfl rfl (Nat.le_of_ble_eq_true rfl) (CI_mono hP (fun r5 h4 hP => ?_))
    refine E_istore dX1_twoSort_27 (by decide) rfl ?_
    refine E_aload_n 1 0 dX1_twoSort_29 rfl rfl ?_
    refine E_gR 96 5 dX1_twoSort_30 FX1_28 ic_91 (by decide) ?_
    refine E_iload 0 dX1_twoSort_33 rfl ?_
    refine E_iload_n 3 2 dX1_twoSort_35 rfl rfl ?_
    refine E_invSI [vr 96, vi r5, vi l2] dX1_twoSort_36 fX1_oneSorts lX1_52 (by decide) rfl rfl (Nat.le_of_ble_eq_true rfl) (CI_mono hP (fun r8 h7 hP => ?_))
    refine E_if_eq 44 dX1_twoSort_39 rfl (fun hc => ?_) (fun hc => ?_)
    · replace hP := hP.1 (hc)
      obtain ⟨v10_0, hP⟩ := hP
      refine E_iinc 5 dX1_twoSort_44 rfl (rgI v10_0) (by decide) rfl ?_
      refine E_goto 12 dX1_twoSort_47 rfl ?_
      exact E_sub [2, 3, 4, 5, 0] rfl hP
    · replace hP := hP.2 (by omega)
      refine E_iconst dX1_twoSort_42 (rg_of rfl) ?_
      exact E_retZ dX1_twoSort_43 rfl (Or.inr rfl) hP
theorem sX1_twoSort_2 {Q : Int → Hp → Prop} {h : Hp} {l1 l2 l3 : Int}
    (hP : ((l3 ≥ l2) →
     Q 0 h) ∧
    ((l3 < l2) →
     (rj (l3 + 1)) ∧
     E 3 mX1_twoSort 12 [(0, vr 91), (1, vi l1), (2, vi l2), (3, vi l3), (4, vi (l3 + 1))] [] h (qi Q))) :
    E 3 mX1_twoSort 2 [(0, vr 91), (1, vi l1), (2, vi l2), (3, vi l3)] [] h (qi Q) := by
  refine E_iload_n 3 3 dX1_twoSort_2 rfl rfl ?_
  refine E_iload_n 2 2 dX1_twoSort_3 rfl rfl ?_
  refine E_icmp_ge 56 dX1_twoSort_4 rfl (fun hc => ?_) (fun hc => ?_)
  · replace hP := hP.1 (hc)
    refine E_iconst dX1_twoSort_56 (rg_of rfl) ?_
    exact E_retZ dX1_twoSort_57 rfl (Or.inl rfl) hP
  · replace hP := hP.2 (by omega)
    obtain ⟨v3_0, hP⟩ := hP
    refine E_iload_n 3 3 dX1_twoSort_7 rfl rfl ?_
    refine E_iconst dX1_twoSort_8 (rg_of rfl) ?_
    refine E_iadd dX1_twoSort_9 (rgI v3_0) ?_
    refine E_istore dX1_twoSort_10 (by decide) rfl ?_
    exact E_sub [1, 2, 3, 4, 0] rfl hP
theorem sX1_twoSort {Q : Int → Hp → Prop} {h : Hp} {l1 l2 : Int}
    (hP : E 3 mX1_twoSort 2 [(0, vr 91), (1, vi l1), (2, vi l2), (3, vi 0)] [] h (qi Q)) :
    CI 3 mX1_twoSort [vr 91, vi l1, vi l2] h Q := by
  refine CI_of_E fX1_twoSort.1 rfl (Nat.le_of_ble_eq_true rfl) ?_
  show E 3 mX1_twoSort 0 [(0, vr 91), (1, vi l1), (2, vi l2)] [] h (qi Q)
  refine E_iconst dX1_twoSort_0 (rg_of rfl) ?_
  refine E_istore_n dX1_twoSort_1 rfl (by decide) rfl ?_
  exact E_sub [1, 2, 3, 0] rfl hP
theorem dX1_leastToSort_0 : decode prog_3_method_6_code 0 = .ok (.iconst 0, 1) := by decide +kernel
theorem dX1_leastToSort_1 : decode prog_3_method_6_code 1 = .ok (.istore_n 3, 1) := by decide +kernel
theorem dX1_leastToSort_2 : decode prog_3_method_6_code 2 = .ok (.iconst 0, 1) := by decide +kernel
theorem dX1_leastToSort_3 : decode prog_3_method_6_code 3 = .ok (.istore 4, 2) := by decide +kernel
theorem dX1_leastToSort_5 : decode prog_3_method_6_code 5 = .ok (.iload 4, 2) := by decide +kernel
theorem dX1_leastToSort_7 : decode prog_3_method_6_code 7 = .ok (.aload_n 1, 1) := by decide +kernel
theorem dX1_leastToSort_8 : decode prog_3_method_6_code 8 = .ok (.getfield 44, 3) := by decide +kernel
theorem dX1_leastToSort_11 : decode prog_3_method_6_code 11 = .ok (.if_icmp .ge 42, 3) := by decide +kernel
theorem dX1_leastToSort_14 : decode prog_3_method_6_code 14 = .ok (.aload_n 1, 1) := by decide +kernel
theorem dX1_leastToSort_15 : decode prog_3_method_6_code 15 = .ok (.getfield 45, 3) := by decide +kernel
theorem dX1_leastToSort_18 : decode prog_3_method_6_code 18 = .ok (.iload 4, 2) := by decide +kernel
theorem dX1_leastToSort_20 : decode prog_3_method_6_code 20 = .ok (.iaload, 1) := by decide +kernel
theorem dX1_leastToSort_21 : decode prog_3_method_6_code 21 = .ok (.aload_n 1, 1) := by decide +kernel
theorem dX1_leastToSort_22 : decode prog_3_method_6_code 22 = .ok (.getfield 31, 3) := by decide +kernel
theorem dX1_leastToSort_25 : decode prog_3_method_6_code 25 = .ok (.invokestatic 48, 3) := by decide +kernel
theorem dX1_leastToSort_28 : decode prog_3_method_6_code 28 = .ok (.ifCond .ne 19, 3) := by decide +kernel
theorem dX1_leastToSort_31 : decode prog_3_method_6_code 31 = .ok (.aload_n 0, 1) := by decide +kernel
theorem dX1_leastToSort_32 : decode prog_3_method_6_code 32 = .ok (.getfield 25, 3) := by decide +kernel
theorem dX1_leastToSort_35 : decode prog_3_method_6_code 35 = .ok (.iload_n 3, 1) := by decide +kernel
theorem dX1_leastToSort_36 : decode prog_3_method_6_code 36 = .ok (.aload_n 1, 1) := by decide +kernel
theorem dX1_leastToSort_37 : decode prog_3_method_6_code 37 = .ok (.getfield 45, 3) := by decide +kernel
theorem dX1_leastToSort_40 : decode prog_3_method_6_code 40 = .ok (.iload 4, 2) := by decide +kernel
theorem dX1_leastToSort_42 : decode prog_3_method_6_code 42 = .ok (.iaload, 1) := by decide +kernel
theorem dX1_leastToSort_43 : decode prog_3_method_6_code 43 = .ok (.iastore, 1) := by decide +kernel
theorem dX1_leastToSort_44 : decode prog_3_method_6_code 44 = .ok (.iinc 3 1, 3) := by decide +kernel
theorem dX1_leastToSort_47 : decode prog_3_method_6_code 47 = .ok (.iinc 4 1, 3) := by decide +kernel
theorem dX1_leastToSort_50 : decode prog_3_method_6_code 50 = .ok (.goto (-45), 3) := by decide +kernel
theorem dX1_leastToSort_53 : decode prog_3_method_6_code 53 = .ok (.iload_n 3, 1) := by decide +kernel
theorem dX1_leastToSort_54 : decode prog_3_method_6_code 54 = .ok (.ifCond .ne 5, 3) := by decide +kernel
theorem dX1_leastToSort_57 : decode prog_3_method_6_code 57 = .ok (.iconst 0, 1) := by decide +kernel
theorem dX1_leastToSort_58 : decode prog_3_method_6_code 58 = .ok (.ireturn, 1) := by decide +kernel
theorem dX1_leastToSort_59 : decode prog_3_method_6_code 59 = .ok (.iload_n 2, 1) := by decide +kernel
theorem dX1_leastToSort_60 : decode prog_3_method_6_code 60 = .ok (.iconst 1, 1) := by decide +kernel
theorem dX1_leastToSort_61 : decode prog_3_method_6_code 61 = .ok (.if_icmp .lt 20, 3) := by decide +kernel
theorem dX1_leastToSort_64 : decode prog_3_method_6_code 64 = .ok (.aload_n 0, 1) := by decide +kernel
theorem dX1_leastToSort_65 : decode prog_3_method_6_code 65 = .ok (.getfield 25, 3) := by decide +kernel
theorem dX1_leastToSort_68 : decode prog_3_method_6_code 68 = .ok (.iload_n 3, 1) := by decide +kernel
theorem dX1_leastToSort_69 : decode prog_3_method_6_code 69 = .ok (.aload_n 1, 1) := by decide +kernel
theorem dX1_leastToSort_70 : decode prog_3_method_6_code 70 = .ok (.getfield 31, 3) := by decide +kernel
theorem dX1_leastToSort_73 : decode prog_3_method_6_code 73 = .ok (.invokestatic 52, 3) := by decide +kernel
theorem dX1_leastToSort_76 : decode prog_3_method_6_code 76 = .ok (.ifCond .eq 5, 3) := by decide +kernel
theorem dX1_leastToSort_79 : decode prog_3_method_6_code 79 = .ok (.iconst 1, 1) := by decide +kernel
theorem dX1_leastToSort_80 : decode prog_3_method_6_code 80 = .ok (.ireturn, 1) := by decide +kernel
theorem dX1_leastToSort_81 : decode prog_3_method_6_code 81 = .ok (.iload_n 2, 1) := by decide +kernel
theorem dX1_leastToSort_82 : decode prog_3_method_6_code 82 = .ok (.iconst 2, 1) := by decide +kernel
theorem dX1_leastToSort_83 : decode prog_3_method_6_code 83 = .ok (.if_icmp .lt 19, 3) := by decide +kernel
theorem dX1_leastToSort_86 : decode prog_3_method_6_code 86 = .ok (.aload_n 0, 1) := by decide +kernel
theorem dX1_leastToSort_87 : decode prog_3_method_6_code 87 = .ok (.iload_n 3, 1) := by decide +kernel
theorem dX1_leastToSort_88 : decode prog_3_method_6_code 88 = .ok (.aload_n 1, 1) := by decide +kernel
theorem dX1_leastToSort_89 : decode prog_3_method_6_code 89 = .ok (.getfield 31, 3) := by decide +kernel
theorem dX1_leastToSort_92 : decode prog_3_method_6_code 92 = .ok (.invokevirtual 56, 3) := by decide +kernel
theorem dX1_leastToSort_95 : decode prog_3_method_6_code 95 = .ok (.ifCond .eq 7, 3) := by decide +kernel
theorem dX1_leastToSort_98 : decode prog_3_method_6_code 98 = .ok (.iconst 2, 1) := by decide +kernel
theorem dX1_leastToSort_99 : decode prog_3_method_6_code 99 = .ok (.goto 6, 3) := by decide +kernel
theorem dX1_leastToSort_102 : decode prog_3_method_6_code 102 = .ok (.iload_n 2, 1) := by decide +kernel
theorem dX1_leastToSort_103 : decode prog_3_method_6_code 103 = .ok (.iconst 1, 1) := by decide +kernel
theorem dX1_leastToSort_104 : decode prog_3_method_6_code 104 = .ok (.iadd, 1) := by decide +kernel
theorem dX1_leastToSort_105 : decode prog_3_method_6_code 105 = .ok (.ireturn, 1) := by decide +kernel
theorem sX1_leastToSort_53 {Q : Int → Hp → Prop} {h : Hp} {o1 l2 l3 : Int}
    (hP : ((l3 ≠ 0) →
     ((l2 < 1) →
      ((l2 < 2) →
       (rj (l2 + 1)) ∧
       Q (l2 + 1) h) ∧
      ((l2 ≥ 2) →
       (oA o1) ∧
       CI 3 mX1_twoSort [vr 91, vi l3, vi (h o1 2)] h (fun r7 h6 =>
        (((r7 = 0) → (rj (l2 + 1)))) ∧
        Q (if r7 = 0 then (l2 + 1) else 2) h6))) ∧
     ((l2 ≥ 1) →
      (oA o1) ∧
      CI 2 mX1_oneSorts [vr 95, vi l3, vi (h o1 2)] h (fun r12 h11 =>
       ((r12 = 0) →
        ((l2 < 2) →
         (rj (l2 + 1)) ∧
         Q (l2 + 1) h11) ∧
        ((l2 ≥ 2) →
         (oA o1) ∧
         CI 3 mX1_twoSort [vr 91, vi l3, vi (h11 o1 2)] h11 (fun r18 h17 =>
          (((r18 = 0) → (rj (l2 + 1)))) ∧
          Q (if r18 = 0 then (l2 + 1) else 2) h17))) ∧
       ((r12 ≠ 0) →
        Q 1 h11)))) ∧
    ((l3 = 0) →
     Q 0 h)) :
    E 4 mX1_leastToSort 53 [(0, vr 91), (1, vr o1), (2, vi l2), (3, vi l3)] [] h (qi Q) := by
  refine E_iload_n 3 3 dX1_leastToSort_53 rfl rfl ?_
  refine E_if_ne 59 dX1_leastToSort_54 rfl (fun hc => ?_) (fun hc => ?_)
  · replace hP := hP.1 (hc)
    refine E_iload_n 2 2 dX1_leastToSort_59 rfl rfl ?_
    refine E_iconst dX1_leastToSort_60 (rg_of rfl) ?_
    refine E_icmp_lt 81 dX1_leastToSort_61 rfl (fun hc => ?_) (fun hc => ?_)
    · replace hP := hP.1 (hc)
      refine E_iload_n 2 2 dX1_leastToSort_81 rfl rfl ?_
      refine E_iconst dX1_leastToSort_82 (rg_of rfl) ?_
      refine E_icmp_lt 102 dX1_leastToSort_83 rfl (fun hc => ?_) (fun hc => ?_)
      · replace hP := hP.1 (hc)
        obtain ⟨v4_0, hP⟩ := hP
        refine E_iload_n 2 2 dX1_leastToSort_102 rfl rfl ?_
        refine E_iconst dX1_leastToSort_103 (rg_of rfl) ?_
        refine E_iadd dX1_leastToSort_104 (rgI v4_0) ?_
        exact E_retI dX1_leastToSort_105 rfl hP
      · replace hP := hP.2 (by omega)
        obtain ⟨v5_0, hP⟩ := hP
        refine E_aload_n 0 0 dX1_leastToSort_86 rfl rfl ?_
        refine E_iload_n 3 3 dX1_leastToSort_87 rfl rfl ?_
        refine E_aload_n 1 1 dX1_leastToSort_88 rfl rfl ?_
        refine E_gI 2 2 dX1_leastToSort_89 FX1_31 (icO0 v5_0) rfl ?_
        refine E_invVI [vi l3, vi (h o1 2)] dX1_leastToSort_92 fX1_twoSort lX1_56 ic_91 rfl (by decide) rfl rfl (Nat.le_of_ble_eq_true rfl) (CI_mono hP (fun r7 h6 hP => ?_))
        obtain ⟨v8_0, hP⟩ := hP
        have hJ : E 4 mX1_leastToSort 105 [(0, vr 91), (1, vr o1), (2, vi l2), (3, vi l3)] [vi (if r7 = 0 then (l2 + 1) else 2)] h6 (qi Q) := by
          exact E_retI dX1_leastToSort_105 rfl hP
        refine E_if_eq 102 dX1_leastToSort_95 rfl (fun hc => ?_) (fun hc => ?_)
        · have hp95 := (hc : r7 = 0)
          refine E_iload_n 2 2 dX1_leastToSort_102 rfl rfl ?_
          refine E_iconst dX1_leastToSort_103 (rg_of rfl) ?_
          refine E_iadd dX1_leastToSort_104 (rgI (v8_0 (by omega))) ?_
          exact E_top (by first | exact (if_pos (by omega)).symm | exact (if_neg (by omega)).symm | (repeat first | rw [if_pos (by omega)] | rw [if_neg (by omega)])) hJ
        · have hp95 := (by omega : r7 ≠ 0)
          refine E_iconst dX1_leastToSort_98 (rg_of rfl) ?_
          refine E_goto 105 dX1_leastToSort_99 rfl ?_
          exact E_top (by first | exact (if_pos (by omega)).symm | exact (if_neg (by omega)).symm | (repeat first | rw [if_pos (by omega)] | rw [if_neg (by omega)])) hJ
    · replace hP := hP.2 (by omega)
      obtain ⟨v10_0, hP⟩ := hP
      refine E_aload_n 0 0 dX1_leastToSort_64 rfl rfl ?_
      refine E_gR 95 4 dX1_leastToSort_65 FX1_25 ic_91 (by decide) ?_
      refine E_iload_n 3 3 dX1_leastToSort_68 rfl rfl ?_
      refine E_aload_n 1 1 dX1_leastToSort_69 rfl rfl ?_
      refine E_gI 2 2 dX1_leastToSort_70 FX1_31 (icO0 v10_0) rfl ?_
      refine E_invSI [vr 95, vi l3, vi (h o1 2)] dX1_leastToSort_73 fX1_oneSorts lX1_52 (by decide) rfl rfl (Nat.le_of_ble_eq_true rfl) (CI_mono hP (fun r12 h11 hP => ?_))
      refine E_if_eq 81 dX1_leastToSort_76 rfl (fun hc => ?_) (fun hc => ?_)
      · replace hP := hP.1 (hc)
        refine E_iload_n 2 2 dX1_leastToSort_81 rfl rfl ?_
        refine E_iconst dX1_leastToSort_82 (rg_of rfl) ?_
        refine E_icmp_lt 102 dX1_leastToSort_83 rfl (fun hc => ?_) (fun hc => ?_)
        · replace hP := hP.1 (hc)
          obtain ⟨v15_0, hP⟩ := hP
          refine E_iload_n 2 2 dX1_leastToSort_102 rfl rfl ?_
          refine E_iconst dX1_leastToSort_103 (rg_of rfl) ?_
          refine E_iadd dX1_leastToSort_104 (rgI v15_0) ?_
          exact E_retI dX1_leastToSort_105 rfl hP
        · replace hP := hP.2 (by omega)
          obtain ⟨v16_0, hP⟩ := hP
          refine E_aload_n 0 0 dX1_leastToSort_86 rfl rfl ?_
          refine E_iload_n 3 3 dX1_leastToSort_87 rfl rfl ?_
          refine E_aload_n 1 1 dX1_leastToSort_88 rfl rfl ?_
          refine E_gI 2 2 dX1_leastToSort_89 FX1_31 (icO0 v16_0) rfl ?_
          refine E_invVI [vi l3, vi (h11 o1 2)] dX1_leastToSort_92 fX1_twoSort lX1_56 ic_91 rfl (by decide) rfl rfl (Nat.le_of_ble_eq_true rfl) (CI_mono hP (fun r18 h17 hP => ?_))
          obtain ⟨v19_0, hP⟩ := hP
          have hJ : E 4 mX1_leastToSort 105 [(0, vr 91), (1, vr o1), (2, vi l2), (3, vi l3)] [vi (if r18 = 0 then (l2 + 1) else 2)] h17 (qi Q) := by
            exact E_retI dX1_leastToSort_105 rfl hP
          refine E_if_eq 102 dX1_leastToSort_95 rfl (fun hc => ?_) (fun hc => ?_)
          · have hp95 := (hc : r18 = 0)
            refine E_iload_n 2 2 dX1_leastToSort_102 rfl rfl ?_
            refine E_iconst dX1_leastToSort_103 (rg_of rfl) ?_
            refine E_iadd dX1_leastToSort_104 (rgI (v19_0 (by omega))) ?_
            exact E_top (by first | exact (if_pos (by omega)).symm | exact (if_neg (by omega)).symm | (repeat first | rw [if_pos (by omega)] | rw [if_neg (by omega)])) hJ
          · have hp95 := (by omega : r18 ≠ 0)
            refine E_iconst dX1_leastToSort_98 (rg_of rfl) ?_
            refine E_goto 105 dX1_leastToSort_99 rfl ?_
            exact E_top (by first | exact (if_pos (by omega)).symm | exact (if_neg (by omega)).symm | (repeat first | rw [if_pos (by omega)] | rw [if_neg (by omega)])) hJ
      · replace hP := hP.2 (by omega)
        refine E_iconst dX1_leastToSort_79 (rg_of rfl) ?_
        exact E_retI dX1_leastToSort_80 rfl hP
  · replace hP := hP.2 (by omega)
    refine E_iconst dX1_leastToSort_57 (rg_of rfl) ?_
    exact E_retI dX1_leastToSort_58 rfl hP
theorem sX1_leastToSort_5 {Q : Int → Hp → Prop} {h : Hp} {o1 l2 l3 l4 : Int}
    (hP : (oA o1) ∧
    ((l4 ≥ (h o1 3)) →
     E 4 mX1_leastToSort 53 [(0, vr 91), (1, vr o1), (2, vi l2), (3, vi l3)] [] h (qi Q)) ∧
    ((l4 < (h o1 3)) →
     (oA o1 ∧ ix l4 256) ∧
     CI 0 mX10_isSorted [vi (h (o1 + 2) l4), vi (h o1 2)] h (fun r5 h4 =>
      ((r5 ≠ 0) →
       (rj (l4 + 1)) ∧
       E 4 mX1_leastToSort 5 [(0, vr 91), (1, vr o1), (2, vi l2), (3, vi l3), (4, vi (l4 + 1))] [] h4 (qi Q)) ∧
      ((r5 = 0) →
       (oA o1 ∧ ix l4 256 ∧ ix l3 256 ∧ rj (l3 + 1) ∧ rj (l4 + 1)) ∧
       E 4 mX1_leastToSort 5 [(0, vr 91), (1, vr o1), (2, vi l2), (3, vi (l3 + 1)), (4, vi (l4 + 1))] [] (up h4 95 l3 (h4 (o1 + 2) l4)) (qi Q))))) :
    E 4 mX1_leastToSort 5 [(0, vr 91), (1, vr o1), (2, vi l2), (3, vi l3), (4, vi l4)] [] h (qi Q) := by
  obtain ⟨v1_0, hP⟩ := hP
  refine E_iload 4 dX1_leastToSort_5 rfl ?_
  refine E_aload_n 1 1 dX1_leastToSort_7 rfl rfl ?_
  refine E_gI 3 3 dX1_leastToSort_8 FX1_44 (icO0 v1_0) rfl ?_
  refine E_icmp_ge 53 dX1_leastToSort_11 rfl (fun hc => ?_) (fun hc => ?_)
  · replace hP := hP.1 (hc)
    exact E_sub [0, 1, 2, 3] rfl hP
  · replace hP := hP.2 (by omega)
    obtain ⟨⟨v3_0, v3_1⟩, hP⟩ := hP
    refine E_aload_n 1 1 dX1_leastToSort_14 rfl rfl ?_
    refine E_gR (o1 + 2) 1 dX1_leastToSort_15 FX1_45 (icO0 v3_0) (rfO1 v3_0) ?_
    refine E_iload 4 dX1_leastToSort_18 rfl ?_
    refine E_iaload dX1_leastToSort_20 (icO2 v3_0) v3_1.1 v3_1.2 ?_
    refine E_aload_n 1 1 dX1_leastToSort_21 rfl rfl ?_
    refine E_gI 2 2 dX1_leastToSort_22 FX1_31 (icO0 v3_0) rfl ?_
    refine E_invNI [vi (h (o1 + 2) l4), vi (h o1 2)] dX1_leastToSort_25 fX10_isSorted nX1_48 (by decide) rfl rfl (Nat.le_of_ble_eq_true rfl) (CI_mono hP (fun r5 h4 hP => ?_))
    refine E_if_ne 47 dX1_leastToSort_28 rfl (fun hc => ?_) (fun hc => ?_)
    · replace hP := hP.1 (hc)
      obtain ⟨v7_0, hP⟩ := hP
      refine E_iinc 4 dX1_leastToSort_47 rfl (rgI v7_0) (by decide) rfl ?_
      refine E_goto 5 dX1_leastToSort_50 rfl ?_
      exact E_sub [1, 2, 3, 4, 0] rfl hP
    · replace hP := hP.2 (by omega)
      obtain ⟨⟨v8_0, v8_1, v8_2, v8_3, v8_4⟩, hP⟩ := hP
      refine E_aload_n 0 0 dX1_leastToSort_31 rfl rfl ?_
      refine E_gR 95 4 dX1_leastToSort_32 FX1_25 ic_91 (by decide) ?_
      refine E_iload_n 3 3 dX1_leastToSort_35 rfl rfl ?_
      refine E_aload_n 1 1 dX1_leastToSort_36 rfl rfl ?_
      refine E_gR (o1 + 2) 1 dX1_leastToSort_37 FX1_45 (icO0 v8_0) (rfO1 v8_0) ?_
      refine E_iload 4 dX1_leastToSort_40 rfl ?_
      refine E_iaload dX1_leastToSort_42 (icO2 v8_0) v8_1.1 v8_1.2 ?_
      refine E_iastore dX1_leastToSort_43 ic_95 v8_2.1 v8_2.2 ?_
      refine E_iinc 3 dX1_leastToSort_44 rfl (rgI v8_3) (by decide) rfl ?_
      refine E_iinc 4 dX1_leastToSort_47 rfl (rgI v8_4) (by decide) rfl ?_
      refine E_goto 5 dX1_leastToSort_50 rfl ?_
      exact E_sub [2, 3, 4, 1, 0] rfl hP
theorem sX1_leastToSort {Q : Int → Hp → Prop} {h : Hp} {o1 l2 : Int}
    (hP : E 4 mX1_leastToSort 5 [(0, vr 91), (1, vr o1), (2, vi l2), (3, vi 0), (4, vi 0)] [] h (qi Q)) :
    CI 4 mX1_leastToSort [vr 91, vr o1, vi l2] h Q := by
  refine CI_of_E fX1_leastToSort.1 rfl (Nat.le_of_ble_eq_true rfl) ?_
  show E 4 mX1_leastToSort 0 [(0, vr 91), (1, vr o1), (2, vi l2)] [] h (qi Q)
  refine E_iconst dX1_leastToSort_0 (rg_of rfl) ?_
  refine E_istore_n dX1_leastToSort_1 rfl (by decide) rfl ?_
  refine E_iconst dX1_leastToSort_2 (rg_of rfl) ?_
  refine E_istore dX1_leastToSort_3 (by decide) rfl ?_
  exact E_sub [2, 3, 4, 1, 0] rfl hP
theorem dX3_takeOver_0 : decode prog_5_method_5_code 0 = .ok (.aload_n 0, 1) := by decide +kernel
theorem dX3_takeOver_1 : decode prog_5_method_5_code 1 = .ok (.aload_n 1, 1) := by decide +kernel
theorem dX3_takeOver_2 : decode prog_5_method_5_code 2 = .ok (.getfield 9, 3) := by decide +kernel
theorem dX3_takeOver_5 : decode prog_5_method_5_code 5 = .ok (.putfield 9, 3) := by decide +kernel
theorem dX3_takeOver_8 : decode prog_5_method_5_code 8 = .ok (.aload_n 0, 1) := by decide +kernel
theorem dX3_takeOver_9 : decode prog_5_method_5_code 9 = .ok (.aload_n 1, 1) := by decide +kernel
theorem dX3_takeOver_10 : decode prog_5_method_5_code 10 = .ok (.getfield 15, 3) := by decide +kernel
theorem dX3_takeOver_13 : decode prog_5_method_5_code 13 = .ok (.putfield 15, 3) := by decide +kernel
theorem dX3_takeOver_16 : decode prog_5_method_5_code 16 = .ok (.aload_n 1, 1) := by decide +kernel
theorem dX3_takeOver_17 : decode prog_5_method_5_code 17 = .ok (.getfield 18, 3) := by decide +kernel
theorem dX3_takeOver_20 : decode prog_5_method_5_code 20 = .ok (.iconst 0, 1) := by decide +kernel
theorem dX3_takeOver_21 : decode prog_5_method_5_code 21 = .ok (.aload_n 0, 1) := by decide +kernel
theorem dX3_takeOver_22 : decode prog_5_method_5_code 22 = .ok (.getfield 18, 3) := by decide +kernel
theorem dX3_takeOver_25 : decode prog_5_method_5_code 25 = .ok (.iconst 0, 1) := by decide +kernel
theorem dX3_takeOver_26 : decode prog_5_method_5_code 26 = .ok (.bipush 40, 2) := by decide +kernel
theorem dX3_takeOver_28 : decode prog_5_method_5_code 28 = .ok (.invokestatic 28, 3) := by decide +kernel
theorem dX3_takeOver_31 : decode prog_5_method_5_code 31 = .ok (.aload_n 1, 1) := by decide +kernel
theorem dX3_takeOver_32 : decode prog_5_method_5_code 32 = .ok (.getfield 22, 3) := by decide +kernel
theorem dX3_takeOver_35 : decode prog_5_method_5_code 35 = .ok (.iconst 0, 1) := by decide +kernel
theorem dX3_takeOver_36 : decode prog_5_method_5_code 36 = .ok (.aload_n 0, 1) := by decide +kernel
theorem dX3_takeOver_37 : decode prog_5_method_5_code 37 = .ok (.getfield 22, 3) := by decide +kernel
theorem dX3_takeOver_40 : decode prog_5_method_5_code 40 = .ok (.iconst 0, 1) := by decide +kernel
theorem dX3_takeOver_41 : decode prog_5_method_5_code 41 = .ok (.bipush 40, 2) := by decide +kernel
theorem dX3_takeOver_43 : decode prog_5_method_5_code 43 = .ok (.invokestatic 28, 3) := by decide +kernel
theorem dX3_takeOver_46 : decode prog_5_method_5_code 46 = .ok (.return_, 1) := by decide +kernel
theorem sX3_takeOver {Q : Hp → Prop} {h : Hp} {a0 a1 : Int}
    (hP : (nA a1 ∧ nA a0) ∧
    Q (cpy (cpy (up (up h a0 0 (h a1 0)) a0 1 ((up h a0 0 (h a1 0)) a1 1)) (a1 + 1) (a0 + 1) 40) (a1 + 2) (a0 + 2) 40)) :
    CV 3 mX3_takeOver [vr a0, vr a1] h Q := by
  refine CV_of_E fX3_takeOver.1 rfl (Nat.le_of_ble_eq_true rfl) ?_
  show E 3 mX3_takeOver 0 [(0, vr a0), (1, vr a1)] [] h (qv Q)
  obtain ⟨⟨v1_0, v1_1⟩, hP⟩ := hP
  refine E_aload_n 0 0 dX3_takeOver_0 rfl rfl ?_
  refine E_aload_n 1 1 dX3_takeOver_1 rfl rfl ?_
  refine E_gI 0 0 dX3_takeOver_2 FX3_9 (icN0 v1_0) rfl ?_
  refine E_pI 0 0 dX3_takeOver_5 PX3_9 (icN0 v1_1) rfl ?_
  refine E_aload_n 0 0 dX3_takeOver_8 rfl rfl ?_
  refine E_aload_n 1 1 dX3_takeOver_9 rfl rfl ?_
  refine E_gI 1 1 dX3_takeOver_10 FX3_15 (icN0 v1_0) rfl ?_
  refine E_pI 1 1 dX3_takeOver_13 PX3_15 (icN0 v1_1) rfl ?_
  refine E_aload_n 1 1 dX3_takeOver_16 rfl rfl ?_
  refine E_gR (a1 + 1) 2 dX3_takeOver_17 FX3_18 (icN0 v1_0) (rfN2 v1_0) ?_
  refine E_iconst dX3_takeOver_20 (rg_of rfl) ?_
  refine E_aload_n 0 0 dX3_takeOver_21 rfl rfl ?_
  refine E_gR (a0 + 1) 2 dX3_takeOver_22 FX3_18 (icN0 v1_1) (rfN2 v1_1) ?_
  refine E_iconst dX3_takeOver_25 (rg_of rfl) ?_
  refine E_bipush dX3_takeOver_26 (by decide) ?_
  refine E_copy dX3_takeOver_28 ac_lX3_28 (by decide) (Nat.le_of_ble_eq_true rfl) (icN1 v1_0) (icN1 v1_1) (by decide) (by decide) (by decide) ?_
  refine E_aload_n 1 1 dX3_takeOver_31 rfl rfl ?_
  refine E_gR (a1 + 2) 3 dX3_takeOver_32 FX3_22 (icN0 v1_0) (rfN3 v1_0) ?_
  refine E_iconst dX3_takeOver_35 (rg_of rfl) ?_
  refine E_aload_n 0 0 dX3_takeOver_36 rfl rfl ?_
  refine E_gR (a0 + 2) 3 dX3_takeOver_37 FX3_22 (icN0 v1_1) (rfN3 v1_1) ?_
  refine E_iconst dX3_takeOver_40 (rg_of rfl) ?_
  refine E_bipush dX3_takeOver_41 (by decide) ?_
  refine E_copy dX3_takeOver_43 ac_lX3_28 (by decide) (Nat.le_of_ble_eq_true rfl) (icN2 v1_0) (icN2 v1_1) (by decide) (by decide) (by decide) ?_
  exact E_retV dX3_takeOver_46 rfl hP
theorem dX2_keep_0 : decode prog_4_method_2_code 0 = .ok (.aload_n 0, 1) := by decide +kernel
theorem dX2_keep_1 : decode prog_4_method_2_code 1 = .ok (.getfield 11, 3) := by decide +kernel
theorem dX2_keep_4 : decode prog_4_method_2_code 4 = .ok (.aload_n 0, 1) := by decide +kernel
theorem dX2_keep_5 : decode prog_4_method_2_code 5 = .ok (.getfield 21, 3) := by decide +kernel
theorem dX2_keep_8 : decode prog_4_method_2_code 8 = .ok (.aaload, 1) := by decide +kernel
theorem dX2_keep_9 : decode prog_4_method_2_code 9 = .ok (.aload_n 2, 1) := by decide +kernel
theorem dX2_keep_10 : decode prog_4_method_2_code 10 = .ok (.invokevirtual 29, 3) := by decide +kernel
theorem dX2_keep_13 : decode prog_4_method_2_code 13 = .ok (.aload_n 0, 1) := by decide +kernel
theorem dX2_keep_14 : decode prog_4_method_2_code 14 = .ok (.getfield 17, 3) := by decide +kernel
theorem dX2_keep_17 : decode prog_4_method_2_code 17 = .ok (.aload_n 0, 1) := by decide +kernel
theorem dX2_keep_18 : decode prog_4_method_2_code 18 = .ok (.getfield 21, 3) := by decide +kernel
theorem dX2_keep_21 : decode prog_4_method_2_code 21 = .ok (.iload_n 1, 1) := by decide +kernel
theorem dX2_keep_22 : decode prog_4_method_2_code 22 = .ok (.iastore, 1) := by decide +kernel
theorem dX2_keep_23 : decode prog_4_method_2_code 23 = .ok (.aload_n 0, 1) := by decide +kernel
theorem dX2_keep_24 : decode prog_4_method_2_code 24 = .ok (.aload_n 0, 1) := by decide +kernel
theorem dX2_keep_25 : decode prog_4_method_2_code 25 = .ok (.getfield 21, 3) := by decide +kernel
theorem dX2_keep_28 : decode prog_4_method_2_code 28 = .ok (.iconst 1, 1) := by decide +kernel
theorem dX2_keep_29 : decode prog_4_method_2_code 29 = .ok (.iadd, 1) := by decide +kernel
theorem dX2_keep_30 : decode prog_4_method_2_code 30 = .ok (.bipush 12, 2) := by decide +kernel
theorem dX2_keep_32 : decode prog_4_method_2_code 32 = .ok (.irem, 1) := by decide +kernel
theorem dX2_keep_33 : decode prog_4_method_2_code 33 = .ok (.putfield 21, 3) := by decide +kernel
theorem dX2_keep_36 : decode prog_4_method_2_code 36 = .ok (.aload_n 0, 1) := by decide +kernel
theorem dX2_keep_37 : decode prog_4_method_2_code 37 = .ok (.aload_n 0, 1) := by decide +kernel
theorem dX2_keep_38 : decode prog_4_method_2_code 38 = .ok (.getfield 25, 3) := by decide +kernel
theorem dX2_keep_41 : decode prog_4_method_2_code 41 = .ok (.iconst 1, 1) := by decide +kernel
theorem dX2_keep_42 : decode prog_4_method_2_code 42 = .ok (.iadd, 1) := by decide +kernel
theorem dX2_keep_43 : decode prog_4_method_2_code 43 = .ok (.bipush 12, 2) := by decide +kernel
theorem dX2_keep_45 : decode prog_4_method_2_code 45 = .ok (.invokestatic 33, 3) := by decide +kernel
theorem dX2_keep_48 : decode prog_4_method_2_code 48 = .ok (.putfield 25, 3) := by decide +kernel
theorem dX2_keep_51 : decode prog_4_method_2_code 51 = .ok (.return_, 1) := by decide +kernel
theorem sX2_keep {Q : Hp → Prop} {h : Hp} {l1 a2 : Int}
    (hP : (ix (h 70 2) 12 ∧ nA (20 + 4 * (h 70 2))) ∧
    CV 3 mX3_takeOver [vr (20 + 4 * (h 70 2)), vr a2] h (fun h2 =>
     (ix (h2 70 2) 12 ∧ rj ((h2 70 2) + 1) ∧ rj ((h2 70 3) + 1)) ∧
     Q (up (up (up h2 72 (h2 70 2) l1) 70 2 (j_irem ((h2 70 2) + 1) 12)) 70 3 (if ((h2 70 3) + 1) > 12 then 12 else ((h2 70 3) + 1))))) :
    CV 4 mX2_keep [vr 70, vi l1, vr a2] h Q := by
  refine CV_of_E fX2_keep.1 rfl (Nat.le_of_ble_eq_true rfl) ?_
  show E 4 mX2_keep 0 [(0, vr 70), (1, vi l1), (2, vr a2)] [] h (qv Q)
  obtain ⟨⟨v1_0, v1_1⟩, hP⟩ := hP
  refine E_aload_n 0 0 dX2_keep_0 rfl rfl ?_
  refine E_gR 71 0 dX2_keep_1 FX2_11 ic_70 (by decide) ?_
  refine E_aload_n 0 0 dX2_keep_4 rfl rfl ?_
  refine E_gI 2 2 dX2_keep_5 FX2_21 ic_70 rfl ?_
  refine E_aaloadN dX2_keep_8 ic_71 v1_0.1 v1_0.2 (rf_before ⟨v1_0.1, v1_0.2⟩) ?_
  refine E_aload_n 2 2 dX2_keep_9 rfl rfl ?_
  refine E_invVV [vr a2] dX2_keep_10 fX3_takeOver lX2_29 (icN0 v1_1) rfl (by decide) rfl rfl (Nat.le_of_ble_eq_true rfl) (CV_mono hP (fun h2 hP => ?_))
  obtain ⟨⟨v3_0, v3_1, v3_2⟩, hP⟩ := hP
  refine E_aload_n 0 0 dX2_keep_13 rfl rfl ?_
  refine E_gR 72 1 dX2_keep_14 FX2_17 ic_70 (by decide) ?_
  refine E_aload_n 0 0 dX2_keep_17 rfl rfl ?_
  refine E_gI 2 2 dX2_keep_18 FX2_21 ic_70 rfl ?_
  refine E_iload_n 1 1 dX2_keep_21 rfl rfl ?_
  refine E_iastore dX2_keep_22 ic_72 v3_0.1 v3_0.2 ?_
  refine E_aload_n 0 0 dX2_keep_23 rfl rfl ?_
  refine E_aload_n 0 0 dX2_keep_24 rfl rfl ?_
  refine E_gI 2 2 dX2_keep_25 FX2_21 ic_70 rfl ?_
  refine E_top (y := (h2 70 2)) (by simp [up]) ?_
  refine E_iconst dX2_keep_28 (rg_of rfl) ?_
  refine E_iadd dX2_keep_29 (rgI v3_1) ?_
  refine E_bipush dX2_keep_30 (by decide) ?_
  refine E_irem dX2_keep_32 (by decide) ?_
  refine E_pI 2 2 dX2_keep_33 PX2_21 ic_70 rfl ?_
  refine E_aload_n 0 0 dX2_keep_36 rfl rfl ?_
  refine E_aload_n 0 0 dX2_keep_37 rfl rfl ?_
  refine E_gI 3 3 dX2_keep_38 FX2_25 ic_70 rfl ?_
  refine E_top (y := (h2 70 3)) (by simp [up]) ?_
  refine E_iconst dX2_keep_41 (rg_of rfl) ?_
  refine E_iadd dX2_keep_42 (rgI v3_2) ?_
  refine E_bipush dX2_keep_43 (by decide) ?_
  refine E_mmin dX2_keep_45 lX2_33m (by decide) (Nat.le_of_ble_eq_true rfl) ?_
  refine E_pI 3 3 dX2_keep_48 PX2_25 ic_70 rfl ?_
  exact E_retV dX2_keep_51 rfl hP
theorem dX2_takeBack_0 : decode prog_4_method_3_code 0 = .ok (.aload_n 0, 1) := by decide +kernel
theorem dX2_takeBack_1 : decode prog_4_method_3_code 1 = .ok (.getfield 25, 3) := by decide +kernel
theorem dX2_takeBack_4 : decode prog_4_method_3_code 4 = .ok (.ifCond .ne 6, 3) := by decide +kernel
theorem dX2_takeBack_7 : decode prog_4_method_3_code 7 = .ok (.bipush (-4), 2) := by decide +kernel
theorem dX2_takeBack_9 : decode prog_4_method_3_code 9 = .ok (.ireturn, 1) := by decide +kernel
theorem dX2_takeBack_10 : decode prog_4_method_3_code 10 = .ok (.aload_n 0, 1) := by decide +kernel
theorem dX2_takeBack_11 : decode prog_4_method_3_code 11 = .ok (.aload_n 0, 1) := by decide +kernel
theorem dX2_takeBack_12 : decode prog_4_method_3_code 12 = .ok (.getfield 21, 3) := by decide +kernel
theorem dX2_takeBack_15 : decode prog_4_method_3_code 15 = .ok (.bipush 12, 2) := by decide +kernel
theorem dX2_takeBack_17 : decode prog_4_method_3_code 17 = .ok (.iadd, 1) := by decide +kernel
theorem dX2_takeBack_18 : decode prog_4_method_3_code 18 = .ok (.iconst 1, 1) := by decide +kernel
theorem dX2_takeBack_19 : decode prog_4_method_3_code 19 = .ok (.isub, 1) := by decide +kernel
theorem dX2_takeBack_20 : decode prog_4_method_3_code 20 = .ok (.bipush 12, 2) := by decide +kernel
theorem dX2_takeBack_22 : decode prog_4_method_3_code 22 = .ok (.irem, 1) := by decide +kernel
theorem dX2_takeBack_23 : decode prog_4_method_3_code 23 = .ok (.putfield 21, 3) := by decide +kernel
theorem dX2_takeBack_26 : decode prog_4_method_3_code 26 = .ok (.aload_n 0, 1) := by decide +kernel
theorem dX2_takeBack_27 : decode prog_4_method_3_code 27 = .ok (.dup, 1) := by decide +kernel
theorem dX2_takeBack_28 : decode prog_4_method_3_code 28 = .ok (.getfield 25, 3) := by decide +kernel
theorem dX2_takeBack_31 : decode prog_4_method_3_code 31 = .ok (.iconst 1, 1) := by decide +kernel
theorem dX2_takeBack_32 : decode prog_4_method_3_code 32 = .ok (.isub, 1) := by decide +kernel
theorem dX2_takeBack_33 : decode prog_4_method_3_code 33 = .ok (.putfield 25, 3) := by decide +kernel
theorem dX2_takeBack_36 : decode prog_4_method_3_code 36 = .ok (.aload_n 0, 1) := by decide +kernel
theorem dX2_takeBack_37 : decode prog_4_method_3_code 37 = .ok (.getfield 17, 3) := by decide +kernel
theorem dX2_takeBack_40 : decode prog_4_method_3_code 40 = .ok (.aload_n 0, 1) := by decide +kernel
theorem dX2_takeBack_41 : decode prog_4_method_3_code 41 = .ok (.getfield 21, 3) := by decide +kernel
theorem dX2_takeBack_44 : decode prog_4_method_3_code 44 = .ok (.iaload, 1) := by decide +kernel
theorem dX2_takeBack_45 : decode prog_4_method_3_code 45 = .ok (.istore_n 2, 1) := by decide +kernel
theorem dX2_takeBack_46 : decode prog_4_method_3_code 46 = .ok (.iload_n 2, 1) := by decide +kernel
theorem dX2_takeBack_47 : decode prog_4_method_3_code 47 = .ok (.ifCond .lt 24, 3) := by decide +kernel
theorem dX2_takeBack_50 : decode prog_4_method_3_code 50 = .ok (.iload_n 2, 1) := by decide +kernel
theorem dX2_takeBack_51 : decode prog_4_method_3_code 51 = .ok (.aload_n 1, 1) := by decide +kernel
theorem dX2_takeBack_52 : decode prog_4_method_3_code 52 = .ok (.arraylength, 1) := by decide +kernel
theorem dX2_takeBack_53 : decode prog_4_method_3_code 53 = .ok (.if_icmp .ge 18, 3) := by decide +kernel
theorem dX2_takeBack_56 : decode prog_4_method_3_code 56 = .ok (.aload_n 1, 1) := by decide +kernel
theorem dX2_takeBack_57 : decode prog_4_method_3_code 57 = .ok (.iload_n 2, 1) := by decide +kernel
theorem dX2_takeBack_58 : decode prog_4_method_3_code 58 = .ok (.aaload, 1) := by decide +kernel
theorem dX2_takeBack_59 : decode prog_4_method_3_code 59 = .ok (.aload_n 0, 1) := by decide +kernel
theorem dX2_takeBack_60 : decode prog_4_method_3_code 60 = .ok (.getfield 11, 3) := by decide +kernel
theorem dX2_takeBack_63 : decode prog_4_method_3_code 63 = .ok (.aload_n 0, 1) := by decide +kernel
theorem dX2_takeBack_64 : decode prog_4_method_3_code 64 = .ok (.getfield 21, 3) := by decide +kernel
theorem dX2_takeBack_67 : decode prog_4_method_3_code 67 = .ok (.aaload, 1) := by decide +kernel
theorem dX2_takeBack_68 : decode prog_4_method_3_code 68 = .ok (.invokevirtual 29, 3) := by decide +kernel
theorem dX2_takeBack_71 : decode prog_4_method_3_code 71 = .ok (.aload_n 0, 1) := by decide +kernel
theorem dX2_takeBack_72 : decode prog_4_method_3_code 72 = .ok (.getfield 25, 3) := by decide +kernel
theorem dX2_takeBack_75 : decode prog_4_method_3_code 75 = .ok (.ireturn, 1) := by decide +kernel
theorem sX2_takeBack {Q : Int → Hp → Prop} {h : Hp}
    (hP : (((h 70 3) ≠ 0) →
     (rj ((h 70 2) + 12) ∧ rj (((h 70 2) + 12) - 1) ∧ rj ((h 70 3) - 1) ∧ ix (j_irem (((h 70 2) + 12) - 1) 12) 12) ∧
     (∀ x3 : Int, x3 = (h 72 (j_irem (((h 70 2) + 12) - 1) 12)) →
     ((x3 < 0) →
      Q ((h 70 3) - 1) (up (up h 70 2 (j_irem (((h 70 2) + 12) - 1) 12)) 70 3 ((h 70 3) - 1))) ∧
     ((x3 ≥ 0) →
      ((x3 ≥ 4) →
       Q ((h 70 3) - 1) (up (up h 70 2 (j_irem (((h 70 2) + 12) - 1) 12)) 70 3 ((h 70 3) - 1))) ∧
      ((x3 < 4) →
       (ix x3 4 ∧ ix (j_irem (((h 70 2) + 12) - 1) 12) 12 ∧ nA (4 * x3)) ∧
       CV 3 mX3_takeOver [vr (4 * x3), vr (20 + 4 * (j_irem (((h 70 2) + 12) - 1) 12))] (up (up h 70 2 (j_irem (((h 70 2) + 12) - 1) 12)) 70 3 ((h 70 3) - 1)) (fun h9 =>
        Q (h9 70 3) h9))))) ∧
    (((h 70 3) = 0) →
     Q (-4) h)) :
    CI 4 mX2_takeBack [vr 70, vr 69] h Q := by
  refine CI_of_E fX2_takeBack.1 rfl (Nat.le_of_ble_eq_true rfl) ?_
  show E 4 mX2_takeBack 0 [(0, vr 70), (1, vr 69)] [] h (qi Q)
  refine E_aload_n 0 0 dX2_takeBack_0 rfl rfl ?_
  refine E_gI 3 3 dX2_takeBack_1 FX2_25 ic_70 rfl ?_
  refine E_if_ne 10 dX2_takeBack_4 rfl (fun hc => ?_) (fun hc => ?_)
  · replace hP := hP.1 (hc)
    obtain ⟨⟨v2_0, v2_1, v2_2, v2_3⟩, hP⟩ := hP
    refine E_aload_n 0 0 dX2_takeBack_10 rfl rfl ?_
    refine E_aload_n 0 0 dX2_takeBack_11 rfl rfl ?_
    refine E_gI 2 2 dX2_takeBack_12 FX2_21 ic_70 rfl ?_
    refine E_bipush dX2_takeBack_15 (by decide) ?_
    refine E_iadd dX2_takeBack_17 (rgI v2_0) ?_
    refine E_iconst dX2_takeBack_18 (rg_of rfl) ?_
    refine E_isub dX2_takeBack_19 (rgI v2_1) ?_
    refine E_bipush dX2_takeBack_20 (by decide) ?_
    refine E_irem dX2_takeBack_22 (by decide) ?_
    refine E_pI 2 2 dX2_takeBack_23 PX2_21 ic_70 rfl ?_
    refine E_aload_n 0 0 dX2_takeBack_26 rfl rfl ?_
    refine E_dup dX2_takeBack_27 rfl ?_
    refine E_gI 3 3 dX2_takeBack_28 FX2_25 ic_70 rfl ?_
    refine E_top (y := (h 70 3)) (by simp [up]) ?_
    refine E_iconst dX2_takeBack_31 (rg_of rfl) ?_
    refine E_isub dX2_takeBack_32 (rgI v2_2) ?_
    refine E_pI 3 3 dX2_takeBack_33 PX2_25 ic_70 rfl ?_
    refine E_aload_n 0 0 dX2_takeBack_36 rfl rfl ?_
    refine E_gR 72 1 dX2_takeBack_37 FX2_17 ic_70 (by decide) ?_
    refine E_aload_n 0 0 dX2_takeBack_40 rfl rfl ?_
    refine E_gI 2 2 dX2_takeBack_41 FX2_21 ic_70 rfl ?_
    refine E_top (y := (j_irem (((h 70 2) + 12) - 1) 12)) (by simp [up]) ?_
    refine E_iaload dX2_takeBack_44 ic_72 v2_3.1 v2_3.2 ?_
    refine E_top (y := (h 72 (j_irem (((h 70 2) + 12) - 1) 12))) (by simp [up]) ?_
    obtain ⟨x3, hx3⟩ : ∃ x : Int, x = (h 72 (j_irem (((h 70 2) + 12) - 1) 12)) := ⟨_, rfl⟩
    refine E_top hx3.symm ?_
    replace hP := hP x3 hx3
    refine E_istore_n dX2_takeBack_45 rfl (by decide) rfl ?_
    refine E_iload_n 0 2 dX2_takeBack_46 rfl rfl ?_
    refine E_if_lt 71 dX2_takeBack_47 rfl (fun hc => ?_) (fun hc => ?_)
    · replace hP := hP.1 (hc)
      refine E_aload_n 1 0 dX2_takeBack_71 rfl rfl ?_
      refine E_gI 3 3 dX2_takeBack_72 FX2_25 ic_70 rfl ?_
      refine E_top (y := ((h 70 3) - 1)) (by simp [up]) ?_
      exact E_retI dX2_takeBack_75 rfl hP
    · replace hP := hP.2 (by omega)
      refine E_iload_n 0 2 dX2_takeBack_50 rfl rfl ?_
      refine E_aload_n 2 1 dX2_takeBack_51 rfl rfl ?_
      refine E_lenN 4 dX2_takeBack_52 ic_69 (by decide) rfl ?_
      refine E_icmp_ge 71 dX2_takeBack_53 rfl (fun hc => ?_) (fun hc => ?_)
      · replace hP := hP.1 (hc)
        refine E_aload_n 1 0 dX2_takeBack_71 rfl rfl ?_
        refine E_gI 3 3 dX2_takeBack_72 FX2_25 ic_70 rfl ?_
        refine E_top (y := ((h 70 3) - 1)) (by simp [up]) ?_
        exact E_retI dX2_takeBack_75 rfl hP
      · replace hP := hP.2 (by omega)
        obtain ⟨⟨v8_0, v8_1, v8_2⟩, hP⟩ := hP
        refine E_aload_n 2 1 dX2_takeBack_56 rfl rfl ?_
        refine E_iload_n 0 2 dX2_takeBack_57 rfl rfl ?_
        refine E_aaloadN dX2_takeBack_58 ic_69 v8_0.1 v8_0.2 (rf_nets ⟨v8_0.1, v8_0.2⟩) ?_
        refine E_aload_n 1 0 dX2_takeBack_59 rfl rfl ?_
        refine E_gR 71 0 dX2_takeBack_60 FX2_11 ic_70 (by decide) ?_
        refine E_aload_n 1 0 dX2_takeBack_63 rfl rfl ?_
        refine E_gI 2 2 dX2_takeBack_64 FX2_21 ic_70 rfl ?_
        refine E_top (y := (j_irem (((h 70 2) + 12) - 1) 12)) (by simp [up]) ?_
        refine E_aaloadN dX2_takeBack_67 ic_71 v8_1.1 v8_1.2 (rf_before ⟨v8_1.1, v8_1.2⟩) ?_
        refine E_invVV [vr (20 + 4 * (j_irem (((h 70 2) + 12) - 1) 12))] dX2_takeBack_68 fX3_takeOver lX2_29 (icN0 v8_2) rfl (by decide) rfl rfl (Nat.le_of_ble_eq_true rfl) (CV_mono hP (fun h9 hP => ?_))
        refine E_aload_n 1 0 dX2_takeBack_71 rfl rfl ?_
        refine E_gI 3 3 dX2_takeBack_72 FX2_25 ic_70 rfl ?_
        exact E_retI dX2_takeBack_75 rfl hP
  · replace hP := hP.2 (by omega)
    refine E_bipush dX2_takeBack_7 (by decide) ?_
    exact E_retI dX2_takeBack_9 rfl hP
theorem dX3_hasWire_0 : decode prog_5_method_2_code 0 = .ok (.iload_n 1, 1) := by decide +kernel
theorem dX3_hasWire_1 : decode prog_5_method_2_code 1 = .ok (.ifCond .lt 15, 3) := by decide +kernel
theorem dX3_hasWire_4 : decode prog_5_method_2_code 4 = .ok (.iload_n 1, 1) := by decide +kernel
theorem dX3_hasWire_5 : decode prog_5_method_2_code 5 = .ok (.aload_n 0, 1) := by decide +kernel
theorem dX3_hasWire_6 : decode prog_5_method_2_code 6 = .ok (.getfield 9, 3) := by decide +kernel
theorem dX3_hasWire_9 : decode prog_5_method_2_code 9 = .ok (.if_icmp .ge 7, 3) := by decide +kernel
theorem dX3_hasWire_12 : decode prog_5_method_2_code 12 = .ok (.iconst 1, 1) := by decide +kernel
theorem dX3_hasWire_13 : decode prog_5_method_2_code 13 = .ok (.goto 4, 3) := by decide +kernel
theorem dX3_hasWire_16 : decode prog_5_method_2_code 16 = .ok (.iconst 0, 1) := by decide +kernel
theorem dX3_hasWire_17 : decode prog_5_method_2_code 17 = .ok (.ireturn, 1) := by decide +kernel
theorem sX3_hasWire {Q : Int → Hp → Prop} {h : Hp} {a0 l1 : Int}
    (hP : (((l1 ≥ 0) → (nA a0))) ∧
    Q (if l1 ≥ 0 ∧ l1 < (h a0 0) then (1 : Int) else 0) h) :
    CI 0 mX3_hasWire [vr a0, vi l1] h Q := by
  refine CI_of_E fX3_hasWire.1 rfl (Nat.le_of_ble_eq_true rfl) ?_
  show E 0 mX3_hasWire 0 [(0, vr a0), (1, vi l1)] [] h (qi Q)
  obtain ⟨v1_0, hP⟩ := hP
  refine E_iload_n 1 1 dX3_hasWire_0 rfl rfl ?_
  have hJ : E 0 mX3_hasWire 17 [(0, vr a0), (1, vi l1)] [vi (if l1 ≥ 0 ∧ l1 < (h a0 0) then (1 : Int) else 0)] h (qi Q) := by
    exact E_retZ dX3_hasWire_17 rfl (b01 _) hP
  refine E_if_lt 16 dX3_hasWire_1 rfl (fun hc => ?_) (fun hc => ?_)
  · have hp1 := (hc : l1 < 0)
    refine E_iconst dX3_hasWire_16 (rg_of rfl) ?_
    exact E_top (if_neg (by omega)).symm hJ
  · have hp1 := (by omega : l1 ≥ 0)
    refine E_iload_n 1 1 dX3_hasWire_4 rfl rfl ?_
    refine E_aload_n 0 0 dX3_hasWire_5 rfl rfl ?_
    refine E_gI 0 0 dX3_hasWire_6 FX3_9 (icN0 (v1_0 (by omega))) rfl ?_
    refine E_icmp_ge 16 dX3_hasWire_9 rfl (fun hc => ?_) (fun hc => ?_)
    · have hp9 := (hc : l1 ≥ (h a0 0))
      refine E_iconst dX3_hasWire_16 (rg_of rfl) ?_
      exact E_top (if_neg (by omega)).symm hJ
    · have hp9 := (by omega : l1 < (h a0 0))
      refine E_iconst dX3_hasWire_12 (rg_of rfl) ?_
      refine E_goto 17 dX3_hasWire_13 rfl ?_
      exact E_top (if_pos (by omega)).symm hJ
theorem dX3_hasPosition_0 : decode prog_5_method_3_code 0 = .ok (.iload_n 1, 1) := by decide +kernel
theorem dX3_hasPosition_1 : decode prog_5_method_3_code 1 = .ok (.ifCond .lt 15, 3) := by decide +kernel
theorem dX3_hasPosition_4 : decode prog_5_method_3_code 4 = .ok (.iload_n 1, 1) := by decide +kernel
theorem dX3_hasPosition_5 : decode prog_5_method_3_code 5 = .ok (.aload_n 0, 1) := by decide +kernel
theorem dX3_hasPosition_6 : decode prog_5_method_3_code 6 = .ok (.getfield 15, 3) := by decide +kernel
theorem dX3_hasPosition_9 : decode prog_5_method_3_code 9 = .ok (.if_icmp .ge 7, 3) := by decide +kernel
theorem dX3_hasPosition_12 : decode prog_5_method_3_code 12 = .ok (.iconst 1, 1) := by decide +kernel
theorem dX3_hasPosition_13 : decode prog_5_method_3_code 13 = .ok (.goto 4, 3) := by decide +kernel
theorem dX3_hasPosition_16 : decode prog_5_method_3_code 16 = .ok (.iconst 0, 1) := by decide +kernel
theorem dX3_hasPosition_17 : decode prog_5_method_3_code 17 = .ok (.ireturn, 1) := by decide +kernel
theorem sX3_hasPosition {Q : Int → Hp → Prop} {h : Hp} {a0 l1 : Int}
    (hP : (((l1 ≥ 0) → (nA a0))) ∧
    Q (if l1 ≥ 0 ∧ l1 < (h a0 1) then (1 : Int) else 0) h) :
    CI 0 mX3_hasPosition [vr a0, vi l1] h Q := by
  refine CI_of_E fX3_hasPosition.1 rfl (Nat.le_of_ble_eq_true rfl) ?_
  show E 0 mX3_hasPosition 0 [(0, vr a0), (1, vi l1)] [] h (qi Q)
  obtain ⟨v1_0, hP⟩ := hP
  refine E_iload_n 1 1 dX3_hasPosition_0 rfl rfl ?_
  have hJ : E 0 mX3_hasPosition 17 [(0, vr a0), (1, vi l1)] [vi (if l1 ≥ 0 ∧ l1 < (h a0 1) then (1 : Int) else 0)] h (qi Q) := by
    exact E_retZ dX3_hasPosition_17 rfl (b01 _) hP
  refine E_if_lt 16 dX3_hasPosition_1 rfl (fun hc => ?_) (fun hc => ?_)
  · have hp1 := (hc : l1 < 0)
    refine E_iconst dX3_hasPosition_16 (rg_of rfl) ?_
    exact E_top (if_neg (by omega)).symm hJ
  · have hp1 := (by omega : l1 ≥ 0)
    refine E_iload_n 1 1 dX3_hasPosition_4 rfl rfl ?_
    refine E_aload_n 0 0 dX3_hasPosition_5 rfl rfl ?_
    refine E_gI 1 1 dX3_hasPosition_6 FX3_15 (icN0 (v1_0 (by omega))) rfl ?_
    refine E_icmp_ge 16 dX3_hasPosition_9 rfl (fun hc => ?_) (fun hc => ?_)
    · have hp9 := (hc : l1 ≥ (h a0 1))
      refine E_iconst dX3_hasPosition_16 (rg_of rfl) ?_
      exact E_top (if_neg (by omega)).symm hJ
    · have hp9 := (by omega : l1 < (h a0 1))
      refine E_iconst dX3_hasPosition_12 (rg_of rfl) ?_
      refine E_goto 17 dX3_hasPosition_13 rfl ?_
      exact E_top (if_pos (by omega)).symm hJ
theorem dX3_restart_0 : decode prog_5_method_4_code 0 = .ok (.aload_n 0, 1) := by decide +kernel
theorem dX3_restart_1 : decode prog_5_method_4_code 1 = .ok (.iload_n 1, 1) := by decide +kernel
theorem dX3_restart_2 : decode prog_5_method_4_code 2 = .ok (.putfield 9, 3) := by decide +kernel
theorem dX3_restart_5 : decode prog_5_method_4_code 5 = .ok (.aload_n 0, 1) := by decide +kernel
theorem dX3_restart_6 : decode prog_5_method_4_code 6 = .ok (.iconst 0, 1) := by decide +kernel
theorem dX3_restart_7 : decode prog_5_method_4_code 7 = .ok (.putfield 15, 3) := by decide +kernel
theorem dX3_restart_10 : decode prog_5_method_4_code 10 = .ok (.return_, 1) := by decide +kernel
theorem sX3_restart {Q : Hp → Prop} {h : Hp} {a0 l1 : Int}
    (hP : (nA a0) ∧
    Q (up (up h a0 0 l1) a0 1 0)) :
    CV 0 mX3_restart [vr a0, vi l1] h Q := by
  refine CV_of_E fX3_restart.1 rfl (Nat.le_of_ble_eq_true rfl) ?_
  show E 0 mX3_restart 0 [(0, vr a0), (1, vi l1)] [] h (qv Q)
  obtain ⟨v1_0, hP⟩ := hP
  refine E_aload_n 0 0 dX3_restart_0 rfl rfl ?_
  refine E_iload_n 1 1 dX3_restart_1 rfl rfl ?_
  refine E_pI 0 0 dX3_restart_2 PX3_9 (icN0 v1_0) rfl ?_
  refine E_aload_n 0 0 dX3_restart_5 rfl rfl ?_
  refine E_iconst dX3_restart_6 (rg_of rfl) ?_
  refine E_pI 1 1 dX3_restart_7 PX3_15 (icN0 v1_0) rfl ?_
  exact E_retV dX3_restart_10 rfl hP
theorem dX3_codeAt_0 : decode prog_5_method_6_code 0 = .ok (.aload_n 0, 1) := by decide +kernel
theorem dX3_codeAt_1 : decode prog_5_method_6_code 1 = .ok (.iload_n 1, 1) := by decide +kernel
theorem dX3_codeAt_2 : decode prog_5_method_6_code 2 = .ok (.invokevirtual 34, 3) := by decide +kernel
theorem dX3_codeAt_5 : decode prog_5_method_6_code 5 = .ok (.ifCond .eq 22, 3) := by decide +kernel
theorem dX3_codeAt_8 : decode prog_5_method_6_code 8 = .ok (.bipush 10, 2) := by decide +kernel
theorem dX3_codeAt_10 : decode prog_5_method_6_code 10 = .ok (.aload_n 0, 1) := by decide +kernel
theorem dX3_codeAt_11 : decode prog_5_method_6_code 11 = .ok (.getfield 18, 3) := by decide +kernel
theorem dX3_codeAt_14 : decode prog_5_method_6_code 14 = .ok (.iload_n 1, 1) := by decide +kernel
theorem dX3_codeAt_15 : decode prog_5_method_6_code 15 = .ok (.iaload, 1) := by decide +kernel
theorem dX3_codeAt_16 : decode prog_5_method_6_code 16 = .ok (.imul, 1) := by decide +kernel
theorem dX3_codeAt_17 : decode prog_5_method_6_code 17 = .ok (.aload_n 0, 1) := by decide +kernel
theorem dX3_codeAt_18 : decode prog_5_method_6_code 18 = .ok (.getfield 22, 3) := by decide +kernel
theorem dX3_codeAt_21 : decode prog_5_method_6_code 21 = .ok (.iload_n 1, 1) := by decide +kernel
theorem dX3_codeAt_22 : decode prog_5_method_6_code 22 = .ok (.iaload, 1) := by decide +kernel
theorem dX3_codeAt_23 : decode prog_5_method_6_code 23 = .ok (.iadd, 1) := by decide +kernel
theorem dX3_codeAt_24 : decode prog_5_method_6_code 24 = .ok (.goto 4, 3) := by decide +kernel
theorem dX3_codeAt_27 : decode prog_5_method_6_code 27 = .ok (.iconst (-1), 1) := by decide +kernel
theorem dX3_codeAt_28 : decode prog_5_method_6_code 28 = .ok (.ireturn, 1) := by decide +kernel
theorem sX3_codeAt {Q : Int → Hp → Prop} {h : Hp} {a0 l1 : Int}
    (hP : (nA a0 ∧ ((l1 ≥ 0) → (nA a0)) ∧ ((l1 ≥ 0 ∧ l1 < (h a0 1)) → (ix l1 40)) ∧ ((l1 ≥ 0 ∧ l1 < (h a0 1)) → (rj (10 * (h (a0 + 1) l1)))) ∧ ((l1 ≥ 0 ∧ l1 < (h a0 1)) → (rj ((10 * (h (a0 + 1) l1)) + (h (a0 + 2) l1))))) ∧
    Q (if l1 < 0 ∨ l1 ≥ (h a0 1) then (-1) else ((10 * (h (a0 + 1) l1)) + (h (a0 + 2) l1))) h) :
    CI 1 mX3_codeAt [vr a0, vi l1] h Q := by
  refine CI_of_E fX3_codeAt.1 rfl (Nat.le_of_ble_eq_true rfl) ?_
  show E 1 mX3_codeAt 0 [(0, vr a0), (1, vi l1)] [] h (qi Q)
  obtain ⟨⟨v1_0, v1_1, v1_2, v1_3, v1_4⟩, hP⟩ := hP
  refine E_aload_n 0 0 dX3_codeAt_0 rfl rfl ?_
  refine E_iload_n 1 1 dX3_codeAt_1 rfl rfl ?_
  refine E_invVI [vi l1] dX3_codeAt_2 fX3_hasPosition lX3_34 (icN0 v1_0) rfl (by decide) rfl rfl (Nat.le_of_ble_eq_true rfl) (sX3_hasPosition (h := h) (a0 := a0) (l1 := l1) ⟨v1_1, ?_⟩)
  have hJ : E 1 mX3_codeAt 28 [(0, vr a0), (1, vi l1)] [vi (if l1 < 0 ∨ l1 ≥ (h a0 1) then (-1) else ((10 * (h (a0 + 1) l1)) + (h (a0 + 2) l1)))] h (qi Q) := by
    exact E_retI dX3_codeAt_28 rfl hP
  refine E_if_eq 27 dX3_codeAt_5 rfl (fun hc => ?_) (fun hc => ?_)
  · have hp5 := (by have := ite0 hc; omega : l1 < 0 ∨ l1 ≥ (h a0 1))
    refine E_iconst dX3_codeAt_27 (rg_of rfl) ?_
    exact E_top (by first | exact (if_pos (by omega)).symm | exact (if_neg (by omega)).symm | (repeat first | rw [if_pos (by omega)] | rw [if_neg (by omega)])) hJ
  · have hp5 := (by have := ite1 hc; omega : l1 ≥ 0 ∧ l1 < (h a0 1))
    refine E_bipush dX3_codeAt_8 (by decide) ?_
    refine E_aload_n 0 0 dX3_codeAt_10 rfl rfl ?_
    refine E_gR (a0 + 1) 2 dX3_codeAt_11 FX3_18 (icN0 v1_0) (rfN2 v1_0) ?_
    refine E_iload_n 1 1 dX3_codeAt_14 rfl rfl ?_
    refine E_iaload dX3_codeAt_15 (icN1 v1_0) (v1_2 (by omega)).1 (v1_2 (by omega)).2 ?_
    refine E_imul dX3_codeAt_16 (rgI (v1_3 (by omega))) ?_
    refine E_aload_n 0 0 dX3_codeAt_17 rfl rfl ?_
    refine E_gR (a0 + 2) 3 dX3_codeAt_18 FX3_22 (icN0 v1_0) (rfN3 v1_0) ?_
    refine E_iload_n 1 1 dX3_codeAt_21 rfl rfl ?_
    refine E_iaload dX3_codeAt_22 (icN2 v1_0) (v1_2 (by omega)).1 (v1_2 (by omega)).2 ?_
    refine E_iadd dX3_codeAt_23 (rgI (v1_4 (by omega))) ?_
    refine E_goto 28 dX3_codeAt_24 rfl ?_
    exact E_top (by first | exact (if_pos (by omega)).symm | exact (if_neg (by omega)).symm | (repeat first | rw [if_pos (by omega)] | rw [if_neg (by omega)])) hJ
theorem dX3_refusal_0 : decode prog_5_method_7_code 0 = .ok (.aload_n 0, 1) := by decide +kernel
theorem dX3_refusal_1 : decode prog_5_method_7_code 1 = .ok (.iload_n 1, 1) := by decide +kernel
theorem dX3_refusal_2 : decode prog_5_method_7_code 2 = .ok (.invokevirtual 38, 3) := by decide +kernel
theorem dX3_refusal_5 : decode prog_5_method_7_code 5 = .ok (.ifCond .eq 11, 3) := by decide +kernel
theorem dX3_refusal_8 : decode prog_5_method_7_code 8 = .ok (.aload_n 0, 1) := by decide +kernel
theorem dX3_refusal_9 : decode prog_5_method_7_code 9 = .ok (.iload_n 2, 1) := by decide +kernel
theorem dX3_refusal_10 : decode prog_5_method_7_code 10 = .ok (.invokevirtual 38, 3) := by decide +kernel
theorem dX3_refusal_13 : decode prog_5_method_7_code 13 = .ok (.ifCond .ne 5, 3) := by decide +kernel
theorem dX3_refusal_16 : decode prog_5_method_7_code 16 = .ok (.iconst (-1), 1) := by decide +kernel
theorem dX3_refusal_17 : decode prog_5_method_7_code 17 = .ok (.ireturn, 1) := by decide +kernel
theorem dX3_refusal_18 : decode prog_5_method_7_code 18 = .ok (.iload_n 1, 1) := by decide +kernel
theorem dX3_refusal_19 : decode prog_5_method_7_code 19 = .ok (.iload_n 2, 1) := by decide +kernel
theorem dX3_refusal_20 : decode prog_5_method_7_code 20 = .ok (.if_icmp .ne 6, 3) := by decide +kernel
theorem dX3_refusal_23 : decode prog_5_method_7_code 23 = .ok (.bipush (-2), 2) := by decide +kernel
theorem dX3_refusal_25 : decode prog_5_method_7_code 25 = .ok (.ireturn, 1) := by decide +kernel
theorem dX3_refusal_26 : decode prog_5_method_7_code 26 = .ok (.aload_n 0, 1) := by decide +kernel
theorem dX3_refusal_27 : decode prog_5_method_7_code 27 = .ok (.getfield 15, 3) := by decide +kernel
theorem dX3_refusal_30 : decode prog_5_method_7_code 30 = .ok (.bipush 40, 2) := by decide +kernel
theorem dX3_refusal_32 : decode prog_5_method_7_code 32 = .ok (.if_icmp .lt 8, 3) := by decide +kernel
theorem dX3_refusal_35 : decode prog_5_method_7_code 35 = .ok (.bipush (-3), 2) := by decide +kernel
theorem dX3_refusal_37 : decode prog_5_method_7_code 37 = .ok (.goto 4, 3) := by decide +kernel
theorem dX3_refusal_40 : decode prog_5_method_7_code 40 = .ok (.iconst 0, 1) := by decide +kernel
theorem dX3_refusal_41 : decode prog_5_method_7_code 41 = .ok (.ireturn, 1) := by decide +kernel
theorem sX3_refusal {Q : Int → Hp → Prop} {h : Hp} {a0 l1 l2 : Int}
    (hP : (nA a0 ∧ ((l1 ≥ 0) → (nA a0))) ∧
    ((l1 < 0 ∨ l1 ≥ (h a0 0)) →
     Q (-1) h) ∧
    ((l1 ≥ 0 ∧ l1 < (h a0 0)) →
     (nA a0 ∧ ((l2 ≥ 0) → (nA a0))) ∧
     ((l2 ≥ 0 ∧ l2 < (h a0 0)) →
      ((l1 ≠ l2) →
       (nA a0) ∧
       Q (if (h a0 1) < 40 then 0 else (-3)) h) ∧
      ((l1 = l2) →
       Q (-2) h)) ∧
     ((l2 < 0 ∨ l2 ≥ (h a0 0)) →
      Q (-1) h))) :
    CI 1 mX3_refusal [vr a0, vi l1, vi l2] h Q := by
  refine CI_of_E fX3_refusal.1 rfl (Nat.le_of_ble_eq_true rfl) ?_
  show E 1 mX3_refusal 0 [(0, vr a0), (1, vi l1), (2, vi l2)] [] h (qi Q)
  obtain ⟨⟨v1_0, v1_1⟩, hP⟩ := hP
  refine E_aload_n 0 0 dX3_refusal_0 rfl rfl ?_
  refine E_iload_n 1 1 dX3_refusal_1 rfl rfl ?_
  refine E_invVI [vi l1] dX3_refusal_2 fX3_hasWire lX3_38 (icN0 v1_0) rfl (by decide) rfl rfl (Nat.le_of_ble_eq_true rfl) (sX3_hasWire (h := h) (a0 := a0) (l1 := l1) ⟨v1_1, ?_⟩)
  refine E_if_eq 16 dX3_refusal_5 rfl (fun hc => ?_) (fun hc => ?_)
  · replace hP := hP.1 (by have := ite0 hc; omega)
    refine E_iconst dX3_refusal_16 (rg_of rfl) ?_
    exact E_retI dX3_refusal_17 rfl hP
  · replace hP := hP.2 (by have := ite1 hc; omega)
    obtain ⟨⟨v3_0, v3_1⟩, hP⟩ := hP
    refine E_aload_n 0 0 dX3_refusal_8 rfl rfl ?_
    refine E_iload_n 2 2 dX3_refusal_9 rfl rfl ?_
    refine E_invVI [vi l2] dX3_refusal_10 fX3_hasWire lX3_38 (icN0 v3_0) rfl (by decide) rfl rfl (Nat.le_of_ble_eq_true rfl) (sX3_hasWire (h := h) (a0 := a0) (l1 := l2) ⟨v3_1, ?_⟩)
    refine E_if_ne 18 dX3_refusal_13 rfl (fun hc => ?_) (fun hc => ?_)
    · replace hP := hP.1 (by have := ite1' hc; omega)
      refine E_iload_n 1 1 dX3_refusal_18 rfl rfl ?_
      refine E_iload_n 2 2 dX3_refusal_19 rfl rfl ?_
      refine E_icmp_ne 26 dX3_refusal_20 rfl (fun hc => ?_) (fun hc => ?_)
      · replace hP := hP.1 (hc)
        obtain ⟨v5_0, hP⟩ := hP
        refine E_aload_n 0 0 dX3_refusal_26 rfl rfl ?_
        refine E_gI 1 1 dX3_refusal_27 FX3_15 (icN0 v5_0) rfl ?_
        refine E_bipush dX3_refusal_30 (by decide) ?_
        have hJ : E 1 mX3_refusal 41 [(0, vr a0), (1, vi l1), (2, vi l2)] [vi (if (h a0 1) < 40 then 0 else (-3))] h (qi Q) := by
          exact E_retI dX3_refusal_41 rfl hP
        refine E_icmp_lt 40 dX3_refusal_32 rfl (fun hc => ?_) (fun hc => ?_)
        · have hp32 := (hc : (h a0 1) < 40)
          refine E_iconst dX3_refusal_40 (rg_of rfl) ?_
          exact E_top (by first | exact (if_pos (by omega)).symm | exact (if_neg (by omega)).symm | (repeat first | rw [if_pos (by omega)] | rw [if_neg (by omega)])) hJ
        · have hp32 := (by omega : (h a0 1) ≥ 40)
          refine E_bipush dX3_refusal_35 (by decide) ?_
          refine E_goto 41 dX3_refusal_37 rfl ?_
          exact E_top (by first | exact (if_pos (by omega)).symm | exact (if_neg (by omega)).symm | (repeat first | rw [if_pos (by omega)] | rw [if_neg (by omega)])) hJ
      · replace hP := hP.2 (by omega)
        refine E_bipush dX3_refusal_23 (by decide) ?_
        exact E_retI dX3_refusal_25 rfl hP
    · replace hP := hP.2 (by have := ite0 hc; omega)
      refine E_iconst dX3_refusal_16 (rg_of rfl) ?_
      exact E_retI dX3_refusal_17 rfl hP
theorem dX3_push_0 : decode prog_5_method_8_code 0 = .ok (.aload_n 0, 1) := by decide +kernel
theorem dX3_push_1 : decode prog_5_method_8_code 1 = .ok (.iload_n 1, 1) := by decide +kernel
theorem dX3_push_2 : decode prog_5_method_8_code 2 = .ok (.iload_n 2, 1) := by decide +kernel
theorem dX3_push_3 : decode prog_5_method_8_code 3 = .ok (.invokevirtual 41, 3) := by decide +kernel
theorem dX3_push_6 : decode prog_5_method_8_code 6 = .ok (.ifCond .eq 4, 3) := by decide +kernel
theorem dX3_push_9 : decode prog_5_method_8_code 9 = .ok (.return_, 1) := by decide +kernel
theorem dX3_push_10 : decode prog_5_method_8_code 10 = .ok (.aload_n 0, 1) := by decide +kernel
theorem dX3_push_11 : decode prog_5_method_8_code 11 = .ok (.getfield 18, 3) := by decide +kernel
theorem dX3_push_14 : decode prog_5_method_8_code 14 = .ok (.aload_n 0, 1) := by decide +kernel
theorem dX3_push_15 : decode prog_5_method_8_code 15 = .ok (.getfield 15, 3) := by decide +kernel
theorem dX3_push_18 : decode prog_5_method_8_code 18 = .ok (.iload_n 1, 1) := by decide +kernel
theorem dX3_push_19 : decode prog_5_method_8_code 19 = .ok (.iastore, 1) := by decide +kernel
theorem dX3_push_20 : decode prog_5_method_8_code 20 = .ok (.aload_n 0, 1) := by decide +kernel
theorem dX3_push_21 : decode prog_5_method_8_code 21 = .ok (.getfield 22, 3) := by decide +kernel
theorem dX3_push_24 : decode prog_5_method_8_code 24 = .ok (.aload_n 0, 1) := by decide +kernel
theorem dX3_push_25 : decode prog_5_method_8_code 25 = .ok (.getfield 15, 3) := by decide +kernel
theorem dX3_push_28 : decode prog_5_method_8_code 28 = .ok (.iload_n 2, 1) := by decide +kernel
theorem dX3_push_29 : decode prog_5_method_8_code 29 = .ok (.iastore, 1) := by decide +kernel
theorem dX3_push_30 : decode prog_5_method_8_code 30 = .ok (.aload_n 0, 1) := by decide +kernel
theorem dX3_push_31 : decode prog_5_method_8_code 31 = .ok (.dup, 1) := by decide +kernel
theorem dX3_push_32 : decode prog_5_method_8_code 32 = .ok (.getfield 15, 3) := by decide +kernel
theorem dX3_push_35 : decode prog_5_method_8_code 35 = .ok (.iconst 1, 1) := by decide +kernel
theorem dX3_push_36 : decode prog_5_method_8_code 36 = .ok (.iadd, 1) := by decide +kernel
theorem dX3_push_37 : decode prog_5_method_8_code 37 = .ok (.putfield 15, 3) := by decide +kernel
theorem dX3_push_40 : decode prog_5_method_8_code 40 = .ok (.return_, 1) := by decide +kernel
theorem sX3_push {Q : Hp → Prop} {h : Hp} {a0 l1 l2 : Int}
    (hP : (nA a0) ∧
    CI 1 mX3_refusal [vr a0, vi l1, vi l2] h (fun r3 h2 =>
     ((r3 = 0) →
      (nA a0 ∧ ix (h2 a0 1) 40 ∧ ix ((up h2 (a0 + 1) (h2 a0 1) l1) a0 1) 40 ∧ rj (((up (up h2 (a0 + 1) (h2 a0 1) l1) (a0 + 2) ((up h2 (a0 + 1) (h2 a0 1) l1) a0 1) l2) a0 1) + 1)) ∧
      Q (up (up (up h2 (a0 + 1) (h2 a0 1) l1) (a0 + 2) ((up h2 (a0 + 1) (h2 a0 1) l1) a0 1) l2) a0 1 (((up (up h2 (a0 + 1) (h2 a0 1) l1) (a0 + 2) ((up h2 (a0 + 1) (h2 a0 1) l1) a0 1) l2) a0 1) + 1))) ∧
     ((r3 ≠ 0) →
      Q h2))) :
    CV 2 mX3_push [vr a0, vi l1, vi l2] h Q := by
  refine CV_of_E fX3_push.1 rfl (Nat.le_of_ble_eq_true rfl) ?_
  show E 2 mX3_push 0 [(0, vr a0), (1, vi l1), (2, vi l2)] [] h (qv Q)
  obtain ⟨v1_0, hP⟩ := hP
  refine E_aload_n 0 0 dX3_push_0 rfl rfl ?_
  refine E_iload_n 1 1 dX3_push_1 rfl rfl ?_
  refine E_iload_n 2 2 dX3_push_2 rfl rfl ?_
  refine E_invVI [vi l1, vi l2] dX3_push_3 fX3_refusal lX3_41 (icN0 v1_0) rfl (by decide) rfl rfl (Nat.le_of_ble_eq_true rfl) (CI_mono hP (fun r3 h2 hP => ?_))
  refine E_if_eq 10 dX3_push_6 rfl (fun hc => ?_) (fun hc => ?_)
  · replace hP := hP.1 (hc)
    obtain ⟨⟨v5_0, v5_1, v5_2, v5_3⟩, hP⟩ := hP
    refine E_aload_n 0 0 dX3_push_10 rfl rfl ?_
    refine E_gR (a0 + 1) 2 dX3_push_11 FX3_18 (icN0 v5_0) (rfN2 v5_0) ?_
    refine E_aload_n 0 0 dX3_push_14 rfl rfl ?_
    refine E_gI 1 1 dX3_push_15 FX3_15 (icN0 v5_0) rfl ?_
    refine E_iload_n 1 1 dX3_push_18 rfl rfl ?_
    refine E_iastore dX3_push_19 (icN1 v5_0) v5_1.1 v5_1.2 ?_
    refine E_aload_n 0 0 dX3_push_20 rfl rfl ?_
    refine E_gR (a0 + 2) 3 dX3_push_21 FX3_22 (icN0 v5_0) (rfN3 v5_0) ?_
    refine E_aload_n 0 0 dX3_push_24 rfl rfl ?_
    refine E_gI 1 1 dX3_push_25 FX3_15 (icN0 v5_0) rfl ?_
    refine E_iload_n 2 2 dX3_push_28 rfl rfl ?_
    refine E_iastore dX3_push_29 (icN2 v5_0) v5_2.1 v5_2.2 ?_
    refine E_aload_n 0 0 dX3_push_30 rfl rfl ?_
    refine E_dup dX3_push_31 rfl ?_
    refine E_gI 1 1 dX3_push_32 FX3_15 (icN0 v5_0) rfl ?_
    refine E_iconst dX3_push_35 (rg_of rfl) ?_
    refine E_iadd dX3_push_36 (rgI v5_3) ?_
    refine E_pI 1 1 dX3_push_37 PX3_15 (icN0 v5_0) rfl ?_
    exact E_retV dX3_push_40 rfl hP
  · replace hP := hP.2 (by omega)
    exact E_retV dX3_push_9 rfl hP
theorem dX3_pushAt_0 : decode prog_5_method_9_code 0 = .ok (.iload_n 1, 1) := by decide +kernel
theorem dX3_pushAt_1 : decode prog_5_method_9_code 1 = .ok (.ifCond .lt 20, 3) := by decide +kernel
theorem dX3_pushAt_4 : decode prog_5_method_9_code 4 = .ok (.iload_n 1, 1) := by decide +kernel
theorem dX3_pushAt_5 : decode prog_5_method_9_code 5 = .ok (.aload_n 0, 1) := by decide +kernel
theorem dX3_pushAt_6 : decode prog_5_method_9_code 6 = .ok (.getfield 15, 3) := by decide +kernel
theorem dX3_pushAt_9 : decode prog_5_method_9_code 9 = .ok (.if_icmp .gt 12, 3) := by decide +kernel
theorem dX3_pushAt_12 : decode prog_5_method_9_code 12 = .ok (.aload_n 0, 1) := by decide +kernel
theorem dX3_pushAt_13 : decode prog_5_method_9_code 13 = .ok (.iload_n 2, 1) := by decide +kernel
theorem dX3_pushAt_14 : decode prog_5_method_9_code 14 = .ok (.iload_n 3, 1) := by decide +kernel
theorem dX3_pushAt_15 : decode prog_5_method_9_code 15 = .ok (.invokevirtual 41, 3) := by decide +kernel
theorem dX3_pushAt_18 : decode prog_5_method_9_code 18 = .ok (.ifCond .eq 4, 3) := by decide +kernel
theorem dX3_pushAt_21 : decode prog_5_method_9_code 21 = .ok (.return_, 1) := by decide +kernel
theorem dX3_pushAt_22 : decode prog_5_method_9_code 22 = .ok (.aload_n 0, 1) := by decide +kernel
theorem dX3_pushAt_23 : decode prog_5_method_9_code 23 = .ok (.getfield 15, 3) := by decide +kernel
theorem dX3_pushAt_26 : decode prog_5_method_9_code 26 = .ok (.istore 4, 2) := by decide +kernel
theorem dX3_pushAt_28 : decode prog_5_method_9_code 28 = .ok (.iload 4, 2) := by decide +kernel
theorem dX3_pushAt_30 : decode prog_5_method_9_code 30 = .ok (.iload_n 1, 1) := by decide +kernel
theorem dX3_pushAt_31 : decode prog_5_method_9_code 31 = .ok (.if_icmp .le 41, 3) := by decide +kernel
theorem dX3_pushAt_34 : decode prog_5_method_9_code 34 = .ok (.aload_n 0, 1) := by decide +kernel
theorem dX3_pushAt_35 : decode prog_5_method_9_code 35 = .ok (.getfield 18, 3) := by decide +kernel
theorem dX3_pushAt_38 : decode prog_5_method_9_code 38 = .ok (.iload 4, 2) := by decide +kernel
theorem dX3_pushAt_40 : decode prog_5_method_9_code 40 = .ok (.aload_n 0, 1) := by decide +kernel
theorem dX3_pushAt_41 : decode prog_5_method_9_code 41 = .ok (.getfield 18, 3) := by decide +kernel
theorem dX3_pushAt_44 : decode prog_5_method_9_code 44 = .ok (.iload 4, 2) := by decide +kernel
theorem dX3_pushAt_46 : decode prog_5_method_9_code 46 = .ok (.iconst 1, 1) := by decide +kernel
theorem dX3_pushAt_47 : decode prog_5_method_9_code 47 = .ok (.isub, 1) := by decide +kernel
theorem dX3_pushAt_48 : decode prog_5_method_9_code 48 = .ok (.iaload, 1) := by decide +kernel
theorem dX3_pushAt_49 : decode prog_5_method_9_code 49 = .ok (.iastore, 1) := by decide +kernel
theorem dX3_pushAt_50 : decode prog_5_method_9_code 50 = .ok (.aload_n 0, 1) := by decide +kernel
theorem dX3_pushAt_51 : decode prog_5_method_9_code 51 = .ok (.getfield 22, 3) := by decide +kernel
theorem dX3_pushAt_54 : decode prog_5_method_9_code 54 = .ok (.iload 4, 2) := by decide +kernel
theorem dX3_pushAt_56 : decode prog_5_method_9_code 56 = .ok (.aload_n 0, 1) := by decide +kernel
theorem dX3_pushAt_57 : decode prog_5_method_9_code 57 = .ok (.getfield 22, 3) := by decide +kernel
theorem dX3_pushAt_60 : decode prog_5_method_9_code 60 = .ok (.iload 4, 2) := by decide +kernel
theorem dX3_pushAt_62 : decode prog_5_method_9_code 62 = .ok (.iconst 1, 1) := by decide +kernel
theorem dX3_pushAt_63 : decode prog_5_method_9_code 63 = .ok (.isub, 1) := by decide +kernel
theorem dX3_pushAt_64 : decode prog_5_method_9_code 64 = .ok (.iaload, 1) := by decide +kernel
theorem dX3_pushAt_65 : decode prog_5_method_9_code 65 = .ok (.iastore, 1) := by decide +kernel
theorem dX3_pushAt_66 : decode prog_5_method_9_code 66 = .ok (.iinc 4 (-1), 3) := by decide +kernel
theorem dX3_pushAt_69 : decode prog_5_method_9_code 69 = .ok (.goto (-41), 3) := by decide +kernel
theorem dX3_pushAt_72 : decode prog_5_method_9_code 72 = .ok (.aload_n 0, 1) := by decide +kernel
theorem dX3_pushAt_73 : decode prog_5_method_9_code 73 = .ok (.getfield 18, 3) := by decide +kernel
theorem dX3_pushAt_76 : decode prog_5_method_9_code 76 = .ok (.iload_n 1, 1) := by decide +kernel
theorem dX3_pushAt_77 : decode prog_5_method_9_code 77 = .ok (.iload_n 2, 1) := by decide +kernel
theorem dX3_pushAt_78 : decode prog_5_method_9_code 78 = .ok (.iastore, 1) := by decide +kernel
theorem dX3_pushAt_79 : decode prog_5_method_9_code 79 = .ok (.aload_n 0, 1) := by decide +kernel
theorem dX3_pushAt_80 : decode prog_5_method_9_code 80 = .ok (.getfield 22, 3) := by decide +kernel
theorem dX3_pushAt_83 : decode prog_5_method_9_code 83 = .ok (.iload_n 1, 1) := by decide +kernel
theorem dX3_pushAt_84 : decode prog_5_method_9_code 84 = .ok (.iload_n 3, 1) := by decide +kernel
theorem dX3_pushAt_85 : decode prog_5_method_9_code 85 = .ok (.iastore, 1) := by decide +kernel
theorem dX3_pushAt_86 : decode prog_5_method_9_code 86 = .ok (.aload_n 0, 1) := by decide +kernel
theorem dX3_pushAt_87 : decode prog_5_method_9_code 87 = .ok (.dup, 1) := by decide +kernel
theorem dX3_pushAt_88 : decode prog_5_method_9_code 88 = .ok (.getfield 15, 3) := by decide +kernel
theorem dX3_pushAt_91 : decode prog_5_method_9_code 91 = .ok (.iconst 1, 1) := by decide +kernel
theorem dX3_pushAt_92 : decode prog_5_method_9_code 92 = .ok (.iadd, 1) := by decide +kernel
theorem dX3_pushAt_93 : decode prog_5_method_9_code 93 = .ok (.putfield 15, 3) := by decide +kernel
theorem dX3_pushAt_96 : decode prog_5_method_9_code 96 = .ok (.return_, 1) := by decide +kernel
theorem sX3_pushAt_72 {Q : Hp → Prop} {h : Hp} {a0 l1 l2 l3 : Int}
    (hP : (nA a0 ∧ ix l1 40 ∧ rj (((up (up h (a0 + 1) l1 l2) (a0 + 2) l1 l3) a0 1) + 1)) ∧
    Q (up (up (up h (a0 + 1) l1 l2) (a0 + 2) l1 l3) a0 1 (((up (up h (a0 + 1) l1 l2) (a0 + 2) l1 l3) a0 1) + 1))) :
    E 2 mX3_pushAt 72 [(0, vr a0), (1, vi l1), (2, vi l2), (3, vi l3)] [] h (qv Q) := by
  obtain ⟨⟨v1_0, v1_1, v1_2⟩, hP⟩ := hP
  refine E_aload_n 0 0 dX3_pushAt_72 rfl rfl ?_
  refine E_gR (a0 + 1) 2 dX3_pushAt_73 FX3_18 (icN0 v1_0) (rfN2 v1_0) ?_
  refine E_iload_n 1 1 dX3_pushAt_76 rfl rfl ?_
  refine E_iload_n 2 2 dX3_pushAt_77 rfl rfl ?_
  refine E_iastore dX3_pushAt_78 (icN1 v1_0) v1_1.1 v1_1.2 ?_
  refine E_aload_n 0 0 dX3_pushAt_79 rfl rfl ?_
  refine E_gR (a0 + 2) 3 dX3_pushAt_80 FX3_22 (icN0 v1_0) (rfN3 v1_0) ?_
  refine E_iload_n 1 1 dX3_pushAt_83 rfl rfl ?_
  refine E_iload_n 3 3 dX3_pushAt_84 rfl rfl ?_
  refine E_iastore dX3_pushAt_85 (icN2 v1_0) v1_1.1 v1_1.2 ?_
  refine E_aload_n 0 0 dX3_pushAt_86 rfl rfl ?_
  refine E_dup dX3_pushAt_87 rfl ?_
  refine E_gI 1 1 dX3_pushAt_88 FX3_15 (icN0 v1_0) rfl ?_
  refine E_iconst dX3_pushAt_91 (rg_of rfl) ?_
  refine E_iadd dX3_pushAt_92 (rgI v1_2) ?_
  refine E_pI 1 1 dX3_pushAt_93 PX3_15 (icN0 v1_0) rfl ?_
  exact E_retV dX3_pushAt_96 rfl hP
theorem sX3_pushAt_28 {Q : Hp → Prop} {h : Hp} {a0 l1 l2 l3 l4 : Int}
    (hP : ((l4 ≤ l1) →
     E 2 mX3_pushAt 72 [(0, vr a0), (1, vi l1), (2, vi l2), (3, vi l3)] [] h (qv Q)) ∧
    ((l4 > l1) →
     (nA a0 ∧ rj (l4 - 1) ∧ ix (l4 - 1) 40 ∧ ix l4 40 ∧ rj (l4 + (-1))) ∧
     E 2 mX3_pushAt 28 [(0, vr a0), (1, vi l1), (2, vi l2), (3, vi l3), (4, vi (l4 + (-1)))] [] (up (up h (a0 + 1) l4 (h (a0 + 1) (l4 - 1))) (a0 + 2) l4 ((up h (a0 + 1) l4 (h (a0 + 1) (l4 - 1))) (a0 + 2) (l4 - 1))) (qv Q))) :
    E 2 mX3_pushAt 28 [(0, vr a0), (1, vi l1), (2, vi l2), (3, vi l3), (4, vi l4)] [] h (qv Q) := by
  refine E_iload 4 dX3_pushAt_28 rfl ?_
  refine E_iload_n 1 1 dX3_pushAt_30 rfl rfl ?_
  refine E_icmp_le 72 dX3_pushAt_31 rfl (fun hc => ?_) (fun hc => ?_)
  · replace hP := hP.1 (hc)
    exact E_sub [0, 1, 2, 3] rfl hP
  · replace hP := hP.2 (by omega)
    obtain ⟨⟨v3_0, v3_1, v3_2, v3_3, v3_4⟩, hP⟩ := hP
    refine E_aload_n 0 0 dX3_pushAt_34 rfl rfl ?_
    refine E_gR (a0 + 1) 2 dX3_pushAt_35 FX3_18 (icN0 v3_0) (rfN2 v3_0) ?_
    refine E_iload 4 dX3_pushAt_38 rfl ?_
    refine E_aload_n 0 0 dX3_pushAt_40 rfl rfl ?_
    refine E_gR (a0 + 1) 2 dX3_pushAt_41 FX3_18 (icN0 v3_0) (rfN2 v3_0) ?_
    refine E_iload 4 dX3_pushAt_44 rfl ?_
    refine E_iconst dX3_pushAt_46 (rg_of rfl) ?_
    refine E_isub dX3_pushAt_47 (rgI v3_1) ?_
    refine E_iaload dX3_pushAt_48 (icN1 v3_0) v3_2.1 v3_2.2 ?_
    refine E_iastore dX3_pushAt_49 (icN1 v3_0) v3_3.1 v3_3.2 ?_
    refine E_aload_n 0 0 dX3_pushAt_50 rfl rfl ?_
    refine E_gR (a0 + 2) 3 dX3_pushAt_51 FX3_22 (icN0 v3_0) (rfN3 v3_0) ?_
    refine E_iload 4 dX3_pushAt_54 rfl ?_
    refine E_aload_n 0 0 dX3_pushAt_56 rfl rfl ?_
    refine E_gR (a0 + 2) 3 dX3_pushAt_57 FX3_22 (icN0 v3_0) (rfN3 v3_0) ?_
    refine E_iload 4 dX3_pushAt_60 rfl ?_
    refine E_iconst dX3_pushAt_62 (rg_of rfl) ?_
    refine E_isub dX3_pushAt_63 (rgI v3_1) ?_
    refine E_iaload dX3_pushAt_64 (icN2 v3_0) v3_2.1 v3_2.2 ?_
    refine E_iastore dX3_pushAt_65 (icN2 v3_0) v3_3.1 v3_3.2 ?_
    refine E_iinc 4 dX3_pushAt_66 rfl (rgI v3_4) (by decide) rfl ?_
    refine E_goto 28 dX3_pushAt_69 rfl ?_
    exact E_sub [1, 2, 3, 4, 0] rfl hP
theorem sX3_pushAt {Q : Hp → Prop} {h : Hp} {a0 l1 l2 l3 : Int}
    (hP : ((l1 < 0) →
     Q h) ∧
    ((l1 ≥ 0) →
     (nA a0) ∧
     ((l1 > (h a0 1)) →
      Q h) ∧
     ((l1 ≤ (h a0 1)) →
      (nA a0) ∧
      CI 1 mX3_refusal [vr a0, vi l2, vi l3] h (fun r7 h6 =>
       ((r7 = 0) →
        (nA a0) ∧
        E 2 mX3_pushAt 28 [(0, vr a0), (1, vi l1), (2, vi l2), (3, vi l3), (4, vi (h6 a0 1))] [] h6 (qv Q)) ∧
       ((r7 ≠ 0) →
        Q h6))))) :
    CV 2 mX3_pushAt [vr a0, vi l1, vi l2, vi l3] h Q := by
  refine CV_of_E fX3_pushAt.1 rfl (Nat.le_of_ble_eq_true rfl) ?_
  show E 2 mX3_pushAt 0 [(0, vr a0), (1, vi l1), (2, vi l2), (3, vi l3)] [] h (qv Q)
  refine E_iload_n 1 1 dX3_pushAt_0 rfl rfl ?_
  refine E_if_lt 21 dX3_pushAt_1 rfl (fun hc => ?_) (fun hc => ?_)
  · replace hP := hP.1 (hc)
    exact E_retV dX3_pushAt_21 rfl hP
  · replace hP := hP.2 (by omega)
    obtain ⟨v3_0, hP⟩ := hP
    refine E_iload_n 1 1 dX3_pushAt_4 rfl rfl ?_
    refine E_aload_n 0 0 dX3_pushAt_5 rfl rfl ?_
    refine E_gI 1 1 dX3_pushAt_6 FX3_15 (icN0 v3_0) rfl ?_
    refine E_icmp_gt 21 dX3_pushAt_9 rfl (fun hc => ?_) (fun hc => ?_)
    · replace hP := hP.1 (hc)
      exact E_retV dX3_pushAt_21 rfl hP
    · replace hP := hP.2 (by omega)
      obtain ⟨v5_0, hP⟩ := hP
      refine E_aload_n 0 0 dX3_pushAt_12 rfl rfl ?_
      refine E_iload_n 2 2 dX3_pushAt_13 rfl rfl ?_
      refine E_iload_n 3 3 dX3_pushAt_14 rfl rfl ?_
      refine E_invVI [vi l2, vi l3] dX3_pushAt_15 fX3_refusal lX3_41 (icN0 v5_0) rfl (by decide) rfl rfl (Nat.le_of_ble_eq_true rfl) (CI_mono hP (fun r7 h6 hP => ?_))
      refine E_if_eq 22 dX3_pushAt_18 rfl (fun hc => ?_) (fun hc => ?_)
      · replace hP := hP.1 (hc)
        obtain ⟨v9_0, hP⟩ := hP
        refine E_aload_n 0 0 dX3_pushAt_22 rfl rfl ?_
        refine E_gI 1 1 dX3_pushAt_23 FX3_15 (icN0 v9_0) rfl ?_
        refine E_istore dX3_pushAt_26 (by decide) rfl ?_
        exact E_sub [1, 2, 3, 4, 0] rfl hP
      · replace hP := hP.2 (by omega)
        exact E_retV dX3_pushAt_21 rfl hP
theorem dX3_pushAll_0 : decode prog_5_method_10_code 0 = .ok (.aload_n 1, 1) := by decide +kernel
theorem dX3_pushAll_1 : decode prog_5_method_10_code 1 = .ok (.getfield 15, 3) := by decide +kernel
theorem dX3_pushAll_4 : decode prog_5_method_10_code 4 = .ok (.istore_n 3, 1) := by decide +kernel
theorem dX3_pushAll_5 : decode prog_5_method_10_code 5 = .ok (.iconst 0, 1) := by decide +kernel
theorem dX3_pushAll_6 : decode prog_5_method_10_code 6 = .ok (.istore 4, 2) := by decide +kernel
theorem dX3_pushAll_8 : decode prog_5_method_10_code 8 = .ok (.iload 4, 2) := by decide +kernel
theorem dX3_pushAll_10 : decode prog_5_method_10_code 10 = .ok (.iload_n 3, 1) := by decide +kernel
theorem dX3_pushAll_11 : decode prog_5_method_10_code 11 = .ok (.if_icmp .ge 31, 3) := by decide +kernel
theorem dX3_pushAll_14 : decode prog_5_method_10_code 14 = .ok (.aload_n 0, 1) := by decide +kernel
theorem dX3_pushAll_15 : decode prog_5_method_10_code 15 = .ok (.aload_n 1, 1) := by decide +kernel
theorem dX3_pushAll_16 : decode prog_5_method_10_code 16 = .ok (.getfield 18, 3) := by decide +kernel
theorem dX3_pushAll_19 : decode prog_5_method_10_code 19 = .ok (.iload 4, 2) := by decide +kernel
theorem dX3_pushAll_21 : decode prog_5_method_10_code 21 = .ok (.iaload, 1) := by decide +kernel
theorem dX3_pushAll_22 : decode prog_5_method_10_code 22 = .ok (.iload_n 2, 1) := by decide +kernel
theorem dX3_pushAll_23 : decode prog_5_method_10_code 23 = .ok (.iadd, 1) := by decide +kernel
theorem dX3_pushAll_24 : decode prog_5_method_10_code 24 = .ok (.aload_n 1, 1) := by decide +kernel
theorem dX3_pushAll_25 : decode prog_5_method_10_code 25 = .ok (.getfield 22, 3) := by decide +kernel
theorem dX3_pushAll_28 : decode prog_5_method_10_code 28 = .ok (.iload 4, 2) := by decide +kernel
theorem dX3_pushAll_30 : decode prog_5_method_10_code 30 = .ok (.iaload, 1) := by decide +kernel
theorem dX3_pushAll_31 : decode prog_5_method_10_code 31 = .ok (.iload_n 2, 1) := by decide +kernel
theorem dX3_pushAll_32 : decode prog_5_method_10_code 32 = .ok (.iadd, 1) := by decide +kernel
theorem dX3_pushAll_33 : decode prog_5_method_10_code 33 = .ok (.invokevirtual 45, 3) := by decide +kernel
theorem dX3_pushAll_36 : decode prog_5_method_10_code 36 = .ok (.iinc 4 1, 3) := by decide +kernel
theorem dX3_pushAll_39 : decode prog_5_method_10_code 39 = .ok (.goto (-31), 3) := by decide +kernel
theorem dX3_pushAll_42 : decode prog_5_method_10_code 42 = .ok (.return_, 1) := by decide +kernel
theorem sX3_pushAll_8 {Q : Hp → Prop} {h : Hp} {a0 a1 l2 l3 l4 : Int}
    (hP : ((l4 ≥ l3) →
     Q h) ∧
    ((l4 < l3) →
     (nA a1 ∧ ix l4 40 ∧ rj ((h (a1 + 1) l4) + l2) ∧ rj ((h (a1 + 2) l4) + l2) ∧ nA a0) ∧
     CV 2 mX3_push [vr a0, vi ((h (a1 + 1) l4) + l2), vi ((h (a1 + 2) l4) + l2)] h (fun h4 =>
      (rj (l4 + 1)) ∧
      E 3 mX3_pushAll 8 [(0, vr a0), (1, vr a1), (2, vi l2), (3, vi l3), (4, vi (l4 + 1))] [] h4 (qv Q)))) :
    E 3 mX3_pushAll 8 [(0, vr a0), (1, vr a1), (2, vi l2), (3, vi l3), (4, vi l4)] [] h (qv Q) := by
  refine E_iload 4 dX3_pushAll_8 rfl ?_
  refine E_iload_n 3 3 dX3_pushAll_10 rfl rfl ?_
  refine E_icmp_ge 42 dX3_pushAll_11 rfl (fun hc => ?_) (fun hc => ?_)
  · replace hP := hP.1 (hc)
    exact E_retV dX3_pushAll_42 rfl hP
  · replace hP := hP.2 (by omega)
    obtain ⟨⟨v3_0, v3_1, v3_2, v3_3, v3_4⟩, hP⟩ := hP
    refine E_aload_n 0 0 dX3_pushAll_14 rfl rfl ?_
    refine E_aload_n 1 1 dX3_pushAll_15 rfl rfl ?_
    refine E_gR (a1 + 1) 2 dX3_pushAll_16 FX3_18 (icN0 v3_0) (rfN2 v3_0) ?_
    refine E_iload 4 dX3_pushAll_19 rfl ?_
    refine E_iaload dX3_pushAll_21 (icN1 v3_0) v3_1.1 v3_1.2 ?_
    refine E_iload_n 2 2 dX3_pushAll_22 rfl rfl ?_
    refine E_iadd dX3_pushAll_23 (rgI v3_2) ?_
    refine E_aload_n 1 1 dX3_pushAll_24 rfl rfl ?_
    refine E_gR (a1 + 2) 3 dX3_pushAll_25 FX3_22 (icN0 v3_0) (rfN3 v3_0) ?_
    refine E_iload 4 dX3_pushAll_28 rfl ?_
    refine E_iaload dX3_pushAll_30 (icN2 v3_0) v3_1.1 v3_1.2 ?_
    refine E_iload_n 2 2 dX3_pushAll_31 rfl rfl ?_
    refine E_iadd dX3_pushAll_32 (rgI v3_3) ?_
    refine E_invVV [vi ((h (a1 + 1) l4) + l2), vi ((h (a1 + 2) l4) + l2)] dX3_pushAll_33 fX3_push lX3_45 (icN0 v3_4) rfl (by decide) rfl rfl (Nat.le_of_ble_eq_true rfl) (CV_mono hP (fun h4 hP => ?_))
    obtain ⟨v5_0, hP⟩ := hP
    refine E_iinc 4 dX3_pushAll_36 rfl (rgI v5_0) (by decide) rfl ?_
    refine E_goto 8 dX3_pushAll_39 rfl ?_
    exact E_sub [1, 2, 3, 4, 0] rfl hP
theorem sX3_pushAll {Q : Hp → Prop} {h : Hp} {a0 a1 l2 : Int}
    (hP : (nA a1) ∧
    E 3 mX3_pushAll 8 [(0, vr a0), (1, vr a1), (2, vi l2), (3, vi (h a1 1)), (4, vi 0)] [] h (qv Q)) :
    CV 3 mX3_pushAll [vr a0, vr a1, vi l2] h Q := by
  refine CV_of_E fX3_pushAll.1 rfl (Nat.le_of_ble_eq_true rfl) ?_
  show E 3 mX3_pushAll 0 [(0, vr a0), (1, vr a1), (2, vi l2)] [] h (qv Q)
  obtain ⟨v1_0, hP⟩ := hP
  refine E_aload_n 1 1 dX3_pushAll_0 rfl rfl ?_
  refine E_gI 1 1 dX3_pushAll_1 FX3_15 (icN0 v1_0) rfl ?_
  refine E_istore_n dX3_pushAll_4 rfl (by decide) rfl ?_
  refine E_iconst dX3_pushAll_5 (rg_of rfl) ?_
  refine E_istore dX3_pushAll_6 (by decide) rfl ?_
  exact E_sub [2, 3, 4, 1, 0] rfl hP
theorem dX3_pushNeighbours_0 : decode prog_5_method_11_code 0 = .ok (.iload_n 1, 1) := by decide +kernel
theorem dX3_pushNeighbours_1 : decode prog_5_method_11_code 1 = .ok (.istore_n 2, 1) := by decide +kernel
theorem dX3_pushNeighbours_2 : decode prog_5_method_11_code 2 = .ok (.iload_n 2, 1) := by decide +kernel
theorem dX3_pushNeighbours_3 : decode prog_5_method_11_code 3 = .ok (.iconst 1, 1) := by decide +kernel
theorem dX3_pushNeighbours_4 : decode prog_5_method_11_code 4 = .ok (.iadd, 1) := by decide +kernel
theorem dX3_pushNeighbours_5 : decode prog_5_method_11_code 5 = .ok (.aload_n 0, 1) := by decide +kernel
theorem dX3_pushNeighbours_6 : decode prog_5_method_11_code 6 = .ok (.getfield 9, 3) := by decide +kernel
theorem dX3_pushNeighbours_9 : decode prog_5_method_11_code 9 = .ok (.if_icmp .ge 17, 3) := by decide +kernel
theorem dX3_pushNeighbours_12 : decode prog_5_method_11_code 12 = .ok (.aload_n 0, 1) := by decide +kernel
theorem dX3_pushNeighbours_13 : decode prog_5_method_11_code 13 = .ok (.iload_n 2, 1) := by decide +kernel
theorem dX3_pushNeighbours_14 : decode prog_5_method_11_code 14 = .ok (.iload_n 2, 1) := by decide +kernel
theorem dX3_pushNeighbours_15 : decode prog_5_method_11_code 15 = .ok (.iconst 1, 1) := by decide +kernel
theorem dX3_pushNeighbours_16 : decode prog_5_method_11_code 16 = .ok (.iadd, 1) := by decide +kernel
theorem dX3_pushNeighbours_17 : decode prog_5_method_11_code 17 = .ok (.invokevirtual 45, 3) := by decide +kernel
theorem dX3_pushNeighbours_20 : decode prog_5_method_11_code 20 = .ok (.iinc 2 2, 3) := by decide +kernel
theorem dX3_pushNeighbours_23 : decode prog_5_method_11_code 23 = .ok (.goto (-21), 3) := by decide +kernel
theorem dX3_pushNeighbours_26 : decode prog_5_method_11_code 26 = .ok (.return_, 1) := by decide +kernel
theorem sX3_pushNeighbours_2 {Q : Hp → Prop} {h : Hp} {a0 l2 : Int}
    (hP : (rj (l2 + 1) ∧ nA a0) ∧
    (((l2 + 1) ≥ (h a0 0)) →
     Q h) ∧
    (((l2 + 1) < (h a0 0)) →
     (rj (l2 + 1) ∧ nA a0) ∧
     CV 2 mX3_push [vr a0, vi l2, vi (l2 + 1)] h (fun h4 =>
      (rj (l2 + 2)) ∧
      E 3 mX3_pushNeighbours 2 [(0, vr a0), (2, vi (l2 + 2))] [] h4 (qv Q)))) :
    E 3 mX3_pushNeighbours 2 [(0, vr a0), (2, vi l2)] [] h (qv Q) := by
  obtain ⟨⟨v1_0, v1_1⟩, hP⟩ := hP
  refine E_iload_n 1 2 dX3_pushNeighbours_2 rfl rfl ?_
  refine E_iconst dX3_pushNeighbours_3 (rg_of rfl) ?_
  refine E_iadd dX3_pushNeighbours_4 (rgI v1_0) ?_
  refine E_aload_n 0 0 dX3_pushNeighbours_5 rfl rfl ?_
  refine E_gI 0 0 dX3_pushNeighbours_6 FX3_9 (icN0 v1_1) rfl ?_
  refine E_icmp_ge 26 dX3_pushNeighbours_9 rfl (fun hc => ?_) (fun hc => ?_)
  · replace hP := hP.1 (hc)
    exact E_retV dX3_pushNeighbours_26 rfl hP
  · replace hP := hP.2 (by omega)
    obtain ⟨⟨v3_0, v3_1⟩, hP⟩ := hP
    refine E_aload_n 0 0 dX3_pushNeighbours_12 rfl rfl ?_
    refine E_iload_n 1 2 dX3_pushNeighbours_13 rfl rfl ?_
    refine E_iload_n 1 2 dX3_pushNeighbours_14 rfl rfl ?_
    refine E_iconst dX3_pushNeighbours_15 (rg_of rfl) ?_
    refine E_iadd dX3_pushNeighbours_16 (rgI v3_0) ?_
    refine E_invVV [vi l2, vi (l2 + 1)] dX3_pushNeighbours_17 fX3_push lX3_45 (icN0 v3_1) rfl (by decide) rfl rfl (Nat.le_of_ble_eq_true rfl) (CV_mono hP (fun h4 hP => ?_))
    obtain ⟨v5_0, hP⟩ := hP
    refine E_iinc 1 dX3_pushNeighbours_20 rfl (rgI v5_0) (by decide) rfl ?_
    refine E_goto 2 dX3_pushNeighbours_23 rfl ?_
    exact E_sub [1, 0] rfl hP
theorem sX3_pushNeighbours {Q : Hp → Prop} {h : Hp} {a0 l1 : Int}
    (hP : E 3 mX3_pushNeighbours 2 [(0, vr a0), (2, vi l1)] [] h (qv Q)) :
    CV 3 mX3_pushNeighbours [vr a0, vi l1] h Q := by
  refine CV_of_E fX3_pushNeighbours.1 rfl (Nat.le_of_ble_eq_true rfl) ?_
  show E 3 mX3_pushNeighbours 0 [(0, vr a0), (1, vi l1)] [] h (qv Q)
  refine E_iload_n 1 1 dX3_pushNeighbours_0 rfl rfl ?_
  refine E_istore_n dX3_pushNeighbours_1 rfl (by decide) rfl ?_
  exact E_sub [1, 0] rfl hP
theorem dX3_drop_0 : decode prog_5_method_12_code 0 = .ok (.aload_n 0, 1) := by decide +kernel
theorem dX3_drop_1 : decode prog_5_method_12_code 1 = .ok (.iload_n 1, 1) := by decide +kernel
theorem dX3_drop_2 : decode prog_5_method_12_code 2 = .ok (.invokevirtual 34, 3) := by decide +kernel
theorem dX3_drop_5 : decode prog_5_method_12_code 5 = .ok (.ifCond .ne 4, 3) := by decide +kernel
theorem dX3_drop_8 : decode prog_5_method_12_code 8 = .ok (.return_, 1) := by decide +kernel
theorem dX3_drop_9 : decode prog_5_method_12_code 9 = .ok (.aload_n 0, 1) := by decide +kernel
theorem dX3_drop_10 : decode prog_5_method_12_code 10 = .ok (.dup, 1) := by decide +kernel
theorem dX3_drop_11 : decode prog_5_method_12_code 11 = .ok (.getfield 15, 3) := by decide +kernel
theorem dX3_drop_14 : decode prog_5_method_12_code 14 = .ok (.iconst 1, 1) := by decide +kernel
theorem dX3_drop_15 : decode prog_5_method_12_code 15 = .ok (.isub, 1) := by decide +kernel
theorem dX3_drop_16 : decode prog_5_method_12_code 16 = .ok (.putfield 15, 3) := by decide +kernel
theorem dX3_drop_19 : decode prog_5_method_12_code 19 = .ok (.iload_n 1, 1) := by decide +kernel
theorem dX3_drop_20 : decode prog_5_method_12_code 20 = .ok (.istore_n 2, 1) := by decide +kernel
theorem dX3_drop_21 : decode prog_5_method_12_code 21 = .ok (.iload_n 2, 1) := by decide +kernel
theorem dX3_drop_22 : decode prog_5_method_12_code 22 = .ok (.aload_n 0, 1) := by decide +kernel
theorem dX3_drop_23 : decode prog_5_method_12_code 23 = .ok (.getfield 15, 3) := by decide +kernel
theorem dX3_drop_26 : decode prog_5_method_12_code 26 = .ok (.if_icmp .ge 37, 3) := by decide +kernel
theorem dX3_drop_29 : decode prog_5_method_12_code 29 = .ok (.aload_n 0, 1) := by decide +kernel
theorem dX3_drop_30 : decode prog_5_method_12_code 30 = .ok (.getfield 18, 3) := by decide +kernel
theorem dX3_drop_33 : decode prog_5_method_12_code 33 = .ok (.iload_n 2, 1) := by decide +kernel
theorem dX3_drop_34 : decode prog_5_method_12_code 34 = .ok (.aload_n 0, 1) := by decide +kernel
theorem dX3_drop_35 : decode prog_5_method_12_code 35 = .ok (.getfield 18, 3) := by decide +kernel
theorem dX3_drop_38 : decode prog_5_method_12_code 38 = .ok (.iload_n 2, 1) := by decide +kernel
theorem dX3_drop_39 : decode prog_5_method_12_code 39 = .ok (.iconst 1, 1) := by decide +kernel
theorem dX3_drop_40 : decode prog_5_method_12_code 40 = .ok (.iadd, 1) := by decide +kernel
theorem dX3_drop_41 : decode prog_5_method_12_code 41 = .ok (.iaload, 1) := by decide +kernel
theorem dX3_drop_42 : decode prog_5_method_12_code 42 = .ok (.iastore, 1) := by decide +kernel
theorem dX3_drop_43 : decode prog_5_method_12_code 43 = .ok (.aload_n 0, 1) := by decide +kernel
theorem dX3_drop_44 : decode prog_5_method_12_code 44 = .ok (.getfield 22, 3) := by decide +kernel
theorem dX3_drop_47 : decode prog_5_method_12_code 47 = .ok (.iload_n 2, 1) := by decide +kernel
theorem dX3_drop_48 : decode prog_5_method_12_code 48 = .ok (.aload_n 0, 1) := by decide +kernel
theorem dX3_drop_49 : decode prog_5_method_12_code 49 = .ok (.getfield 22, 3) := by decide +kernel
theorem dX3_drop_52 : decode prog_5_method_12_code 52 = .ok (.iload_n 2, 1) := by decide +kernel
theorem dX3_drop_53 : decode prog_5_method_12_code 53 = .ok (.iconst 1, 1) := by decide +kernel
theorem dX3_drop_54 : decode prog_5_method_12_code 54 = .ok (.iadd, 1) := by decide +kernel
theorem dX3_drop_55 : decode prog_5_method_12_code 55 = .ok (.iaload, 1) := by decide +kernel
theorem dX3_drop_56 : decode prog_5_method_12_code 56 = .ok (.iastore, 1) := by decide +kernel
theorem dX3_drop_57 : decode prog_5_method_12_code 57 = .ok (.iinc 2 1, 3) := by decide +kernel
theorem dX3_drop_60 : decode prog_5_method_12_code 60 = .ok (.goto (-39), 3) := by decide +kernel
theorem dX3_drop_63 : decode prog_5_method_12_code 63 = .ok (.return_, 1) := by decide +kernel
theorem sX3_drop_21 {Q : Hp → Prop} {h : Hp} {a0 l2 : Int}
    (hP : (nA a0) ∧
    ((l2 ≥ (h a0 1)) →
     Q h) ∧
    ((l2 < (h a0 1)) →
     (nA a0 ∧ rj (l2 + 1) ∧ ix (l2 + 1) 40 ∧ ix l2 40) ∧
     E 1 mX3_drop 21 [(0, vr a0), (2, vi (l2 + 1))] [] (up (up h (a0 + 1) l2 (h (a0 + 1) (l2 + 1))) (a0 + 2) l2 ((up h (a0 + 1) l2 (h (a0 + 1) (l2 + 1))) (a0 + 2) (l2 + 1))) (qv Q))) :
    E 1 mX3_drop 21 [(0, vr a0), (2, vi l2)] [] h (qv Q) := by
  obtain ⟨v1_0, hP⟩ := hP
  refine E_iload_n 1 2 dX3_drop_21 rfl rfl ?_
  refine E_aload_n 0 0 dX3_drop_22 rfl rfl ?_
  refine E_gI 1 1 dX3_drop_23 FX3_15 (icN0 v1_0) rfl ?_
  refine E_icmp_ge 63 dX3_drop_26 rfl (fun hc => ?_) (fun hc => ?_)
  · replace hP := hP.1 (hc)
    exact E_retV dX3_drop_63 rfl hP
  · replace hP := hP.2 (by omega)
    obtain ⟨⟨v3_0, v3_1, v3_2, v3_3⟩, hP⟩ := hP
    refine E_aload_n 0 0 dX3_drop_29 rfl rfl ?_
    refine E_gR (a0 + 1) 2 dX3_drop_30 FX3_18 (icN0 v3_0) (rfN2 v3_0) ?_
    refine E_iload_n 1 2 dX3_drop_33 rfl rfl ?_
    refine E_aload_n 0 0 dX3_drop_34 rfl rfl ?_
    refine E_gR (a0 + 1) 2 dX3_drop_35 FX3_18 (icN0 v3_0) (rfN2 v3_0) ?_
    refine E_iload_n 1 2 dX3_drop_38 rfl rfl ?_
    refine E_iconst dX3_drop_39 (rg_of rfl) ?_
    refine E_iadd dX3_drop_40 (rgI v3_1) ?_
    refine E_iaload dX3_drop_41 (icN1 v3_0) v3_2.1 v3_2.2 ?_
    refine E_iastore dX3_drop_42 (icN1 v3_0) v3_3.1 v3_3.2 ?_
    refine E_aload_n 0 0 dX3_drop_43 rfl rfl ?_
    refine E_gR (a0 + 2) 3 dX3_drop_44 FX3_22 (icN0 v3_0) (rfN3 v3_0) ?_
    refine E_iload_n 1 2 dX3_drop_47 rfl rfl ?_
    refine E_aload_n 0 0 dX3_drop_48 rfl rfl ?_
    refine E_gR (a0 + 2) 3 dX3_drop_49 FX3_22 (icN0 v3_0) (rfN3 v3_0) ?_
    refine E_iload_n 1 2 dX3_drop_52 rfl rfl ?_
    refine E_iconst dX3_drop_53 (rg_of rfl) ?_
    refine E_iadd dX3_drop_54 (rgI v3_1) ?_
    refine E_iaload dX3_drop_55 (icN2 v3_0) v3_2.1 v3_2.2 ?_
    refine E_iastore dX3_drop_56 (icN2 v3_0) v3_3.1 v3_3.2 ?_
    refine E_iinc 1 dX3_drop_57 rfl (rgI v3_1) (by decide) rfl ?_
    refine E_goto 21 dX3_drop_60 rfl ?_
    exact E_sub [1, 0] rfl hP
theorem sX3_drop {Q : Hp → Prop} {h : Hp} {a0 l1 : Int}
    (hP : (nA a0 ∧ ((l1 ≥ 0) → (nA a0))) ∧
    ((l1 ≥ 0 ∧ l1 < (h a0 1)) →
     (nA a0 ∧ rj ((h a0 1) - 1)) ∧
     E 1 mX3_drop 21 [(0, vr a0), (2, vi l1)] [] (up h a0 1 ((h a0 1) - 1)) (qv Q)) ∧
    ((l1 < 0 ∨ l1 ≥ (h a0 1)) →
     Q h)) :
    CV 1 mX3_drop [vr a0, vi l1] h Q := by
  refine CV_of_E fX3_drop.1 rfl (Nat.le_of_ble_eq_true rfl) ?_
  show E 1 mX3_drop 0 [(0, vr a0), (1, vi l1)] [] h (qv Q)
  obtain ⟨⟨v1_0, v1_1⟩, hP⟩ := hP
  refine E_aload_n 0 0 dX3_drop_0 rfl rfl ?_
  refine E_iload_n 1 1 dX3_drop_1 rfl rfl ?_
  refine E_invVI [vi l1] dX3_drop_2 fX3_hasPosition lX3_34 (icN0 v1_0) rfl (by decide) rfl rfl (Nat.le_of_ble_eq_true rfl) (sX3_hasPosition (h := h) (a0 := a0) (l1 := l1) ⟨v1_1, ?_⟩)
  refine E_if_ne 9 dX3_drop_5 rfl (fun hc => ?_) (fun hc => ?_)
  · replace hP := hP.1 (by have := ite1' hc; omega)
    obtain ⟨⟨v2_0, v2_1⟩, hP⟩ := hP
    refine E_aload_n 0 0 dX3_drop_9 rfl rfl ?_
    refine E_dup dX3_drop_10 rfl ?_
    refine E_gI 1 1 dX3_drop_11 FX3_15 (icN0 v2_0) rfl ?_
    refine E_iconst dX3_drop_14 (rg_of rfl) ?_
    refine E_isub dX3_drop_15 (rgI v2_1) ?_
    refine E_pI 1 1 dX3_drop_16 PX3_15 (icN0 v2_0) rfl ?_
    refine E_iload_n 1 1 dX3_drop_19 rfl rfl ?_
    refine E_istore_n dX3_drop_20 rfl (by decide) rfl ?_
    exact E_sub [1, 0] rfl hP
  · replace hP := hP.2 (by have := ite0 hc; omega)
    exact E_retV dX3_drop_8 rfl hP
theorem dX3_passLayers_0 : decode prog_5_method_15_code 0 = .ok (.aload_n 0, 1) := by decide +kernel
theorem dX3_passLayers_1 : decode prog_5_method_15_code 1 = .ok (.getfield 25, 3) := by decide +kernel
theorem dX3_passLayers_4 : decode prog_5_method_15_code 4 = .ok (.iconst 0, 1) := by decide +kernel
theorem dX3_passLayers_5 : decode prog_5_method_15_code 5 = .ok (.invokestatic 58, 3) := by decide +kernel
theorem dX3_passLayers_8 : decode prog_5_method_15_code 8 = .ok (.iconst 0, 1) := by decide +kernel
theorem dX3_passLayers_9 : decode prog_5_method_15_code 9 = .ok (.istore_n 2, 1) := by decide +kernel
theorem dX3_passLayers_10 : decode prog_5_method_15_code 10 = .ok (.iload_n 2, 1) := by decide +kernel
theorem dX3_passLayers_11 : decode prog_5_method_15_code 11 = .ok (.iload_n 1, 1) := by decide +kernel
theorem dX3_passLayers_12 : decode prog_5_method_15_code 12 = .ok (.if_icmp .ge 69, 3) := by decide +kernel
theorem dX3_passLayers_15 : decode prog_5_method_15_code 15 = .ok (.iload_n 2, 1) := by decide +kernel
theorem dX3_passLayers_16 : decode prog_5_method_15_code 16 = .ok (.aload_n 0, 1) := by decide +kernel
theorem dX3_passLayers_17 : decode prog_5_method_15_code 17 = .ok (.getfield 15, 3) := by decide +kernel
theorem dX3_passLayers_20 : decode prog_5_method_15_code 20 = .ok (.if_icmp .ge 61, 3) := by decide +kernel
theorem dX3_passLayers_23 : decode prog_5_method_15_code 23 = .ok (.iconst 1, 1) := by decide +kernel
theorem dX3_passLayers_24 : decode prog_5_method_15_code 24 = .ok (.aload_n 0, 1) := by decide +kernel
theorem dX3_passLayers_25 : decode prog_5_method_15_code 25 = .ok (.getfield 25, 3) := by decide +kernel
theorem dX3_passLayers_28 : decode prog_5_method_15_code 28 = .ok (.aload_n 0, 1) := by decide +kernel
theorem dX3_passLayers_29 : decode prog_5_method_15_code 29 = .ok (.getfield 18, 3) := by decide +kernel
theorem dX3_passLayers_32 : decode prog_5_method_15_code 32 = .ok (.iload_n 2, 1) := by decide +kernel
theorem dX3_passLayers_33 : decode prog_5_method_15_code 33 = .ok (.iaload, 1) := by decide +kernel
theorem dX3_passLayers_34 : decode prog_5_method_15_code 34 = .ok (.iaload, 1) := by decide +kernel
theorem dX3_passLayers_35 : decode prog_5_method_15_code 35 = .ok (.aload_n 0, 1) := by decide +kernel
theorem dX3_passLayers_36 : decode prog_5_method_15_code 36 = .ok (.getfield 25, 3) := by decide +kernel
theorem dX3_passLayers_39 : decode prog_5_method_15_code 39 = .ok (.aload_n 0, 1) := by decide +kernel
theorem dX3_passLayers_40 : decode prog_5_method_15_code 40 = .ok (.getfield 22, 3) := by decide +kernel
theorem dX3_passLayers_43 : decode prog_5_method_15_code 43 = .ok (.iload_n 2, 1) := by decide +kernel
theorem dX3_passLayers_44 : decode prog_5_method_15_code 44 = .ok (.iaload, 1) := by decide +kernel
theorem dX3_passLayers_45 : decode prog_5_method_15_code 45 = .ok (.iaload, 1) := by decide +kernel
theorem dX3_passLayers_46 : decode prog_5_method_15_code 46 = .ok (.invokestatic 53, 3) := by decide +kernel
theorem dX3_passLayers_49 : decode prog_5_method_15_code 49 = .ok (.iadd, 1) := by decide +kernel
theorem dX3_passLayers_50 : decode prog_5_method_15_code 50 = .ok (.istore_n 3, 1) := by decide +kernel
theorem dX3_passLayers_51 : decode prog_5_method_15_code 51 = .ok (.aload_n 0, 1) := by decide +kernel
theorem dX3_passLayers_52 : decode prog_5_method_15_code 52 = .ok (.getfield 25, 3) := by decide +kernel
theorem dX3_passLayers_55 : decode prog_5_method_15_code 55 = .ok (.aload_n 0, 1) := by decide +kernel
theorem dX3_passLayers_56 : decode prog_5_method_15_code 56 = .ok (.getfield 18, 3) := by decide +kernel
theorem dX3_passLayers_59 : decode prog_5_method_15_code 59 = .ok (.iload_n 2, 1) := by decide +kernel
theorem dX3_passLayers_60 : decode prog_5_method_15_code 60 = .ok (.iaload, 1) := by decide +kernel
theorem dX3_passLayers_61 : decode prog_5_method_15_code 61 = .ok (.iload_n 3, 1) := by decide +kernel
theorem dX3_passLayers_62 : decode prog_5_method_15_code 62 = .ok (.iastore, 1) := by decide +kernel
theorem dX3_passLayers_63 : decode prog_5_method_15_code 63 = .ok (.aload_n 0, 1) := by decide +kernel
theorem dX3_passLayers_64 : decode prog_5_method_15_code 64 = .ok (.getfield 25, 3) := by decide +kernel
theorem dX3_passLayers_67 : decode prog_5_method_15_code 67 = .ok (.aload_n 0, 1) := by decide +kernel
theorem dX3_passLayers_68 : decode prog_5_method_15_code 68 = .ok (.getfield 22, 3) := by decide +kernel
theorem dX3_passLayers_71 : decode prog_5_method_15_code 71 = .ok (.iload_n 2, 1) := by decide +kernel
theorem dX3_passLayers_72 : decode prog_5_method_15_code 72 = .ok (.iaload, 1) := by decide +kernel
theorem dX3_passLayers_73 : decode prog_5_method_15_code 73 = .ok (.iload_n 3, 1) := by decide +kernel
theorem dX3_passLayers_74 : decode prog_5_method_15_code 74 = .ok (.iastore, 1) := by decide +kernel
theorem dX3_passLayers_75 : decode prog_5_method_15_code 75 = .ok (.iinc 2 1, 3) := by decide +kernel
theorem dX3_passLayers_78 : decode prog_5_method_15_code 78 = .ok (.goto (-68), 3) := by decide +kernel
theorem dX3_passLayers_81 : decode prog_5_method_15_code 81 = .ok (.return_, 1) := by decide +kernel
theorem sX3_passLayers_10 {Q : Hp → Prop} {h : Hp} {a0 l1 l2 : Int}
    (hP : ((l2 ≥ l1) →
     Q h) ∧
    ((l2 < l1) →
     (nA a0) ∧
     ((l2 ≥ (h a0 1)) →
      Q h) ∧
     ((l2 < (h a0 1)) →
      (nA a0 ∧ ix l2 40 ∧ ix (h (a0 + 1) l2) 8 ∧ ix (h (a0 + 2) l2) 8 ∧ rj (1 + (if (h (a0 + 3) (h (a0 + 1) l2)) < (h (a0 + 3) (h (a0 + 2) l2)) then (h (a0 + 3) (h (a0 + 2) l2)) else (h (a0 + 3) (h (a0 + 1) l2))))) ∧
      (∀ x6 : Int, x6 = (1 + (if (h (a0 + 3) (h (a0 + 1) l2)) < (h (a0 + 3) (h (a0 + 2) l2)) then (h (a0 + 3) (h (a0 + 2) l2)) else (h (a0 + 3) (h (a0 + 1) l2)))) →
      (nA a0 ∧ ix l2 40 ∧ ix (h (a0 + 1) l2) 8 ∧ ix ((up h (a0 + 3) (h (a0 + 1) l2) x6) (a0 + 2) l2) 8 ∧ rj (l2 + 1)) ∧
      E 1 mX3_passLayers 10 [(0, vr a0), (1, vi l1), (2, vi (l2 + 1))] [] (up (up h (a0 + 3) (h (a0 + 1) l2) x6) (a0 + 3) ((up h (a0 + 3) (h (a0 + 1) l2) x6) (a0 + 2) l2) x6) (qv Q))))) :
    E 1 mX3_passLayers 10 [(0, vr a0), (1, vi l1), (2, vi l2)] [] h (qv Q) := by
  refine E_iload_n 2 2 dX3_passLayers_10 rfl rfl ?_
  refine E_iload_n 1 1 dX3_passLayers_11 rfl rfl ?_
  refine E_icmp_ge 81 dX3_passLayers_12 rfl (fun hc => ?_) (fun hc => ?_)
  · replace hP := hP.1 (hc)
    exact E_retV dX3_passLayers_81 rfl hP
  · replace hP := hP.2 (by omega)
    obtain ⟨v3_0, hP⟩ := hP
    refine E_iload_n 2 2 dX3_passLayers_15 rfl rfl ?_
    refine E_aload_n 0 0 dX3_passLayers_16 rfl rfl ?_
    refine E_gI 1 1 dX3_passLayers_17 FX3_15 (icN0 v3_0) rfl ?_
    refine E_icmp_ge 81 dX3_passLayers_20 rfl (fun hc => ?_) (fun hc => ?_)
    · replace hP := hP.1 (hc)
      exact E_retV dX3_passLayers_81 rfl hP
    · replace hP := hP.2 (by omega)
      obtain ⟨⟨v5_0, v5_1, v5_2, v5_3, v5_4⟩, hP⟩ := hP
      refine E_iconst dX3_passLayers_23 (rg_of rfl) ?_
      refine E_aload_n 0 0 dX3_passLayers_24 rfl rfl ?_
      refine E_gR (a0 + 3) 4 dX3_passLayers_25 FX3_25 (icN0 v5_0) (rfN4 v5_0) ?_
      refine E_aload_n 0 0 dX3_passLayers_28 rfl rfl ?_
      refine E_gR (a0 + 1) 2 dX3_passLayers_29 FX3_18 (icN0 v5_0) (rfN2 v5_0) ?_
      refine E_iload_n 2 2 dX3_passLayers_32 rfl rfl ?_
      refine E_iaload dX3_passLayers_33 (icN1 v5_0) v5_1.1 v5_1.2 ?_
      refine E_iaload dX3_passLayers_34 (icN3 v5_0) v5_2.1 v5_2.2 ?_
      refine E_aload_n 0 0 dX3_passLayers_35 rfl rfl ?_
      refine E_gR (a0 + 3) 4 dX3_passLayers_36 FX3_25 (icN0 v5_0) (rfN4 v5_0) ?_
      refine E_aload_n 0 0 dX3_passLayers_39 rfl rfl ?_
      refine E_gR (a0 + 2) 3 dX3_passLayers_40 FX3_22 (icN0 v5_0) (rfN3 v5_0) ?_
      refine E_iload_n 2 2 dX3_passLayers_43 rfl rfl ?_
      refine E_iaload dX3_passLayers_44 (icN2 v5_0) v5_1.1 v5_1.2 ?_
      refine E_iaload dX3_passLayers_45 (icN3 v5_0) v5_3.1 v5_3.2 ?_
      refine E_mmax dX3_passLayers_46 lX3_53m (by decide) (Nat.le_of_ble_eq_true rfl) ?_
      refine E_iadd dX3_passLayers_49 (rgI v5_4) ?_
      obtain ⟨x6, hx6⟩ : ∃ x : Int, x = (1 + (if (h (a0 + 3) (h (a0 + 1) l2)) < (h (a0 + 3) (h (a0 + 2) l2)) then (h (a0 + 3) (h (a0 + 2) l2)) else (h (a0 + 3) (h (a0 + 1) l2)))) := ⟨_, rfl⟩
      refine E_top hx6.symm ?_
      replace hP := hP x6 hx6
      refine E_istore_n dX3_passLayers_50 rfl (by decide) rfl ?_
      obtain ⟨⟨v7_0, v7_1, v7_2, v7_3, v7_4⟩, hP⟩ := hP
      refine E_aload_n 1 0 dX3_passLayers_51 rfl rfl ?_
      refine E_gR (a0 + 3) 4 dX3_passLayers_52 FX3_25 (icN0 v7_0) (rfN4 v7_0) ?_
      refine E_aload_n 1 0 dX3_passLayers_55 rfl rfl ?_
      refine E_gR (a0 + 1) 2 dX3_passLayers_56 FX3_18 (icN0 v7_0) (rfN2 v7_0) ?_
      refine E_iload_n 3 2 dX3_passLayers_59 rfl rfl ?_
      refine E_iaload dX3_passLayers_60 (icN1 v7_0) v7_1.1 v7_1.2 ?_
      refine E_iload_n 0 3 dX3_passLayers_61 rfl rfl ?_
      refine E_iastore dX3_passLayers_62 (icN3 v7_0) v7_2.1 v7_2.2 ?_
      refine E_aload_n 1 0 dX3_passLayers_63 rfl rfl ?_
      refine E_gR (a0 + 3) 4 dX3_passLayers_64 FX3_25 (icN0 v7_0) (rfN4 v7_0) ?_
      refine E_aload_n 1 0 dX3_passLayers_67 rfl rfl ?_
      refine E_gR (a0 + 2) 3 dX3_passLayers_68 FX3_22 (icN0 v7_0) (rfN3 v7_0) ?_
      refine E_iload_n 3 2 dX3_passLayers_71 rfl rfl ?_
      refine E_iaload dX3_passLayers_72 (icN2 v7_0) v7_1.1 v7_1.2 ?_
      refine E_iload_n 0 3 dX3_passLayers_73 rfl rfl ?_
      refine E_iastore dX3_passLayers_74 (icN3 v7_0) v7_3.1 v7_3.2 ?_
      refine E_iinc 3 dX3_passLayers_75 rfl (rgI v7_4) (by decide) rfl ?_
      refine E_goto 10 dX3_passLayers_78 rfl ?_
      exact E_sub [2, 3, 0] rfl hP
theorem sX3_passLayers {Q : Hp → Prop} {h : Hp} {a0 l1 : Int}
    (hP : (nA a0) ∧
    CV 0 mJ7_fill_53178 [vr (a0 + 3), vi 0] h (fun h2 =>
     E 1 mX3_passLayers 10 [(0, vr a0), (1, vi l1), (2, vi 0)] [] h2 (qv Q))) :
    CV 1 mX3_passLayers [vr a0, vi l1] h Q := by
  refine CV_of_E fX3_passLayers.1 rfl (Nat.le_of_ble_eq_true rfl) ?_
  show E 1 mX3_passLayers 0 [(0, vr a0), (1, vi l1)] [] h (qv Q)
  obtain ⟨v1_0, hP⟩ := hP
  refine E_aload_n 0 0 dX3_passLayers_0 rfl rfl ?_
  refine E_gR (a0 + 3) 4 dX3_passLayers_1 FX3_25 (icN0 v1_0) (rfN4 v1_0) ?_
  refine E_iconst dX3_passLayers_4 (rg_of rfl) ?_
  refine E_invSV [vr (a0 + 3), vi 0] dX3_passLayers_5 fJ7_fill_53178 lX3_58 (by decide) rfl rfl (Nat.le_of_ble_eq_true rfl) (CV_mono hP (fun h2 hP => ?_))
  refine E_iconst dX3_passLayers_8 (rg_of rfl) ?_
  refine E_istore_n dX3_passLayers_9 rfl (by decide) rfl ?_
  exact E_sub [1, 2, 0] rfl hP
theorem dX3_levelAt_0 : decode prog_5_method_13_code 0 = .ok (.aload_n 0, 1) := by decide +kernel
theorem dX3_levelAt_1 : decode prog_5_method_13_code 1 = .ok (.iload_n 1, 1) := by decide +kernel
theorem dX3_levelAt_2 : decode prog_5_method_13_code 2 = .ok (.invokevirtual 34, 3) := by decide +kernel
theorem dX3_levelAt_5 : decode prog_5_method_13_code 5 = .ok (.ifCond .ne 5, 3) := by decide +kernel
theorem dX3_levelAt_8 : decode prog_5_method_13_code 8 = .ok (.iconst (-1), 1) := by decide +kernel
theorem dX3_levelAt_9 : decode prog_5_method_13_code 9 = .ok (.ireturn, 1) := by decide +kernel
theorem dX3_levelAt_10 : decode prog_5_method_13_code 10 = .ok (.aload_n 0, 1) := by decide +kernel
theorem dX3_levelAt_11 : decode prog_5_method_13_code 11 = .ok (.iload_n 1, 1) := by decide +kernel
theorem dX3_levelAt_12 : decode prog_5_method_13_code 12 = .ok (.invokevirtual 49, 3) := by decide +kernel
theorem dX3_levelAt_15 : decode prog_5_method_13_code 15 = .ok (.aload_n 0, 1) := by decide +kernel
theorem dX3_levelAt_16 : decode prog_5_method_13_code 16 = .ok (.getfield 25, 3) := by decide +kernel
theorem dX3_levelAt_19 : decode prog_5_method_13_code 19 = .ok (.aload_n 0, 1) := by decide +kernel
theorem dX3_levelAt_20 : decode prog_5_method_13_code 20 = .ok (.getfield 18, 3) := by decide +kernel
theorem dX3_levelAt_23 : decode prog_5_method_13_code 23 = .ok (.iload_n 1, 1) := by decide +kernel
theorem dX3_levelAt_24 : decode prog_5_method_13_code 24 = .ok (.iaload, 1) := by decide +kernel
theorem dX3_levelAt_25 : decode prog_5_method_13_code 25 = .ok (.iaload, 1) := by decide +kernel
theorem dX3_levelAt_26 : decode prog_5_method_13_code 26 = .ok (.aload_n 0, 1) := by decide +kernel
theorem dX3_levelAt_27 : decode prog_5_method_13_code 27 = .ok (.getfield 25, 3) := by decide +kernel
theorem dX3_levelAt_30 : decode prog_5_method_13_code 30 = .ok (.aload_n 0, 1) := by decide +kernel
theorem dX3_levelAt_31 : decode prog_5_method_13_code 31 = .ok (.getfield 22, 3) := by decide +kernel
theorem dX3_levelAt_34 : decode prog_5_method_13_code 34 = .ok (.iload_n 1, 1) := by decide +kernel
theorem dX3_levelAt_35 : decode prog_5_method_13_code 35 = .ok (.iaload, 1) := by decide +kernel
theorem dX3_levelAt_36 : decode prog_5_method_13_code 36 = .ok (.iaload, 1) := by decide +kernel
theorem dX3_levelAt_37 : decode prog_5_method_13_code 37 = .ok (.invokestatic 53, 3) := by decide +kernel
theorem dX3_levelAt_40 : decode prog_5_method_13_code 40 = .ok (.ireturn, 1) := by decide +kernel
theorem sX3_levelAt {Q : Int → Hp → Prop} {h : Hp} {a0 l1 : Int}
    (hP : (nA a0 ∧ ((l1 ≥ 0) → (nA a0))) ∧
    ((l1 ≥ 0 ∧ l1 < (h a0 1)) →
     (nA a0) ∧
     CV 1 mX3_passLayers [vr a0, vi l1] h (fun h3 =>
      (nA a0 ∧ ix l1 40 ∧ ix (h3 (a0 + 1) l1) 8 ∧ ix (h3 (a0 + 2) l1) 8) ∧
      Q (if (h3 (a0 + 3) (h3 (a0 + 1) l1)) < (h3 (a0 + 3) (h3 (a0 + 2) l1)) then (h3 (a0 + 3) (h3 (a0 + 2) l1)) else (h3 (a0 + 3) (h3 (a0 + 1) l1))) h3)) ∧
    ((l1 < 0 ∨ l1 ≥ (h a0 1)) →
     Q (-1) h)) :
    CI 2 mX3_levelAt [vr a0, vi l1] h Q := by
  refine CI_of_E fX3_levelAt.1 rfl (Nat.le_of_ble_eq_true rfl) ?_
  show E 2 mX3_levelAt 0 [(0, vr a0), (1, vi l1)] [] h (qi Q)
  obtain ⟨⟨v1_0, v1_1⟩, hP⟩ := hP
  refine E_aload_n 0 0 dX3_levelAt_0 rfl rfl ?_
  refine E_iload_n 1 1 dX3_levelAt_1 rfl rfl ?_
  refine E_invVI [vi l1] dX3_levelAt_2 fX3_hasPosition lX3_34 (icN0 v1_0) rfl (by decide) rfl rfl (Nat.le_of_ble_eq_true rfl) (sX3_hasPosition (h := h) (a0 := a0) (l1 := l1) ⟨v1_1, ?_⟩)
  refine E_if_ne 10 dX3_levelAt_5 rfl (fun hc => ?_) (fun hc => ?_)
  · replace hP := hP.1 (by have := ite1' hc; omega)
    obtain ⟨v2_0, hP⟩ := hP
    refine E_aload_n 0 0 dX3_levelAt_10 rfl rfl ?_
    refine E_iload_n 1 1 dX3_levelAt_11 rfl rfl ?_
    refine E_invVV [vi l1] dX3_levelAt_12 fX3_passLayers lX3_49 (icN0 v2_0) rfl (by decide) rfl rfl (Nat.le_of_ble_eq_true rfl) (CV_mono hP (fun h3 hP => ?_))
    obtain ⟨⟨v4_0, v4_1, v4_2, v4_3⟩, hP⟩ := hP
    refine E_aload_n 0 0 dX3_levelAt_15 rfl rfl ?_
    refine E_gR (a0 + 3) 4 dX3_levelAt_16 FX3_25 (icN0 v4_0) (rfN4 v4_0) ?_
    refine E_aload_n 0 0 dX3_levelAt_19 rfl rfl ?_
    refine E_gR (a0 + 1) 2 dX3_levelAt_20 FX3_18 (icN0 v4_0) (rfN2 v4_0) ?_
    refine E_iload_n 1 1 dX3_levelAt_23 rfl rfl ?_
    refine E_iaload dX3_levelAt_24 (icN1 v4_0) v4_1.1 v4_1.2 ?_
    refine E_iaload dX3_levelAt_25 (icN3 v4_0) v4_2.1 v4_2.2 ?_
    refine E_aload_n 0 0 dX3_levelAt_26 rfl rfl ?_
    refine E_gR (a0 + 3) 4 dX3_levelAt_27 FX3_25 (icN0 v4_0) (rfN4 v4_0) ?_
    refine E_aload_n 0 0 dX3_levelAt_30 rfl rfl ?_
    refine E_gR (a0 + 2) 3 dX3_levelAt_31 FX3_22 (icN0 v4_0) (rfN3 v4_0) ?_
    refine E_iload_n 1 1 dX3_levelAt_34 rfl rfl ?_
    refine E_iaload dX3_levelAt_35 (icN2 v4_0) v4_1.1 v4_1.2 ?_
    refine E_iaload dX3_levelAt_36 (icN3 v4_0) v4_3.1 v4_3.2 ?_
    refine E_mmax dX3_levelAt_37 lX3_53m (by decide) (Nat.le_of_ble_eq_true rfl) ?_
    exact E_retI dX3_levelAt_40 rfl hP
  · replace hP := hP.2 (by have := ite0 hc; omega)
    refine E_iconst dX3_levelAt_8 (rg_of rfl) ?_
    exact E_retI dX3_levelAt_9 rfl hP
theorem dX3_levels_0 : decode prog_5_method_14_code 0 = .ok (.aload_n 0, 1) := by decide +kernel
theorem dX3_levels_1 : decode prog_5_method_14_code 1 = .ok (.aload_n 0, 1) := by decide +kernel
theorem dX3_levels_2 : decode prog_5_method_14_code 2 = .ok (.getfield 15, 3) := by decide +kernel
theorem dX3_levels_5 : decode prog_5_method_14_code 5 = .ok (.invokevirtual 49, 3) := by decide +kernel
theorem dX3_levels_8 : decode prog_5_method_14_code 8 = .ok (.iconst 0, 1) := by decide +kernel
theorem dX3_levels_9 : decode prog_5_method_14_code 9 = .ok (.istore_n 1, 1) := by decide +kernel
theorem dX3_levels_10 : decode prog_5_method_14_code 10 = .ok (.iconst 0, 1) := by decide +kernel
theorem dX3_levels_11 : decode prog_5_method_14_code 11 = .ok (.istore_n 2, 1) := by decide +kernel
theorem dX3_levels_12 : decode prog_5_method_14_code 12 = .ok (.iload_n 2, 1) := by decide +kernel
theorem dX3_levels_13 : decode prog_5_method_14_code 13 = .ok (.aload_n 0, 1) := by decide +kernel
theorem dX3_levels_14 : decode prog_5_method_14_code 14 = .ok (.getfield 9, 3) := by decide +kernel
theorem dX3_levels_17 : decode prog_5_method_14_code 17 = .ok (.if_icmp .ge 20, 3) := by decide +kernel
theorem dX3_levels_20 : decode prog_5_method_14_code 20 = .ok (.iload_n 1, 1) := by decide +kernel
theorem dX3_levels_21 : decode prog_5_method_14_code 21 = .ok (.aload_n 0, 1) := by decide +kernel
theorem dX3_levels_22 : decode prog_5_method_14_code 22 = .ok (.getfield 25, 3) := by decide +kernel
theorem dX3_levels_25 : decode prog_5_method_14_code 25 = .ok (.iload_n 2, 1) := by decide +kernel
theorem dX3_levels_26 : decode prog_5_method_14_code 26 = .ok (.iaload, 1) := by decide +kernel
theorem dX3_levels_27 : decode prog_5_method_14_code 27 = .ok (.invokestatic 53, 3) := by decide +kernel
theorem dX3_levels_30 : decode prog_5_method_14_code 30 = .ok (.istore_n 1, 1) := by decide +kernel
theorem dX3_levels_31 : decode prog_5_method_14_code 31 = .ok (.iinc 2 1, 3) := by decide +kernel
theorem dX3_levels_34 : decode prog_5_method_14_code 34 = .ok (.goto (-22), 3) := by decide +kernel
theorem dX3_levels_37 : decode prog_5_method_14_code 37 = .ok (.iload_n 1, 1) := by decide +kernel
theorem dX3_levels_38 : decode prog_5_method_14_code 38 = .ok (.ireturn, 1) := by decide +kernel
theorem sX3_levels_12 {Q : Int → Hp → Prop} {h : Hp} {a0 l1 l2 : Int}
    (hP : (nA a0) ∧
    ((l2 ≥ (h a0 0)) →
     Q l1 h) ∧
    ((l2 < (h a0 0)) →
     (nA a0 ∧ ix l2 8) ∧
     (∀ x4 : Int, x4 = (if l1 < (h (a0 + 3) l2) then (h (a0 + 3) l2) else l1) →
     (rj (l2 + 1)) ∧
     E 2 mX3_levels 12 [(0, vr a0), (1, vi x4), (2, vi (l2 + 1))] [] h (qi Q)))) :
    E 2 mX3_levels 12 [(0, vr a0), (1, vi l1), (2, vi l2)] [] h (qi Q) := by
  obtain ⟨v1_0, hP⟩ := hP
  refine E_iload_n 2 2 dX3_levels_12 rfl rfl ?_
  refine E_aload_n 0 0 dX3_levels_13 rfl rfl ?_
  refine E_gI 0 0 dX3_levels_14 FX3_9 (icN0 v1_0) rfl ?_
  refine E_icmp_ge 37 dX3_levels_17 rfl (fun hc => ?_) (fun hc => ?_)
  · replace hP := hP.1 (hc)
    refine E_iload_n 1 1 dX3_levels_37 rfl rfl ?_
    exact E_retI dX3_levels_38 rfl hP
  · replace hP := hP.2 (by omega)
    obtain ⟨⟨v3_0, v3_1⟩, hP⟩ := hP
    refine E_iload_n 1 1 dX3_levels_20 rfl rfl ?_
    refine E_aload_n 0 0 dX3_levels_21 rfl rfl ?_
    refine E_gR (a0 + 3) 4 dX3_levels_22 FX3_25 (icN0 v3_0) (rfN4 v3_0) ?_
    refine E_iload_n 2 2 dX3_levels_25 rfl rfl ?_
    refine E_iaload dX3_levels_26 (icN3 v3_0) v3_1.1 v3_1.2 ?_
    refine E_mmax dX3_levels_27 lX3_53m (by decide) (Nat.le_of_ble_eq_true rfl) ?_
    obtain ⟨x4, hx4⟩ : ∃ x : Int, x = (if l1 < (h (a0 + 3) l2) then (h (a0 + 3) l2) else l1) := ⟨_, rfl⟩
    refine E_top hx4.symm ?_
    replace hP := hP x4 hx4
    refine E_istore_n dX3_levels_30 rfl (by decide) rfl ?_
    obtain ⟨v5_0, hP⟩ := hP
    refine E_iinc 2 dX3_levels_31 rfl (rgI v5_0) (by decide) rfl ?_
    refine E_goto 12 dX3_levels_34 rfl ?_
    exact E_sub [2, 1, 0] rfl hP
theorem sX3_levels {Q : Int → Hp → Prop} {h : Hp} {a0 : Int}
    (hP : (nA a0) ∧
    CV 1 mX3_passLayers [vr a0, vi (h a0 1)] h (fun h2 =>
     E 2 mX3_levels 12 [(0, vr a0), (1, vi 0), (2, vi 0)] [] h2 (qi Q))) :
    CI 2 mX3_levels [vr a0] h Q := by
  refine CI_of_E fX3_levels.1 rfl (Nat.le_of_ble_eq_true rfl) ?_
  show E 2 mX3_levels 0 [(0, vr a0)] [] h (qi Q)
  obtain ⟨v1_0, hP⟩ := hP
  refine E_aload_n 0 0 dX3_levels_0 rfl rfl ?_
  refine E_aload_n 0 0 dX3_levels_1 rfl rfl ?_
  refine E_gI 1 1 dX3_levels_2 FX3_15 (icN0 v1_0) rfl ?_
  refine E_invVV [vi (h a0 1)] dX3_levels_5 fX3_passLayers lX3_49 (icN0 v1_0) rfl (by decide) rfl rfl (Nat.le_of_ble_eq_true rfl) (CV_mono hP (fun h2 hP => ?_))
  refine E_iconst dX3_levels_8 (rg_of rfl) ?_
  refine E_istore_n dX3_levels_9 rfl (by decide) rfl ?_
  refine E_iconst dX3_levels_10 (rg_of rfl) ?_
  refine E_istore_n dX3_levels_11 rfl (by decide) rfl ?_
  exact E_sub [2, 1, 0] rfl hP
theorem dX3_carry_0 : decode prog_5_method_16_code 0 = .ok (.iload_n 1, 1) := by decide +kernel
theorem dX3_carry_1 : decode prog_5_method_16_code 1 = .ok (.istore_n 2, 1) := by decide +kernel
theorem dX3_carry_2 : decode prog_5_method_16_code 2 = .ok (.iconst 0, 1) := by decide +kernel
theorem dX3_carry_3 : decode prog_5_method_16_code 3 = .ok (.istore_n 3, 1) := by decide +kernel
theorem dX3_carry_4 : decode prog_5_method_16_code 4 = .ok (.iload_n 3, 1) := by decide +kernel
theorem dX3_carry_5 : decode prog_5_method_16_code 5 = .ok (.aload_n 0, 1) := by decide +kernel
theorem dX3_carry_6 : decode prog_5_method_16_code 6 = .ok (.getfield 15, 3) := by decide +kernel
theorem dX3_carry_9 : decode prog_5_method_16_code 9 = .ok (.if_icmp .ge 26, 3) := by decide +kernel
theorem dX3_carry_12 : decode prog_5_method_16_code 12 = .ok (.iload_n 2, 1) := by decide +kernel
theorem dX3_carry_13 : decode prog_5_method_16_code 13 = .ok (.aload_n 0, 1) := by decide +kernel
theorem dX3_carry_14 : decode prog_5_method_16_code 14 = .ok (.getfield 18, 3) := by decide +kernel
theorem dX3_carry_17 : decode prog_5_method_16_code 17 = .ok (.iload_n 3, 1) := by decide +kernel
theorem dX3_carry_18 : decode prog_5_method_16_code 18 = .ok (.iaload, 1) := by decide +kernel
theorem dX3_carry_19 : decode prog_5_method_16_code 19 = .ok (.aload_n 0, 1) := by decide +kernel
theorem dX3_carry_20 : decode prog_5_method_16_code 20 = .ok (.getfield 22, 3) := by decide +kernel
theorem dX3_carry_23 : decode prog_5_method_16_code 23 = .ok (.iload_n 3, 1) := by decide +kernel
theorem dX3_carry_24 : decode prog_5_method_16_code 24 = .ok (.iaload, 1) := by decide +kernel
theorem dX3_carry_25 : decode prog_5_method_16_code 25 = .ok (.invokestatic 64, 3) := by decide +kernel
theorem dX3_carry_28 : decode prog_5_method_16_code 28 = .ok (.istore_n 2, 1) := by decide +kernel
theorem dX3_carry_29 : decode prog_5_method_16_code 29 = .ok (.iinc 3 1, 3) := by decide +kernel
theorem dX3_carry_32 : decode prog_5_method_16_code 32 = .ok (.goto (-28), 3) := by decide +kernel
theorem dX3_carry_35 : decode prog_5_method_16_code 35 = .ok (.iload_n 2, 1) := by decide +kernel
theorem dX3_carry_36 : decode prog_5_method_16_code 36 = .ok (.ireturn, 1) := by decide +kernel
theorem sX3_carry_4 {Q : Int → Hp → Prop} {h : Hp} {a0 l2 l3 : Int}
    (hP : (nA a0) ∧
    ((l3 ≥ (h a0 1)) →
     Q l2 h) ∧
    ((l3 < (h a0 1)) →
     (nA a0 ∧ ix l3 40) ∧
     (∀ x4 : Int, x4 = (if (j_iand (j_ishr l2 (h (a0 + 1) l3)) 1) ≤ (j_iand (j_ishr l2 (h (a0 + 2) l3)) 1) then l2 else (j_ixor l2 (j_ior (j_ishl 1 (h (a0 + 1) l3)) (j_ishl 1 (h (a0 + 2) l3))))) →
     (rj (l3 + 1)) ∧
     E 1 mX3_carry 4 [(0, vr a0), (2, vi x4), (3, vi (l3 + 1))] [] h (qi Q)))) :
    E 1 mX3_carry 4 [(0, vr a0), (2, vi l2), (3, vi l3)] [] h (qi Q) := by
  obtain ⟨v1_0, hP⟩ := hP
  refine E_iload_n 2 3 dX3_carry_4 rfl rfl ?_
  refine E_aload_n 0 0 dX3_carry_5 rfl rfl ?_
  refine E_gI 1 1 dX3_carry_6 FX3_15 (icN0 v1_0) rfl ?_
  refine E_icmp_ge 35 dX3_carry_9 rfl (fun hc => ?_) (fun hc => ?_)
  · replace hP := hP.1 (hc)
    refine E_iload_n 1 2 dX3_carry_35 rfl rfl ?_
    exact E_retI dX3_carry_36 rfl hP
  · replace hP := hP.2 (by omega)
    obtain ⟨⟨v3_0, v3_1⟩, hP⟩ := hP
    refine E_iload_n 1 2 dX3_carry_12 rfl rfl ?_
    refine E_aload_n 0 0 dX3_carry_13 rfl rfl ?_
    refine E_gR (a0 + 1) 2 dX3_carry_14 FX3_18 (icN0 v3_0) (rfN2 v3_0) ?_
    refine E_iload_n 2 3 dX3_carry_17 rfl rfl ?_
    refine E_iaload dX3_carry_18 (icN1 v3_0) v3_1.1 v3_1.2 ?_
    refine E_aload_n 0 0 dX3_carry_19 rfl rfl ?_
    refine E_gR (a0 + 2) 3 dX3_carry_20 FX3_22 (icN0 v3_0) (rfN3 v3_0) ?_
    refine E_iload_n 2 3 dX3_carry_23 rfl rfl ?_
    refine E_iaload dX3_carry_24 (icN2 v3_0) v3_1.1 v3_1.2 ?_
    refine E_invNI [vi l2, vi (h (a0 + 1) l3), vi (h (a0 + 2) l3)] dX3_carry_25 fX10_exchanged nX3_64 (by decide) rfl rfl (Nat.le_of_ble_eq_true rfl) (sX10_exchanged (h := h) (l0 := l2) (l1 := (h (a0 + 1) l3)) (l2 := (h (a0 + 2) l3)) ?_)
    obtain ⟨x4, hx4⟩ : ∃ x : Int, x = (if (j_iand (j_ishr l2 (h (a0 + 1) l3)) 1) ≤ (j_iand (j_ishr l2 (h (a0 + 2) l3)) 1) then l2 else (j_ixor l2 (j_ior (j_ishl 1 (h (a0 + 1) l3)) (j_ishl 1 (h (a0 + 2) l3))))) := ⟨_, rfl⟩
    refine E_top hx4.symm ?_
    replace hP := hP x4 hx4
    refine E_istore_n dX3_carry_28 rfl (by decide) rfl ?_
    obtain ⟨v5_0, hP⟩ := hP
    refine E_iinc 2 dX3_carry_29 rfl (rgI v5_0) (by decide) rfl ?_
    refine E_goto 4 dX3_carry_32 rfl ?_
    exact E_sub [2, 1, 0] rfl hP
theorem sX3_carry {Q : Int → Hp → Prop} {h : Hp} {a0 l1 : Int}
    (hP : E 1 mX3_carry 4 [(0, vr a0), (2, vi l1), (3, vi 0)] [] h (qi Q)) :
    CI 1 mX3_carry [vr a0, vi l1] h Q := by
  refine CI_of_E fX3_carry.1 rfl (Nat.le_of_ble_eq_true rfl) ?_
  show E 1 mX3_carry 0 [(0, vr a0), (1, vi l1)] [] h (qi Q)
  refine E_iload_n 1 1 dX3_carry_0 rfl rfl ?_
  refine E_istore_n dX3_carry_1 rfl (by decide) rfl ?_
  refine E_iconst dX3_carry_2 (rg_of rfl) ?_
  refine E_istore_n dX3_carry_3 rfl (by decide) rfl ?_
  exact E_sub [2, 1, 0] rfl hP
theorem dX3_swapped_0 : decode prog_5_method_20_code 0 = .ok (.iload_n 0, 1) := by decide +kernel
theorem dX3_swapped_1 : decode prog_5_method_20_code 1 = .ok (.iload_n 1, 1) := by decide +kernel
theorem dX3_swapped_2 : decode prog_5_method_20_code 2 = .ok (.if_icmp .ne 5, 3) := by decide +kernel
theorem dX3_swapped_5 : decode prog_5_method_20_code 5 = .ok (.iload_n 2, 1) := by decide +kernel
theorem dX3_swapped_6 : decode prog_5_method_20_code 6 = .ok (.ireturn, 1) := by decide +kernel
theorem dX3_swapped_7 : decode prog_5_method_20_code 7 = .ok (.iload_n 0, 1) := by decide +kernel
theorem dX3_swapped_8 : decode prog_5_method_20_code 8 = .ok (.iload_n 2, 1) := by decide +kernel
theorem dX3_swapped_9 : decode prog_5_method_20_code 9 = .ok (.if_icmp .ne 7, 3) := by decide +kernel
theorem dX3_swapped_12 : decode prog_5_method_20_code 12 = .ok (.iload_n 1, 1) := by decide +kernel
theorem dX3_swapped_13 : decode prog_5_method_20_code 13 = .ok (.goto 4, 3) := by decide +kernel
theorem dX3_swapped_16 : decode prog_5_method_20_code 16 = .ok (.iload_n 0, 1) := by decide +kernel
theorem dX3_swapped_17 : decode prog_5_method_20_code 17 = .ok (.ireturn, 1) := by decide +kernel
theorem sX3_swapped {Q : Int → Hp → Prop} {h : Hp} {l0 l1 l2 : Int}
    (hP : ((l0 ≠ l1) →
     Q (if l0 ≠ l2 then l0 else l1) h) ∧
    ((l0 = l1) →
     Q l2 h)) :
    CI 0 mX3_swapped [vi l0, vi l1, vi l2] h Q := by
  refine CI_of_E fX3_swapped.1 rfl (Nat.le_of_ble_eq_true rfl) ?_
  show E 0 mX3_swapped 0 [(0, vi l0), (1, vi l1), (2, vi l2)] [] h (qi Q)
  refine E_iload_n 0 0 dX3_swapped_0 rfl rfl ?_
  refine E_iload_n 1 1 dX3_swapped_1 rfl rfl ?_
  refine E_icmp_ne 7 dX3_swapped_2 rfl (fun hc => ?_) (fun hc => ?_)
  · replace hP := hP.1 (hc)
    refine E_iload_n 0 0 dX3_swapped_7 rfl rfl ?_
    refine E_iload_n 2 2 dX3_swapped_8 rfl rfl ?_
    have hJ : E 0 mX3_swapped 17 [(0, vi l0), (1, vi l1), (2, vi l2)] [vi (if l0 ≠ l2 then l0 else l1)] h (qi Q) := by
      exact E_retI dX3_swapped_17 rfl hP
    refine E_icmp_ne 16 dX3_swapped_9 rfl (fun hc => ?_) (fun hc => ?_)
    · have hp9 := (hc : l0 ≠ l2)
      refine E_iload_n 0 0 dX3_swapped_16 rfl rfl ?_
      exact E_top (by first | exact (if_pos (by omega)).symm | exact (if_neg (by omega)).symm | (repeat first | rw [if_pos (by omega)] | rw [if_neg (by omega)])) hJ
    · have hp9 := (by omega : l0 = l2)
      refine E_iload_n 1 1 dX3_swapped_12 rfl rfl ?_
      refine E_goto 17 dX3_swapped_13 rfl ?_
      exact E_top (by first | exact (if_pos (by omega)).symm | exact (if_neg (by omega)).symm | (repeat first | rw [if_pos (by omega)] | rw [if_neg (by omega)])) hJ
  · replace hP := hP.2 (by omega)
    refine E_iload_n 2 2 dX3_swapped_5 rfl rfl ?_
    exact E_retI dX3_swapped_6 rfl hP
