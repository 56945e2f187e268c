theorem dX10_standardize_0 : decode prog_1_method_31_code 0 = .ok (.iload_n 1, 1) := by decide +kernel
theorem dX10_standardize_1 : decode prog_1_method_31_code 1 = .ok (.invokestatic 90, 3) := by decide +kernel
theorem dX10_standardize_4 : decode prog_1_method_31_code 4 = .ok (.ifCond .ne 5, 3) := by decide +kernel
theorem dX10_standardize_7 : decode prog_1_method_31_code 7 = .ok (.iconst (-1), 1) := by decide +kernel
theorem dX10_standardize_8 : decode prog_1_method_31_code 8 = .ok (.ireturn, 1) := by decide +kernel
theorem dX10_standardize_9 : decode prog_1_method_31_code 9 = .ok (.aload_n 0, 1) := by decide +kernel
theorem dX10_standardize_10 : decode prog_1_method_31_code 10 = .ok (.iload_n 1, 1) := by decide +kernel
theorem dX10_standardize_11 : decode prog_1_method_31_code 11 = .ok (.invokevirtual 97, 3) := by decide +kernel
theorem dX10_standardize_14 : decode prog_1_method_31_code 14 = .ok (.aload_n 0, 1) := by decide +kernel
theorem dX10_standardize_15 : decode prog_1_method_31_code 15 = .ok (.getfield 11, 3) := by decide +kernel
theorem dX10_standardize_18 : decode prog_1_method_31_code 18 = .ok (.iload_n 1, 1) := by decide +kernel
theorem dX10_standardize_19 : decode prog_1_method_31_code 19 = .ok (.aaload, 1) := by decide +kernel
theorem dX10_standardize_20 : decode prog_1_method_31_code 20 = .ok (.invokevirtual 238, 3) := by decide +kernel
theorem dX10_standardize_23 : decode prog_1_method_31_code 23 = .ok (.ireturn, 1) := by decide +kernel
theorem sX10_standardize {Q : Int → Hp → Prop} {h : Hp} {l1 : Int}
    (hP : ((l1 ≥ 0 ∧ l1 < 4) →
     CV 5 mX10_remember [vr 68, vi l1] h (fun h3 =>
      (ix l1 4 ∧ nA (4 * l1)) ∧
      CI 2 mX3_turnAll [vr (4 * l1)] h3 (fun r6 h5 =>
       Q r6 h5))) ∧
    ((l1 < 0 ∨ l1 ≥ 4) →
     Q (-1) h)) :
    CI 6 mX10_standardize [vr 68, vi l1] h Q := by
  refine CI_of_E fX10_standardize.1 rfl (Nat.le_of_ble_eq_true rfl) ?_
  show E 6 mX10_standardize 0 [(0, vr 68), (1, vi l1)] [] h (qi Q)
  refine E_iload_n 1 1 dX10_standardize_0 rfl rfl ?_
  refine E_invSI [vi l1] dX10_standardize_1 fX10_isNetwork lX10_90 (by decide) rfl rfl (Nat.le_of_ble_eq_true rfl) (sX10_isNetwork (h := h) (l0 := l1) ?_)
  refine E_if_ne 9 dX10_standardize_4 rfl (fun hc => ?_) (fun hc => ?_)
  · replace hP := hP.1 (by have := ite1' hc; omega)
    refine E_aload_n 0 0 dX10_standardize_9 rfl rfl ?_
    refine E_iload_n 1 1 dX10_standardize_10 rfl rfl ?_
    refine E_invVV [vi l1] dX10_standardize_11 fX10_remember lX10_97 ic_68 rfl (by decide) rfl rfl (Nat.le_of_ble_eq_true rfl) (CV_mono hP (fun h3 hP => ?_))
    obtain ⟨⟨v4_0, v4_1⟩, hP⟩ := hP
    refine E_aload_n 0 0 dX10_standardize_14 rfl rfl ?_
    refine E_gR 69 0 dX10_standardize_15 FX10_11 ic_68 (by decide) ?_
    refine E_iload_n 1 1 dX10_standardize_18 rfl rfl ?_
    refine E_aaloadN dX10_standardize_19 ic_69 v4_0.1 v4_0.2 (rf_nets ⟨v4_0.1, v4_0.2⟩) ?_
    refine E_invVI [] dX10_standardize_20 fX3_turnAll lX10_238 (icN0 v4_1) rfl (by decide) rfl rfl (Nat.le_of_ble_eq_true rfl) (CI_mono hP (fun r6 h5 hP => ?_))
    exact E_retI dX10_standardize_23 rfl hP
  · replace hP := hP.2 (by have := ite0 hc; omega)
    refine E_iconst dX10_standardize_7 (rg_of rfl) ?_
    exact E_retI dX10_standardize_8 rfl hP
theorem dX10_mirror_0 : decode prog_1_method_32_code 0 = .ok (.iload_n 1, 1) := by decide +kernel
theorem dX10_mirror_1 : decode prog_1_method_32_code 1 = .ok (.invokestatic 90, 3) := by decide +kernel
theorem dX10_mirror_4 : decode prog_1_method_32_code 4 = .ok (.ifCond .ne 5, 3) := by decide +kernel
theorem dX10_mirror_7 : decode prog_1_method_32_code 7 = .ok (.iconst (-1), 1) := by decide +kernel
theorem dX10_mirror_8 : decode prog_1_method_32_code 8 = .ok (.ireturn, 1) := by decide +kernel
theorem dX10_mirror_9 : decode prog_1_method_32_code 9 = .ok (.aload_n 0, 1) := by decide +kernel
theorem dX10_mirror_10 : decode prog_1_method_32_code 10 = .ok (.iload_n 1, 1) := by decide +kernel
theorem dX10_mirror_11 : decode prog_1_method_32_code 11 = .ok (.invokevirtual 97, 3) := by decide +kernel
theorem dX10_mirror_14 : decode prog_1_method_32_code 14 = .ok (.aload_n 0, 1) := by decide +kernel
theorem dX10_mirror_15 : decode prog_1_method_32_code 15 = .ok (.getfield 11, 3) := by decide +kernel
theorem dX10_mirror_18 : decode prog_1_method_32_code 18 = .ok (.iload_n 1, 1) := by decide +kernel
theorem dX10_mirror_19 : decode prog_1_method_32_code 19 = .ok (.aaload, 1) := by decide +kernel
theorem dX10_mirror_20 : decode prog_1_method_32_code 20 = .ok (.invokevirtual 241, 3) := by decide +kernel
theorem dX10_mirror_23 : decode prog_1_method_32_code 23 = .ok (.aload_n 0, 1) := by decide +kernel
theorem dX10_mirror_24 : decode prog_1_method_32_code 24 = .ok (.getfield 11, 3) := by decide +kernel
theorem dX10_mirror_27 : decode prog_1_method_32_code 27 = .ok (.iload_n 1, 1) := by decide +kernel
theorem dX10_mirror_28 : decode prog_1_method_32_code 28 = .ok (.aaload, 1) := by decide +kernel
theorem dX10_mirror_29 : decode prog_1_method_32_code 29 = .ok (.getfield 101, 3) := by decide +kernel
theorem dX10_mirror_32 : decode prog_1_method_32_code 32 = .ok (.ireturn, 1) := by decide +kernel
theorem sX10_mirror {Q : Int → Hp → Prop} {h : Hp} {l1 : Int}
    (hP : ((l1 ≥ 0 ∧ l1 < 4) →
     CV 5 mX10_remember [vr 68, vi l1] h (fun h3 =>
      (ix l1 4 ∧ nA (4 * l1)) ∧
      CV 0 mX3_reflect [vr (4 * l1)] h3 (fun h5 =>
       (ix l1 4 ∧ nA (4 * l1)) ∧
       Q (h5 (4 * l1) 1) h5))) ∧
    ((l1 < 0 ∨ l1 ≥ 4) →
     Q (-1) h)) :
    CI 6 mX10_mirror [vr 68, vi l1] h Q := by
  refine CI_of_E fX10_mirror.1 rfl (Nat.le_of_ble_eq_true rfl) ?_
  show E 6 mX10_mirror 0 [(0, vr 68), (1, vi l1)] [] h (qi Q)
  refine E_iload_n 1 1 dX10_mirror_0 rfl rfl ?_
  refine E_invSI [vi l1] dX10_mirror_1 fX10_isNetwork lX10_90 (by decide) rfl rfl (Nat.le_of_ble_eq_true rfl) (sX10_isNetwork (h := h) (l0 := l1) ?_)
  refine E_if_ne 9 dX10_mirror_4 rfl (fun hc => ?_) (fun hc => ?_)
  · replace hP := hP.1 (by have := ite1' hc; omega)
    refine E_aload_n 0 0 dX10_mirror_9 rfl rfl ?_
    refine E_iload_n 1 1 dX10_mirror_10 rfl rfl ?_
    refine E_invVV [vi l1] dX10_mirror_11 fX10_remember lX10_97 ic_68 rfl (by decide) rfl rfl (Nat.le_of_ble_eq_true rfl) (CV_mono hP (fun h3 hP => ?_))
    obtain ⟨⟨v4_0, v4_1⟩, hP⟩ := hP
    refine E_aload_n 0 0 dX10_mirror_14 rfl rfl ?_
    refine E_gR 69 0 dX10_mirror_15 FX10_11 ic_68 (by decide) ?_
    refine E_iload_n 1 1 dX10_mirror_18 rfl rfl ?_
    refine E_aaloadN dX10_mirror_19 ic_69 v4_0.1 v4_0.2 (rf_nets ⟨v4_0.1, v4_0.2⟩) ?_
    refine E_invVV [] dX10_mirror_20 fX3_reflect lX10_241 (icN0 v4_1) rfl (by decide) rfl rfl (Nat.le_of_ble_eq_true rfl) (CV_mono hP (fun h5 hP => ?_))
    obtain ⟨⟨v6_0, v6_1⟩, hP⟩ := hP
    refine E_aload_n 0 0 dX10_mirror_23 rfl rfl ?_
    refine E_gR 69 0 dX10_mirror_24 FX10_11 ic_68 (by decide) ?_
    refine E_iload_n 1 1 dX10_mirror_27 rfl rfl ?_
    refine E_aaloadN dX10_mirror_28 ic_69 v6_0.1 v6_0.2 (rf_nets ⟨v6_0.1, v6_0.2⟩) ?_
    refine E_gI 1 1 dX10_mirror_29 FX10_101 (icN0 v6_1) rfl ?_
    exact E_retI dX10_mirror_32 rfl hP
  · replace hP := hP.2 (by have := ite0 hc; omega)
    refine E_iconst dX10_mirror_7 (rg_of rfl) ?_
    exact E_retI dX10_mirror_8 rfl hP
theorem dX10_candidate_0 : decode prog_1_method_33_code 0 = .ok (.iload_n 1, 1) := by decide +kernel
theorem dX10_candidate_1 : decode prog_1_method_33_code 1 = .ok (.invokestatic 90, 3) := by decide +kernel
theorem dX10_candidate_4 : decode prog_1_method_33_code 4 = .ok (.ifCond .ne 5, 3) := by decide +kernel
theorem dX10_candidate_7 : decode prog_1_method_33_code 7 = .ok (.iconst (-1), 1) := by decide +kernel
theorem dX10_candidate_8 : decode prog_1_method_33_code 8 = .ok (.ireturn, 1) := by decide +kernel
theorem dX10_candidate_9 : decode prog_1_method_33_code 9 = .ok (.aload_n 0, 1) := by decide +kernel
theorem dX10_candidate_10 : decode prog_1_method_33_code 10 = .ok (.getfield 11, 3) := by decide +kernel
theorem dX10_candidate_13 : decode prog_1_method_33_code 13 = .ok (.iload_n 1, 1) := by decide +kernel
theorem dX10_candidate_14 : decode prog_1_method_33_code 14 = .ok (.aaload, 1) := by decide +kernel
theorem dX10_candidate_15 : decode prog_1_method_33_code 15 = .ok (.getfield 108, 3) := by decide +kernel
theorem dX10_candidate_18 : decode prog_1_method_33_code 18 = .ok (.istore 4, 2) := by decide +kernel
theorem dX10_candidate_20 : decode prog_1_method_33_code 20 = .ok (.iload_n 2, 1) := by decide +kernel
theorem dX10_candidate_21 : decode prog_1_method_33_code 21 = .ok (.ifCond .lt 25, 3) := by decide +kernel
theorem dX10_candidate_24 : decode prog_1_method_33_code 24 = .ok (.iload_n 2, 1) := by decide +kernel
theorem dX10_candidate_25 : decode prog_1_method_33_code 25 = .ok (.iload 4, 2) := by decide +kernel
theorem dX10_candidate_27 : decode prog_1_method_33_code 27 = .ok (.iload 4, 2) := by decide +kernel
theorem dX10_candidate_29 : decode prog_1_method_33_code 29 = .ok (.iconst 1, 1) := by decide +kernel
theorem dX10_candidate_30 : decode prog_1_method_33_code 30 = .ok (.isub, 1) := by decide +kernel
theorem dX10_candidate_31 : decode prog_1_method_33_code 31 = .ok (.imul, 1) := by decide +kernel
theorem dX10_candidate_32 : decode prog_1_method_33_code 32 = .ok (.iconst 2, 1) := by decide +kernel
theorem dX10_candidate_33 : decode prog_1_method_33_code 33 = .ok (.idiv, 1) := by decide +kernel
theorem dX10_candidate_34 : decode prog_1_method_33_code 34 = .ok (.if_icmp .ge 12, 3) := by decide +kernel
theorem dX10_candidate_37 : decode prog_1_method_33_code 37 = .ok (.iload_n 3, 1) := by decide +kernel
theorem dX10_candidate_38 : decode prog_1_method_33_code 38 = .ok (.ifCond .lt 8, 3) := by decide +kernel
theorem dX10_candidate_41 : decode prog_1_method_33_code 41 = .ok (.iload_n 3, 1) := by decide +kernel
theorem dX10_candidate_42 : decode prog_1_method_33_code 42 = .ok (.iconst 1, 1) := by decide +kernel
theorem dX10_candidate_43 : decode prog_1_method_33_code 43 = .ok (.if_icmp .le 6, 3) := by decide +kernel
theorem dX10_candidate_46 : decode prog_1_method_33_code 46 = .ok (.bipush (-2), 2) := by decide +kernel
theorem dX10_candidate_48 : decode prog_1_method_33_code 48 = .ok (.ireturn, 1) := by decide +kernel
theorem dX10_candidate_49 : decode prog_1_method_33_code 49 = .ok (.aload_n 0, 1) := by decide +kernel
theorem dX10_candidate_50 : decode prog_1_method_33_code 50 = .ok (.aload_n 0, 1) := by decide +kernel
theorem dX10_candidate_51 : decode prog_1_method_33_code 51 = .ok (.getfield 11, 3) := by decide +kernel
theorem dX10_candidate_54 : decode prog_1_method_33_code 54 = .ok (.iload_n 1, 1) := by decide +kernel
theorem dX10_candidate_55 : decode prog_1_method_33_code 55 = .ok (.aaload, 1) := by decide +kernel
theorem dX10_candidate_56 : decode prog_1_method_33_code 56 = .ok (.aload_n 0, 1) := by decide +kernel
theorem dX10_candidate_57 : decode prog_1_method_33_code 57 = .ok (.getfield 62, 3) := by decide +kernel
theorem dX10_candidate_60 : decode prog_1_method_33_code 60 = .ok (.invokevirtual 171, 3) := by decide +kernel
theorem dX10_candidate_63 : decode prog_1_method_33_code 63 = .ok (.aload_n 0, 1) := by decide +kernel
theorem dX10_candidate_64 : decode prog_1_method_33_code 64 = .ok (.getfield 72, 3) := by decide +kernel
theorem dX10_candidate_67 : decode prog_1_method_33_code 67 = .ok (.aload_n 0, 1) := by decide +kernel
theorem dX10_candidate_68 : decode prog_1_method_33_code 68 = .ok (.getfield 62, 3) := by decide +kernel
theorem dX10_candidate_71 : decode prog_1_method_33_code 71 = .ok (.invokevirtual 244, 3) := by decide +kernel
theorem dX10_candidate_74 : decode prog_1_method_33_code 74 = .ok (.iload_n 3, 1) := by decide +kernel
theorem dX10_candidate_75 : decode prog_1_method_33_code 75 = .ok (.ifCond .ne 14, 3) := by decide +kernel
theorem dX10_candidate_78 : decode prog_1_method_33_code 78 = .ok (.aload_n 0, 1) := by decide +kernel
theorem dX10_candidate_79 : decode prog_1_method_33_code 79 = .ok (.getfield 72, 3) := by decide +kernel
theorem dX10_candidate_82 : decode prog_1_method_33_code 82 = .ok (.iload_n 2, 1) := by decide +kernel
theorem dX10_candidate_83 : decode prog_1_method_33_code 83 = .ok (.invokevirtual 248, 3) := by decide +kernel
theorem dX10_candidate_86 : decode prog_1_method_33_code 86 = .ok (.goto 11, 3) := by decide +kernel
theorem dX10_candidate_89 : decode prog_1_method_33_code 89 = .ok (.aload_n 0, 1) := by decide +kernel
theorem dX10_candidate_90 : decode prog_1_method_33_code 90 = .ok (.getfield 72, 3) := by decide +kernel
theorem dX10_candidate_93 : decode prog_1_method_33_code 93 = .ok (.iload_n 2, 1) := by decide +kernel
theorem dX10_candidate_94 : decode prog_1_method_33_code 94 = .ok (.invokevirtual 249, 3) := by decide +kernel
theorem dX10_candidate_97 : decode prog_1_method_33_code 97 = .ok (.ireturn, 1) := by decide +kernel
theorem sX10_candidate {Q : Int → Hp → Prop} {h : Hp} {l1 l2 l3 : Int}
    (hP : ((l1 ≥ 0 ∧ l1 < 4) →
     (ix l1 4 ∧ nA (4 * l1)) ∧
     ((l2 < 0) →
      Q (-2) h) ∧
     ((l2 ≥ 0) →
      (rj ((h (4 * l1) 0) - 1) ∧ rj ((h (4 * l1) 0) * ((h (4 * l1) 0) - 1))) ∧
      ((l2 ≥ (j_idiv ((h (4 * l1) 0) * ((h (4 * l1) 0) - 1)) 2)) →
       Q (-2) h) ∧
      ((l2 < (j_idiv ((h (4 * l1) 0) * ((h (4 * l1) 0) - 1)) 2)) →
       ((l3 < 0) →
        Q (-2) h) ∧
       ((l3 ≥ 0) →
        ((l3 ≤ 1) →
         (ix l1 4) ∧
         CV 3 mX10_gatherOutputs [vr 68, vr (4 * l1), vr 85] h (fun h10 =>
          CV 2 mX1_rankAll [vr 91, vr 85] h10 (fun h12 =>
           (((l3 ≠ 0) → ((l2 ≥ 0 ∧ l2 < (h12 91 3)) → (ix l2 28))) ∧ ((l3 = 0) → ((l2 ≥ 0 ∧ l2 < (h12 91 3)) → (ix l2 28))) ∧ ((l3 = 0) → ((l2 ≥ 0 ∧ l2 < (h12 91 3)) → (rj (10 * (h12 92 l2))))) ∧ ((l3 = 0) → ((l2 ≥ 0 ∧ l2 < (h12 91 3)) → (rj ((10 * (h12 92 l2)) + (h12 93 l2)))))) ∧
           Q (if l3 ≠ 0 then (if l2 < 0 then (-2) else (if l2 ≥ (h12 91 3) then (-2) else (h12 94 l2))) else (if l2 < 0 then (-2) else (if l2 ≥ (h12 91 3) then (-2) else ((10 * (h12 92 l2)) + (h12 93 l2))))) h12))) ∧
        ((l3 > 1) →
         Q (-2) h))))) ∧
    ((l1 < 0 ∨ l1 ≥ 4) →
     Q (-1) h)) :
    CI 4 mX10_candidate [vr 68, vi l1, vi l2, vi l3] h Q := by
  refine CI_of_E fX10_candidate.1 rfl (Nat.le_of_ble_eq_true rfl) ?_
  show E 4 mX10_candidate 0 [(0, vr 68), (1, vi l1), (2, vi l2), (3, vi l3)] [] h (qi Q)
  refine E_iload_n 1 1 dX10_candidate_0 rfl rfl ?_
  refine E_invSI [vi l1] dX10_candidate_1 fX10_isNetwork lX10_90 (by decide) rfl rfl (Nat.le_of_ble_eq_true rfl) (sX10_isNetwork (h := h) (l0 := l1) ?_)
  refine E_if_ne 9 dX10_candidate_4 rfl (fun hc => ?_) (fun hc => ?_)
  · replace hP := hP.1 (by have := ite1' hc; omega)
    obtain ⟨⟨v2_0, v2_1⟩, hP⟩ := hP
    refine E_aload_n 0 0 dX10_candidate_9 rfl rfl ?_
    refine E_gR 69 0 dX10_candidate_10 FX10_11 ic_68 (by decide) ?_
    refine E_iload_n 1 1 dX10_candidate_13 rfl rfl ?_
    refine E_aaloadN dX10_candidate_14 ic_69 v2_0.1 v2_0.2 (rf_nets ⟨v2_0.1, v2_0.2⟩) ?_
    refine E_gI 0 0 dX10_candidate_15 FX10_108 (icN0 v2_1) rfl ?_
    refine E_istore dX10_candidate_18 (by decide) rfl ?_
    refine E_iload_n 3 2 dX10_candidate_20 rfl rfl ?_
    refine E_if_lt 46 dX10_candidate_21 rfl (fun hc => ?_) (fun hc => ?_)
    · replace hP := hP.1 (hc)
      refine E_bipush dX10_candidate_46 (by decide) ?_
      exact E_retI dX10_candidate_48 rfl hP
    · replace hP := hP.2 (by omega)
      obtain ⟨⟨v4_0, v4_1⟩, hP⟩ := hP
      refine E_iload_n 3 2 dX10_candidate_24 rfl rfl ?_
      refine E_iload 0 dX10_candidate_25 rfl ?_
      refine E_iload 0 dX10_candidate_27 rfl ?_
      refine E_iconst dX10_candidate_29 (rg_of rfl) ?_
      refine E_isub dX10_candidate_30 (rgI v4_0) ?_
      refine E_imul dX10_candidate_31 (rgI v4_1) ?_
      refine E_iconst dX10_candidate_32 (rg_of rfl) ?_
      refine E_idiv dX10_candidate_33 (by decide) ?_
      refine E_icmp_ge 46 dX10_candidate_34 rfl (fun hc => ?_) (fun hc => ?_)
      · replace hP := hP.1 (hc)
        refine E_bipush dX10_candidate_46 (by decide) ?_
        exact E_retI dX10_candidate_48 rfl hP
      · replace hP := hP.2 (by omega)
        refine E_iload_n 4 3 dX10_candidate_37 rfl rfl ?_
        refine E_if_lt 46 dX10_candidate_38 rfl (fun hc => ?_) (fun hc => ?_)
        · replace hP := hP.1 (hc)
          refine E_bipush dX10_candidate_46 (by decide) ?_
          exact E_retI dX10_candidate_48 rfl hP
        · replace hP := hP.2 (by omega)
          refine E_iload_n 4 3 dX10_candidate_41 rfl rfl ?_
          refine E_iconst dX10_candidate_42 (rg_of rfl) ?_
          refine E_icmp_le 49 dX10_candidate_43 rfl (fun hc => ?_) (fun hc => ?_)
          · replace hP := hP.1 (hc)
            obtain ⟨v9_0, hP⟩ := hP
            refine E_aload_n 1 0 dX10_candidate_49 rfl rfl ?_
            refine E_aload_n 1 0 dX10_candidate_50 rfl rfl ?_
            refine E_gR 69 0 dX10_candidate_51 FX10_11 ic_68 (by decide) ?_
            refine E_iload_n 2 1 dX10_candidate_54 rfl rfl ?_
            refine E_aaloadN dX10_candidate_55 ic_69 v9_0.1 v9_0.2 (rf_nets ⟨v9_0.1, v9_0.2⟩) ?_
            refine E_aload_n 1 0 dX10_candidate_56 rfl rfl ?_
            refine E_gR 85 8 dX10_candidate_57 FX10_62 ic_68 (by decide) ?_
            refine E_invVV [vr (4 * l1), vr 85] dX10_candidate_60 fX10_gatherOutputs lX10_171 ic_68 rfl (by decide) rfl rfl (Nat.le_of_ble_eq_true rfl) (CV_mono hP (fun h10 hP => ?_))
            refine E_aload_n 1 0 dX10_candidate_63 rfl rfl ?_
            refine E_gR 91 10 dX10_candidate_64 FX10_72 ic_68 (by decide) ?_
            refine E_aload_n 1 0 dX10_candidate_67 rfl rfl ?_
            refine E_gR 85 8 dX10_candidate_68 FX10_62 ic_68 (by decide) ?_
            refine E_invVV [vr 85] dX10_candidate_71 fX1_rankAll lX10_244 ic_91 rfl (by decide) rfl rfl (Nat.le_of_ble_eq_true rfl) (CV_mono hP (fun h12 hP => ?_))
            obtain ⟨⟨v13_0, v13_1, v13_2, v13_3⟩, hP⟩ := hP
            refine E_iload_n 4 3 dX10_candidate_74 rfl rfl ?_
            have hJ : E 4 mX10_candidate 97 [(4, vi (h (4 * l1) 0)), (0, vr 68), (1, vi l1), (2, vi l2), (3, vi l3)] [vi (if l3 ≠ 0 then (if l2 < 0 then (-2) else (if l2 ≥ (h12 91 3) then (-2) else (h12 94 l2))) else (if l2 < 0 then (-2) else (if l2 ≥ (h12 91 3) then (-2) else ((10 * (h12 92 l2)) + (h12 93 l2)))))] h12 (qi Q) := by
              exact E_retI dX10_candidate_97 rfl hP
            refine E_if_ne 89 dX10_candidate_75 rfl (fun hc => ?_) (fun hc => ?_)
            · have hp75 := (hc : l3 ≠ 0)
              refine E_aload_n 1 0 dX10_candidate_89 rfl rfl ?_
              refine E_gR 91 10 dX10_candidate_90 FX10_72 ic_68 (by decide) ?_
              refine E_iload_n 3 2 dX10_candidate_93 rfl rfl ?_
              refine E_invVI [vi l2] dX10_candidate_94 fX1_outputsAt lX10_249 ic_91 rfl (by decide) rfl rfl (Nat.le_of_ble_eq_true rfl) (sX1_outputsAt (h := h12) (l1 := l2) ⟨(v13_0 (by omega)), ?_⟩)
              exact E_top (by first | exact (if_pos (by omega)).symm | exact (if_neg (by omega)).symm | (repeat first | rw [if_pos (by omega)] | rw [if_neg (by omega)])) hJ
            · have hp75 := (by omega : l3 = 0)
              refine E_aload_n 1 0 dX10_candidate_78 rfl rfl ?_
              refine E_gR 91 10 dX10_candidate_79 FX10_72 ic_68 (by decide) ?_
              refine E_iload_n 3 2 dX10_candidate_82 rfl rfl ?_
              refine E_invVI [vi l2] dX10_candidate_83 fX1_codeAt lX10_248 ic_91 rfl (by decide) rfl rfl (Nat.le_of_ble_eq_true rfl) (sX1_codeAt (h := h12) (l1 := l2) ⟨⟨(v13_1 (by omega)), (v13_2 (by omega)), (v13_3 (by omega))⟩, ?_⟩)
              refine E_goto 97 dX10_candidate_86 rfl ?_
              exact E_top (by first | exact (if_pos (by omega)).symm | exact (if_neg (by omega)).symm | (repeat first | rw [if_pos (by omega)] | rw [if_neg (by omega)])) hJ
          · replace hP := hP.2 (by omega)
            refine E_bipush dX10_candidate_46 (by decide) ?_
            exact E_retI dX10_candidate_48 rfl hP
  · replace hP := hP.2 (by have := ite0 hc; omega)
    refine E_iconst dX10_candidate_7 (rg_of rfl) ?_
    exact E_retI dX10_candidate_8 rfl hP
theorem dX10_grow_0 : decode prog_1_method_34_code 0 = .ok (.iload_n 1, 1) := by decide +kernel
theorem dX10_grow_1 : decode prog_1_method_34_code 1 = .ok (.invokestatic 90, 3) := by decide +kernel
theorem dX10_grow_4 : decode prog_1_method_34_code 4 = .ok (.ifCond .ne 5, 3) := by decide +kernel
theorem dX10_grow_7 : decode prog_1_method_34_code 7 = .ok (.iconst (-1), 1) := by decide +kernel
theorem dX10_grow_8 : decode prog_1_method_34_code 8 = .ok (.ireturn, 1) := by decide +kernel
theorem dX10_grow_9 : decode prog_1_method_34_code 9 = .ok (.aload_n 0, 1) := by decide +kernel
theorem dX10_grow_10 : decode prog_1_method_34_code 10 = .ok (.getfield 11, 3) := by decide +kernel
theorem dX10_grow_13 : decode prog_1_method_34_code 13 = .ok (.iload_n 1, 1) := by decide +kernel
theorem dX10_grow_14 : decode prog_1_method_34_code 14 = .ok (.aaload, 1) := by decide +kernel
theorem dX10_grow_15 : decode prog_1_method_34_code 15 = .ok (.astore_n 2, 1) := by decide +kernel
theorem dX10_grow_16 : decode prog_1_method_34_code 16 = .ok (.aload_n 0, 1) := by decide +kernel
theorem dX10_grow_17 : decode prog_1_method_34_code 17 = .ok (.aload_n 2, 1) := by decide +kernel
theorem dX10_grow_18 : decode prog_1_method_34_code 18 = .ok (.iconst (-1), 1) := by decide +kernel
theorem dX10_grow_19 : decode prog_1_method_34_code 19 = .ok (.invokevirtual 179, 3) := by decide +kernel
theorem dX10_grow_22 : decode prog_1_method_34_code 22 = .ok (.ifCond .eq 6, 3) := by decide +kernel
theorem dX10_grow_25 : decode prog_1_method_34_code 25 = .ok (.bipush (-5), 2) := by decide +kernel
theorem dX10_grow_27 : decode prog_1_method_34_code 27 = .ok (.ireturn, 1) := by decide +kernel
theorem dX10_grow_28 : decode prog_1_method_34_code 28 = .ok (.aload_n 2, 1) := by decide +kernel
theorem dX10_grow_29 : decode prog_1_method_34_code 29 = .ok (.getfield 101, 3) := by decide +kernel
theorem dX10_grow_32 : decode prog_1_method_34_code 32 = .ok (.bipush 40, 2) := by decide +kernel
theorem dX10_grow_34 : decode prog_1_method_34_code 34 = .ok (.if_icmp .lt 6, 3) := by decide +kernel
theorem dX10_grow_37 : decode prog_1_method_34_code 37 = .ok (.bipush (-3), 2) := by decide +kernel
theorem dX10_grow_39 : decode prog_1_method_34_code 39 = .ok (.ireturn, 1) := by decide +kernel
theorem dX10_grow_40 : decode prog_1_method_34_code 40 = .ok (.aload_n 0, 1) := by decide +kernel
theorem dX10_grow_41 : decode prog_1_method_34_code 41 = .ok (.aload_n 2, 1) := by decide +kernel
theorem dX10_grow_42 : decode prog_1_method_34_code 42 = .ok (.aload_n 0, 1) := by decide +kernel
theorem dX10_grow_43 : decode prog_1_method_34_code 43 = .ok (.getfield 62, 3) := by decide +kernel
theorem dX10_grow_46 : decode prog_1_method_34_code 46 = .ok (.invokevirtual 171, 3) := by decide +kernel
theorem dX10_grow_49 : decode prog_1_method_34_code 49 = .ok (.aload_n 0, 1) := by decide +kernel
theorem dX10_grow_50 : decode prog_1_method_34_code 50 = .ok (.getfield 72, 3) := by decide +kernel
theorem dX10_grow_53 : decode prog_1_method_34_code 53 = .ok (.aload_n 0, 1) := by decide +kernel
theorem dX10_grow_54 : decode prog_1_method_34_code 54 = .ok (.getfield 62, 3) := by decide +kernel
theorem dX10_grow_57 : decode prog_1_method_34_code 57 = .ok (.invokevirtual 244, 3) := by decide +kernel
theorem dX10_grow_60 : decode prog_1_method_34_code 60 = .ok (.aload_n 0, 1) := by decide +kernel
theorem dX10_grow_61 : decode prog_1_method_34_code 61 = .ok (.iload_n 1, 1) := by decide +kernel
theorem dX10_grow_62 : decode prog_1_method_34_code 62 = .ok (.invokevirtual 97, 3) := by decide +kernel
theorem dX10_grow_65 : decode prog_1_method_34_code 65 = .ok (.aload_n 2, 1) := by decide +kernel
theorem dX10_grow_66 : decode prog_1_method_34_code 66 = .ok (.aload_n 0, 1) := by decide +kernel
theorem dX10_grow_67 : decode prog_1_method_34_code 67 = .ok (.getfield 72, 3) := by decide +kernel
theorem dX10_grow_70 : decode prog_1_method_34_code 70 = .ok (.getfield 252, 3) := by decide +kernel
theorem dX10_grow_73 : decode prog_1_method_34_code 73 = .ok (.iconst 0, 1) := by decide +kernel
theorem dX10_grow_74 : decode prog_1_method_34_code 74 = .ok (.iaload, 1) := by decide +kernel
theorem dX10_grow_75 : decode prog_1_method_34_code 75 = .ok (.aload_n 0, 1) := by decide +kernel
theorem dX10_grow_76 : decode prog_1_method_34_code 76 = .ok (.getfield 72, 3) := by decide +kernel
theorem dX10_grow_79 : decode prog_1_method_34_code 79 = .ok (.getfield 255, 3) := by decide +kernel
theorem dX10_grow_82 : decode prog_1_method_34_code 82 = .ok (.iconst 0, 1) := by decide +kernel
theorem dX10_grow_83 : decode prog_1_method_34_code 83 = .ok (.iaload, 1) := by decide +kernel
theorem dX10_grow_84 : decode prog_1_method_34_code 84 = .ok (.invokevirtual 228, 3) := by decide +kernel
theorem dX10_grow_87 : decode prog_1_method_34_code 87 = .ok (.aload_n 0, 1) := by decide +kernel
theorem dX10_grow_88 : decode prog_1_method_34_code 88 = .ok (.getfield 72, 3) := by decide +kernel
theorem dX10_grow_91 : decode prog_1_method_34_code 91 = .ok (.iconst 0, 1) := by decide +kernel
theorem dX10_grow_92 : decode prog_1_method_34_code 92 = .ok (.invokevirtual 249, 3) := by decide +kernel
theorem dX10_grow_95 : decode prog_1_method_34_code 95 = .ok (.ireturn, 1) := by decide +kernel
theorem sX10_grow {Q : Int → Hp → Prop} {h : Hp} {l1 : Int}
    (hP : ((l1 ≥ 0 ∧ l1 < 4) →
     (ix l1 4) ∧
     CI 3 mX10_sorts [vr 68, vr (4 * l1), vi (-1)] h (fun r4 h3 =>
      ((r4 = 0) →
       (nA (4 * l1)) ∧
       (((h3 (4 * l1) 1) < 40) →
        CV 3 mX10_gatherOutputs [vr 68, vr (4 * l1), vr 85] h3 (fun h8 =>
         CV 2 mX1_rankAll [vr 91, vr 85] h8 (fun h10 =>
          CV 5 mX10_remember [vr 68, vi l1] h10 (fun h12 =>
           (ix 0 28 ∧ nA (4 * l1)) ∧
           CV 2 mX3_push [vr (4 * l1), vi (h12 92 0), vi (h12 93 0)] h12 (fun h14 =>
            ((((0 : Int) ≥ 0 ∧ 0 < (h14 91 3)) → (ix 0 28))) ∧
            Q (if 0 < 0 then (-2) else (if 0 ≥ (h14 91 3) then (-2) else (h14 94 0))) h14))))) ∧
       (((h3 (4 * l1) 1) ≥ 40) →
        Q (-3) h3)) ∧
      ((r4 ≠ 0) →
       Q (-5) h3))) ∧
    ((l1 < 0 ∨ l1 ≥ 4) →
     Q (-1) h)) :
    CI 6 mX10_grow [vr 68, vi l1] h Q := by
  refine CI_of_E fX10_grow.1 rfl (Nat.le_of_ble_eq_true rfl) ?_
  show E 6 mX10_grow 0 [(0, vr 68), (1, vi l1)] [] h (qi Q)
  refine E_iload_n 1 1 dX10_grow_0 rfl rfl ?_
  refine E_invSI [vi l1] dX10_grow_1 fX10_isNetwork lX10_90 (by decide) rfl rfl (Nat.le_of_ble_eq_true rfl) (sX10_isNetwork (h := h) (l0 := l1) ?_)
  refine E_if_ne 9 dX10_grow_4 rfl (fun hc => ?_) (fun hc => ?_)
  · replace hP := hP.1 (by have := ite1' hc; omega)
    obtain ⟨v2_0, hP⟩ := hP
    refine E_aload_n 0 0 dX10_grow_9 rfl rfl ?_
    refine E_gR 69 0 dX10_grow_10 FX10_11 ic_68 (by decide) ?_
    refine E_iload_n 1 1 dX10_grow_13 rfl rfl ?_
    refine E_aaloadN dX10_grow_14 ic_69 v2_0.1 v2_0.2 (rf_nets ⟨v2_0.1, v2_0.2⟩) ?_
    refine E_astore_n dX10_grow_15 rfl (by decide) rfl ?_
    refine E_aload_n 1 0 dX10_grow_16 rfl rfl ?_
    refine E_aload_n 0 2 dX10_grow_17 rfl rfl ?_
    refine E_iconst dX10_grow_18 (rg_of rfl) ?_
    refine E_invVI [vr (4 * l1), vi (-1)] dX10_grow_19 fX10_sorts lX10_179 ic_68 rfl (by decide) rfl rfl (Nat.le_of_ble_eq_true rfl) (CI_mono hP (fun r4 h3 hP => ?_))
    refine E_if_eq 28 dX10_grow_22 rfl (fun hc => ?_) (fun hc => ?_)
    · replace hP := hP.1 (hc)
      obtain ⟨v6_0, hP⟩ := hP
      refine E_aload_n 0 2 dX10_grow_28 rfl rfl ?_
      refine E_gI 1 1 dX10_grow_29 FX10_101 (icN0 v6_0) rfl ?_
      refine E_bipush dX10_grow_32 (by decide) ?_
      refine E_icmp_lt 40 dX10_grow_34 rfl (fun hc => ?_) (fun hc => ?_)
      · replace hP := hP.1 (hc)
        refine E_aload_n 1 0 dX10_grow_40 rfl rfl ?_
        refine E_aload_n 0 2 dX10_grow_41 rfl rfl ?_
        refine E_aload_n 1 0 dX10_grow_42 rfl rfl ?_
        refine E_gR 85 8 dX10_grow_43 FX10_62 ic_68 (by decide) ?_
        refine E_invVV [vr (4 * l1), vr 85] dX10_grow_46 fX10_gatherOutputs lX10_171 ic_68 rfl (by decide) rfl rfl (Nat.le_of_ble_eq_true rfl) (CV_mono hP (fun h8 hP => ?_))
        refine E_aload_n 1 0 dX10_grow_49 rfl rfl ?_
        refine E_gR 91 10 dX10_grow_50 FX10_72 ic_68 (by decide) ?_
        refine E_aload_n 1 0 dX10_grow_53 rfl rfl ?_
        refine E_gR 85 8 dX10_grow_54 FX10_62 ic_68 (by decide) ?_
        refine E_invVV [vr 85] dX10_grow_57 fX1_rankAll lX10_244 ic_91 rfl (by decide) rfl rfl (Nat.le_of_ble_eq_true rfl) (CV_mono hP (fun h10 hP => ?_))
        refine E_aload_n 1 0 dX10_grow_60 rfl rfl ?_
        refine E_iload_n 2 1 dX10_grow_61 rfl rfl ?_
        refine E_invVV [vi l1] dX10_grow_62 fX10_remember lX10_97 ic_68 rfl (by decide) rfl rfl (Nat.le_of_ble_eq_true rfl) (CV_mono hP (fun h12 hP => ?_))
        obtain ⟨⟨v13_0, v13_1⟩, hP⟩ := hP
        refine E_aload_n 0 2 dX10_grow_65 rfl rfl ?_
        refine E_aload_n 1 0 dX10_grow_66 rfl rfl ?_
        refine E_gR 91 10 dX10_grow_67 FX10_72 ic_68 (by decide) ?_
        refine E_gR 92 0 dX10_grow_70 FX10_252 ic_91 (by decide) ?_
        refine E_iconst dX10_grow_73 (rg_of rfl) ?_
        refine E_iaload dX10_grow_74 ic_92 v13_0.1 v13_0.2 ?_
        refine E_aload_n 1 0 dX10_grow_75 rfl rfl ?_
        refine E_gR 91 10 dX10_grow_76 FX10_72 ic_68 (by decide) ?_
        refine E_gR 93 1 dX10_grow_79 FX10_255 ic_91 (by decide) ?_
        refine E_iconst dX10_grow_82 (rg_of rfl) ?_
        refine E_iaload dX10_grow_83 ic_93 v13_0.1 v13_0.2 ?_
        refine E_invVV [vi (h12 92 0), vi (h12 93 0)] dX10_grow_84 fX3_push lX10_228 (icN0 v13_1) rfl (by decide) rfl rfl (Nat.le_of_ble_eq_true rfl) (CV_mono hP (fun h14 hP => ?_))
        obtain ⟨v15_0, hP⟩ := hP
        refine E_aload_n 1 0 dX10_grow_87 rfl rfl ?_
        refine E_gR 91 10 dX10_grow_88 FX10_72 ic_68 (by decide) ?_
        refine E_iconst dX10_grow_91 (rg_of rfl) ?_
        refine E_invVI [vi 0] dX10_grow_92 fX1_outputsAt lX10_249 ic_91 rfl (by decide) rfl rfl (Nat.le_of_ble_eq_true rfl) (sX1_outputsAt (h := h14) (l1 := 0) ⟨v15_0, ?_⟩)
        exact E_retI dX10_grow_95 rfl hP
      · replace hP := hP.2 (by omega)
        refine E_bipush dX10_grow_37 (by decide) ?_
        exact E_retI dX10_grow_39 rfl hP
    · replace hP := hP.2 (by omega)
      refine E_bipush dX10_grow_25 (by decide) ?_
      exact E_retI dX10_grow_27 rfl hP
  · replace hP := hP.2 (by have := ite0 hc; omega)
    refine E_iconst dX10_grow_7 (rg_of rfl) ?_
    exact E_retI dX10_grow_8 rfl hP
theorem dX10_missing_0 : decode prog_1_method_35_code 0 = .ok (.iload_n 1, 1) := by decide +kernel
theorem dX10_missing_1 : decode prog_1_method_35_code 1 = .ok (.invokestatic 90, 3) := by decide +kernel
theorem dX10_missing_4 : decode prog_1_method_35_code 4 = .ok (.ifCond .ne 5, 3) := by decide +kernel
theorem dX10_missing_7 : decode prog_1_method_35_code 7 = .ok (.iconst (-1), 1) := by decide +kernel
theorem dX10_missing_8 : decode prog_1_method_35_code 8 = .ok (.ireturn, 1) := by decide +kernel
theorem dX10_missing_9 : decode prog_1_method_35_code 9 = .ok (.iload_n 2, 1) := by decide +kernel
theorem dX10_missing_10 : decode prog_1_method_35_code 10 = .ok (.ifCond .lt 8, 3) := by decide +kernel
theorem dX10_missing_13 : decode prog_1_method_35_code 13 = .ok (.iload_n 2, 1) := by decide +kernel
theorem dX10_missing_14 : decode prog_1_method_35_code 14 = .ok (.iconst 2, 1) := by decide +kernel
theorem dX10_missing_15 : decode prog_1_method_35_code 15 = .ok (.if_icmp .le 6, 3) := by decide +kernel
theorem dX10_missing_18 : decode prog_1_method_35_code 18 = .ok (.bipush (-2), 2) := by decide +kernel
theorem dX10_missing_20 : decode prog_1_method_35_code 20 = .ok (.ireturn, 1) := by decide +kernel
theorem dX10_missing_21 : decode prog_1_method_35_code 21 = .ok (.aload_n 0, 1) := by decide +kernel
theorem dX10_missing_22 : decode prog_1_method_35_code 22 = .ok (.aload_n 0, 1) := by decide +kernel
theorem dX10_missing_23 : decode prog_1_method_35_code 23 = .ok (.getfield 11, 3) := by decide +kernel
theorem dX10_missing_26 : decode prog_1_method_35_code 26 = .ok (.iload_n 1, 1) := by decide +kernel
theorem dX10_missing_27 : decode prog_1_method_35_code 27 = .ok (.aaload, 1) := by decide +kernel
theorem dX10_missing_28 : decode prog_1_method_35_code 28 = .ok (.aload_n 0, 1) := by decide +kernel
theorem dX10_missing_29 : decode prog_1_method_35_code 29 = .ok (.getfield 62, 3) := by decide +kernel
theorem dX10_missing_32 : decode prog_1_method_35_code 32 = .ok (.invokevirtual 171, 3) := by decide +kernel
theorem dX10_missing_35 : decode prog_1_method_35_code 35 = .ok (.aload_n 0, 1) := by decide +kernel
theorem dX10_missing_36 : decode prog_1_method_35_code 36 = .ok (.getfield 72, 3) := by decide +kernel
theorem dX10_missing_39 : decode prog_1_method_35_code 39 = .ok (.aload_n 0, 1) := by decide +kernel
theorem dX10_missing_40 : decode prog_1_method_35_code 40 = .ok (.getfield 62, 3) := by decide +kernel
theorem dX10_missing_43 : decode prog_1_method_35_code 43 = .ok (.iload_n 2, 1) := by decide +kernel
theorem dX10_missing_44 : decode prog_1_method_35_code 44 = .ok (.invokevirtual 258, 3) := by decide +kernel
theorem dX10_missing_47 : decode prog_1_method_35_code 47 = .ok (.istore_n 3, 1) := by decide +kernel
theorem dX10_missing_48 : decode prog_1_method_35_code 48 = .ok (.iload_n 3, 1) := by decide +kernel
theorem dX10_missing_49 : decode prog_1_method_35_code 49 = .ok (.iload_n 2, 1) := by decide +kernel
theorem dX10_missing_50 : decode prog_1_method_35_code 50 = .ok (.if_icmp .le 8, 3) := by decide +kernel
theorem dX10_missing_53 : decode prog_1_method_35_code 53 = .ok (.bipush (-4), 2) := by decide +kernel
theorem dX10_missing_55 : decode prog_1_method_35_code 55 = .ok (.goto 4, 3) := by decide +kernel
theorem dX10_missing_58 : decode prog_1_method_35_code 58 = .ok (.iload_n 3, 1) := by decide +kernel
theorem dX10_missing_59 : decode prog_1_method_35_code 59 = .ok (.ireturn, 1) := by decide +kernel
theorem sX10_missing {Q : Int → Hp → Prop} {h : Hp} {l1 l2 : Int}
    (hP : ((l1 ≥ 0 ∧ l1 < 4) →
     ((l2 < 0) →
      Q (-2) h) ∧
     ((l2 ≥ 0) →
      ((l2 ≤ 2) →
       (ix l1 4) ∧
       CV 3 mX10_gatherOutputs [vr 68, vr (4 * l1), vr 85] h (fun h6 =>
        CI 4 mX1_leastToSort [vr 91, vr 85, vi l2] h6 (fun r9 h8 =>
         Q (if r9 ≤ l2 then r9 else (-4)) h8))) ∧
      ((l2 > 2) →
       Q (-2) h))) ∧
    ((l1 < 0 ∨ l1 ≥ 4) →
     Q (-1) h)) :
    CI 5 mX10_missing [vr 68, vi l1, vi l2] h Q := by
  refine CI_of_E fX10_missing.1 rfl (Nat.le_of_ble_eq_true rfl) ?_
  show E 5 mX10_missing 0 [(0, vr 68), (1, vi l1), (2, vi l2)] [] h (qi Q)
  refine E_iload_n 1 1 dX10_missing_0 rfl rfl ?_
  refine E_invSI [vi l1] dX10_missing_1 fX10_isNetwork lX10_90 (by decide) rfl rfl (Nat.le_of_ble_eq_true rfl) (sX10_isNetwork (h := h) (l0 := l1) ?_)
  refine E_if_ne 9 dX10_missing_4 rfl (fun hc => ?_) (fun hc => ?_)
  · replace hP := hP.1 (by have := ite1' hc; omega)
    refine E_iload_n 2 2 dX10_missing_9 rfl rfl ?_
    refine E_if_lt 18 dX10_missing_10 rfl (fun hc => ?_) (fun hc => ?_)
    · replace hP := hP.1 (hc)
      refine E_bipush dX10_missing_18 (by decide) ?_
      exact E_retI dX10_missing_20 rfl hP
    · replace hP := hP.2 (by omega)
      refine E_iload_n 2 2 dX10_missing_13 rfl rfl ?_
      refine E_iconst dX10_missing_14 (rg_of rfl) ?_
      refine E_icmp_le 21 dX10_missing_15 rfl (fun hc => ?_) (fun hc => ?_)
      · replace hP := hP.1 (hc)
        obtain ⟨v5_0, hP⟩ := hP
        refine E_aload_n 0 0 dX10_missing_21 rfl rfl ?_
        refine E_aload_n 0 0 dX10_missing_22 rfl rfl ?_
        refine E_gR 69 0 dX10_missing_23 FX10_11 ic_68 (by decide) ?_
        refine E_iload_n 1 1 dX10_missing_26 rfl rfl ?_
        refine E_aaloadN dX10_missing_27 ic_69 v5_0.1 v5_0.2 (rf_nets ⟨v5_0.1, v5_0.2⟩) ?_
        refine E_aload_n 0 0 dX10_missing_28 rfl rfl ?_
        refine E_gR 85 8 dX10_missing_29 FX10_62 ic_68 (by decide) ?_
        refine E_invVV [vr (4 * l1), vr 85] dX10_missing_32 fX10_gatherOutputs lX10_171 ic_68 rfl (by decide) rfl rfl (Nat.le_of_ble_eq_true rfl) (CV_mono hP (fun h6 hP => ?_))
        refine E_aload_n 0 0 dX10_missing_35 rfl rfl ?_
        refine E_gR 91 10 dX10_missing_36 FX10_72 ic_68 (by decide) ?_
        refine E_aload_n 0 0 dX10_missing_39 rfl rfl ?_
        refine E_gR 85 8 dX10_missing_40 FX10_62 ic_68 (by decide) ?_
        refine E_iload_n 2 2 dX10_missing_43 rfl rfl ?_
        refine E_invVI [vr 85, vi l2] dX10_missing_44 fX1_leastToSort lX10_258 ic_91 rfl (by decide) rfl rfl (Nat.le_of_ble_eq_true rfl) (CI_mono hP (fun r9 h8 hP => ?_))
        refine E_istore_n dX10_missing_47 rfl (by decide) rfl ?_
        refine E_iload_n 0 3 dX10_missing_48 rfl rfl ?_
        refine E_iload_n 3 2 dX10_missing_49 rfl rfl ?_
        have hJ : E 5 mX10_missing 59 [(3, vi r9), (0, vr 68), (1, vi l1), (2, vi l2)] [vi (if r9 ≤ l2 then r9 else (-4))] h8 (qi Q) := by
          exact E_retI dX10_missing_59 rfl hP
        refine E_icmp_le 58 dX10_missing_50 rfl (fun hc => ?_) (fun hc => ?_)
        · have hp50 := (hc : r9 ≤ l2)
          refine E_iload_n 0 3 dX10_missing_58 rfl rfl ?_
          exact E_top (by first | exact (if_pos (by omega)).symm | exact (if_neg (by omega)).symm | (repeat first | rw [if_pos (by omega)] | rw [if_neg (by omega)])) hJ
        · have hp50 := (by omega : r9 > l2)
          refine E_bipush dX10_missing_53 (by decide) ?_
          refine E_goto 59 dX10_missing_55 rfl ?_
          exact E_top (by first | exact (if_pos (by omega)).symm | exact (if_neg (by omega)).symm | (repeat first | rw [if_pos (by omega)] | rw [if_neg (by omega)])) hJ
      · replace hP := hP.2 (by omega)
        refine E_bipush dX10_missing_18 (by decide) ?_
        exact E_retI dX10_missing_20 rfl hP
  · replace hP := hP.2 (by have := ite0 hc; omega)
    refine E_iconst dX10_missing_7 (rg_of rfl) ?_
    exact E_retI dX10_missing_8 rfl hP
theorem dX10_sameOutputs_0 : decode prog_1_method_36_code 0 = .ok (.iload_n 1, 1) := by decide +kernel
theorem dX10_sameOutputs_1 : decode prog_1_method_36_code 1 = .ok (.invokestatic 90, 3) := by decide +kernel
theorem dX10_sameOutputs_4 : decode prog_1_method_36_code 4 = .ok (.ifCond .eq 10, 3) := by decide +kernel
theorem dX10_sameOutputs_7 : decode prog_1_method_36_code 7 = .ok (.iload_n 2, 1) := by decide +kernel
theorem dX10_sameOutputs_8 : decode prog_1_method_36_code 8 = .ok (.invokestatic 90, 3) := by decide +kernel
theorem dX10_sameOutputs_11 : decode prog_1_method_36_code 11 = .ok (.ifCond .ne 5, 3) := by decide +kernel
theorem dX10_sameOutputs_14 : decode prog_1_method_36_code 14 = .ok (.iconst (-1), 1) := by decide +kernel
theorem dX10_sameOutputs_15 : decode prog_1_method_36_code 15 = .ok (.ireturn, 1) := by decide +kernel
theorem dX10_sameOutputs_16 : decode prog_1_method_36_code 16 = .ok (.aload_n 0, 1) := by decide +kernel
theorem dX10_sameOutputs_17 : decode prog_1_method_36_code 17 = .ok (.getfield 11, 3) := by decide +kernel
theorem dX10_sameOutputs_20 : decode prog_1_method_36_code 20 = .ok (.iload_n 1, 1) := by decide +kernel
theorem dX10_sameOutputs_21 : decode prog_1_method_36_code 21 = .ok (.aaload, 1) := by decide +kernel
theorem dX10_sameOutputs_22 : decode prog_1_method_36_code 22 = .ok (.getfield 108, 3) := by decide +kernel
theorem dX10_sameOutputs_25 : decode prog_1_method_36_code 25 = .ok (.aload_n 0, 1) := by decide +kernel
theorem dX10_sameOutputs_26 : decode prog_1_method_36_code 26 = .ok (.getfield 11, 3) := by decide +kernel
theorem dX10_sameOutputs_29 : decode prog_1_method_36_code 29 = .ok (.iload_n 2, 1) := by decide +kernel
theorem dX10_sameOutputs_30 : decode prog_1_method_36_code 30 = .ok (.aaload, 1) := by decide +kernel
theorem dX10_sameOutputs_31 : decode prog_1_method_36_code 31 = .ok (.getfield 108, 3) := by decide +kernel
theorem dX10_sameOutputs_34 : decode prog_1_method_36_code 34 = .ok (.if_icmp .eq 6, 3) := by decide +kernel
theorem dX10_sameOutputs_37 : decode prog_1_method_36_code 37 = .ok (.bipush (-2), 2) := by decide +kernel
theorem dX10_sameOutputs_39 : decode prog_1_method_36_code 39 = .ok (.ireturn, 1) := by decide +kernel
theorem dX10_sameOutputs_40 : decode prog_1_method_36_code 40 = .ok (.aload_n 0, 1) := by decide +kernel
theorem dX10_sameOutputs_41 : decode prog_1_method_36_code 41 = .ok (.aload_n 0, 1) := by decide +kernel
theorem dX10_sameOutputs_42 : decode prog_1_method_36_code 42 = .ok (.getfield 11, 3) := by decide +kernel
theorem dX10_sameOutputs_45 : decode prog_1_method_36_code 45 = .ok (.iload_n 1, 1) := by decide +kernel
theorem dX10_sameOutputs_46 : decode prog_1_method_36_code 46 = .ok (.aaload, 1) := by decide +kernel
theorem dX10_sameOutputs_47 : decode prog_1_method_36_code 47 = .ok (.aload_n 0, 1) := by decide +kernel
theorem dX10_sameOutputs_48 : decode prog_1_method_36_code 48 = .ok (.getfield 62, 3) := by decide +kernel
theorem dX10_sameOutputs_51 : decode prog_1_method_36_code 51 = .ok (.invokevirtual 171, 3) := by decide +kernel
theorem dX10_sameOutputs_54 : decode prog_1_method_36_code 54 = .ok (.aload_n 0, 1) := by decide +kernel
theorem dX10_sameOutputs_55 : decode prog_1_method_36_code 55 = .ok (.aload_n 0, 1) := by decide +kernel
theorem dX10_sameOutputs_56 : decode prog_1_method_36_code 56 = .ok (.getfield 11, 3) := by decide +kernel
theorem dX10_sameOutputs_59 : decode prog_1_method_36_code 59 = .ok (.iload_n 2, 1) := by decide +kernel
theorem dX10_sameOutputs_60 : decode prog_1_method_36_code 60 = .ok (.aaload, 1) := by decide +kernel
theorem dX10_sameOutputs_61 : decode prog_1_method_36_code 61 = .ok (.aload_n 0, 1) := by decide +kernel
theorem dX10_sameOutputs_62 : decode prog_1_method_36_code 62 = .ok (.getfield 66, 3) := by decide +kernel
theorem dX10_sameOutputs_65 : decode prog_1_method_36_code 65 = .ok (.invokevirtual 171, 3) := by decide +kernel
theorem dX10_sameOutputs_68 : decode prog_1_method_36_code 68 = .ok (.aload_n 0, 1) := by decide +kernel
theorem dX10_sameOutputs_69 : decode prog_1_method_36_code 69 = .ok (.getfield 62, 3) := by decide +kernel
theorem dX10_sameOutputs_72 : decode prog_1_method_36_code 72 = .ok (.aload_n 0, 1) := by decide +kernel
theorem dX10_sameOutputs_73 : decode prog_1_method_36_code 73 = .ok (.getfield 66, 3) := by decide +kernel
theorem dX10_sameOutputs_76 : decode prog_1_method_36_code 76 = .ok (.invokevirtual 262, 3) := by decide +kernel
theorem dX10_sameOutputs_79 : decode prog_1_method_36_code 79 = .ok (.invokestatic 167, 3) := by decide +kernel
theorem dX10_sameOutputs_82 : decode prog_1_method_36_code 82 = .ok (.ireturn, 1) := by decide +kernel
theorem sX10_sameOutputs {Q : Int → Hp → Prop} {h : Hp} {l1 l2 : Int}
    (hP : ((l1 < 0 ∨ l1 ≥ 4) →
     Q (-1) h) ∧
    ((l1 ≥ 0 ∧ l1 < 4) →
     ((l2 ≥ 0 ∧ l2 < 4) →
      (ix l1 4 ∧ nA (4 * l1) ∧ ix l2 4 ∧ nA (4 * l2)) ∧
      (((h (4 * l1) 0) = (h (4 * l2) 0)) →
       (ix l1 4) ∧
       CV 3 mX10_gatherOutputs [vr 68, vr (4 * l1), vr 85] h (fun h6 =>
        (ix l2 4) ∧
        CV 3 mX10_gatherOutputs [vr 68, vr (4 * l2), vr 88] h6 (fun h8 =>
         CI 0 mX4_equalTo [vr 85, vr 88] h8 (fun r11 h10 =>
          Q (if r11 ≠ 0 then (1 : Int) else 0) h10)))) ∧
      (((h (4 * l1) 0) ≠ (h (4 * l2) 0)) →
       Q (-2) h)) ∧
     ((l2 < 0 ∨ l2 ≥ 4) →
      Q (-1) h))) :
    CI 4 mX10_sameOutputs [vr 68, vi l1, vi l2] h Q := by
  refine CI_of_E fX10_sameOutputs.1 rfl (Nat.le_of_ble_eq_true rfl) ?_
  show E 4 mX10_sameOutputs 0 [(0, vr 68), (1, vi l1), (2, vi l2)] [] h (qi Q)
  refine E_iload_n 1 1 dX10_sameOutputs_0 rfl rfl ?_
  refine E_invSI [vi l1] dX10_sameOutputs_1 fX10_isNetwork lX10_90 (by decide) rfl rfl (Nat.le_of_ble_eq_true rfl) (sX10_isNetwork (h := h) (l0 := l1) ?_)
  refine E_if_eq 14 dX10_sameOutputs_4 rfl (fun hc => ?_) (fun hc => ?_)
  · replace hP := hP.1 (by have := ite0 hc; omega)
    refine E_iconst dX10_sameOutputs_14 (rg_of rfl) ?_
    exact E_retI dX10_sameOutputs_15 rfl hP
  · replace hP := hP.2 (by have := ite1 hc; omega)
    refine E_iload_n 2 2 dX10_sameOutputs_7 rfl rfl ?_
    refine E_invSI [vi l2] dX10_sameOutputs_8 fX10_isNetwork lX10_90 (by decide) rfl rfl (Nat.le_of_ble_eq_true rfl) (sX10_isNetwork (h := h) (l0 := l2) ?_)
    refine E_if_ne 16 dX10_sameOutputs_11 rfl (fun hc => ?_) (fun hc => ?_)
    · replace hP := hP.1 (by have := ite1' hc; omega)
      obtain ⟨⟨v4_0, v4_1, v4_2, v4_3⟩, hP⟩ := hP
      refine E_aload_n 0 0 dX10_sameOutputs_16 rfl rfl ?_
      refine E_gR 69 0 dX10_sameOutputs_17 FX10_11 ic_68 (by decide) ?_
      refine E_iload_n 1 1 dX10_sameOutputs_20 rfl rfl ?_
      refine E_aaloadN dX10_sameOutputs_21 ic_69 v4_0.1 v4_0.2 (rf_nets ⟨v4_0.1, v4_0.2⟩) ?_
      refine E_gI 0 0 dX10_sameOutputs_22 FX10_108 (icN0 v4_1) rfl ?_
      refine E_aload_n 0 0 dX10_sameOutputs_25 rfl rfl ?_
      refine E_gR 69 0 dX10_sameOutputs_26 FX10_11 ic_68 (by decide) ?_
      refine E_iload_n 2 2 dX10_sameOutputs_29 rfl rfl ?_
      refine E_aaloadN dX10_sameOutputs_30 ic_69 v4_2.1 v4_2.2 (rf_nets ⟨v4_2.1, v4_2.2⟩) ?_
      refine E_gI 0 0 dX10_sameOutputs_31 FX10_108 (icN0 v4_3) rfl ?_
      refine E_icmp_eq 40 dX10_sameOutputs_34 rfl (fun hc => ?_) (fun hc => ?_)
      · replace hP := hP.1 (hc)
        obtain ⟨v5_0, hP⟩ := hP
        refine E_aload_n 0 0 dX10_sameOutputs_40 rfl rfl ?_
        refine E_aload_n 0 0 dX10_sameOutputs_41 rfl rfl ?_
        refine E_gR 69 0 dX10_sameOutputs_42 FX10_11 ic_68 (by decide) ?_
        refine E_iload_n 1 1 dX10_sameOutputs_45 rfl rfl ?_
        refine E_aaloadN dX10_sameOutputs_46 ic_69 v5_0.1 v5_0.2 (rf_nets ⟨v5_0.1, v5_0.2⟩) ?_
        refine E_aload_n 0 0 dX10_sameOutputs_47 rfl rfl ?_
        refine E_gR 85 8 dX10_sameOutputs_48 FX10_62 ic_68 (by decide) ?_
        refine E_invVV [vr (4 * l1), vr 85] dX10_sameOutputs_51 fX10_gatherOutputs lX10_171 ic_68 rfl (by decide) rfl rfl (Nat.le_of_ble_eq_true rfl) (CV_mono hP (fun h6 hP => ?_))
        obtain ⟨v7_0, hP⟩ := hP
        refine E_aload_n 0 0 dX10_sameOutputs_54 rfl rfl ?_
        refine E_aload_n 0 0 dX10_sameOutputs_55 rfl rfl ?_
        refine E_gR 69 0 dX10_sameOutputs_56 FX10_11 ic_68 (by decide) ?_
        refine E_iload_n 2 2 dX10_sameOutputs_59 rfl rfl ?_
        refine E_aaloadN dX10_sameOutputs_60 ic_69 v7_0.1 v7_0.2 (rf_nets ⟨v7_0.1, v7_0.2⟩) ?_
        refine E_aload_n 0 0 dX10_sameOutputs_61 rfl rfl ?_
        refine E_gR 88 9 dX10_sameOutputs_62 FX10_66 ic_68 (by decide) ?_
        refine E_invVV [vr (4 * l2), vr 88] dX10_sameOutputs_65 fX10_gatherOutputs lX10_171 ic_68 rfl (by decide) rfl rfl (Nat.le_of_ble_eq_true rfl) (CV_mono hP (fun h8 hP => ?_))
        refine E_aload_n 0 0 dX10_sameOutputs_68 rfl rfl ?_
        refine E_gR 85 8 dX10_sameOutputs_69 FX10_62 ic_68 (by decide) ?_
        refine E_aload_n 0 0 dX10_sameOutputs_72 rfl rfl ?_
        refine E_gR 88 9 dX10_sameOutputs_73 FX10_66 ic_68 (by decide) ?_
        refine E_invVI [vr 88] dX10_sameOutputs_76 fX4_equalTo lX10_262 ic_85 rfl (by decide) rfl rfl (Nat.le_of_ble_eq_true rfl) (CI_mono hP (fun r11 h10 hP => ?_))
        refine E_invSI [vi r11] dX10_sameOutputs_79 fX10_oneIf lX10_167 (by decide) rfl rfl (Nat.le_of_ble_eq_true rfl) (sX10_oneIf (h := h10) (l0 := r11) ?_)
        exact E_retI dX10_sameOutputs_82 rfl hP
      · replace hP := hP.2 (by omega)
        refine E_bipush dX10_sameOutputs_37 (by decide) ?_
        exact E_retI dX10_sameOutputs_39 rfl hP
    · replace hP := hP.2 (by have := ite0 hc; omega)
      refine E_iconst dX10_sameOutputs_14 (rg_of rfl) ?_
      exact E_retI dX10_sameOutputs_15 rfl hP
theorem dX10_isIsomorphic_0 : decode prog_1_method_37_code 0 = .ok (.iload_n 1, 1) := by decide +kernel
theorem dX10_isIsomorphic_1 : decode prog_1_method_37_code 1 = .ok (.invokestatic 90, 3) := by decide +kernel
theorem dX10_isIsomorphic_4 : decode prog_1_method_37_code 4 = .ok (.ifCond .eq 10, 3) := by decide +kernel
theorem dX10_isIsomorphic_7 : decode prog_1_method_37_code 7 = .ok (.iload_n 2, 1) := by decide +kernel
theorem dX10_isIsomorphic_8 : decode prog_1_method_37_code 8 = .ok (.invokestatic 90, 3) := by decide +kernel
theorem dX10_isIsomorphic_11 : decode prog_1_method_37_code 11 = .ok (.ifCond .ne 5, 3) := by decide +kernel
theorem dX10_isIsomorphic_14 : decode prog_1_method_37_code 14 = .ok (.iconst (-1), 1) := by decide +kernel
theorem dX10_isIsomorphic_15 : decode prog_1_method_37_code 15 = .ok (.ireturn, 1) := by decide +kernel
theorem dX10_isIsomorphic_16 : decode prog_1_method_37_code 16 = .ok (.aload_n 0, 1) := by decide +kernel
theorem dX10_isIsomorphic_17 : decode prog_1_method_37_code 17 = .ok (.getfield 11, 3) := by decide +kernel
theorem dX10_isIsomorphic_20 : decode prog_1_method_37_code 20 = .ok (.iload_n 1, 1) := by decide +kernel
theorem dX10_isIsomorphic_21 : decode prog_1_method_37_code 21 = .ok (.aaload, 1) := by decide +kernel
theorem dX10_isIsomorphic_22 : decode prog_1_method_37_code 22 = .ok (.getfield 108, 3) := by decide +kernel
theorem dX10_isIsomorphic_25 : decode prog_1_method_37_code 25 = .ok (.aload_n 0, 1) := by decide +kernel
theorem dX10_isIsomorphic_26 : decode prog_1_method_37_code 26 = .ok (.getfield 11, 3) := by decide +kernel
theorem dX10_isIsomorphic_29 : decode prog_1_method_37_code 29 = .ok (.iload_n 2, 1) := by decide +kernel
theorem dX10_isIsomorphic_30 : decode prog_1_method_37_code 30 = .ok (.aaload, 1) := by decide +kernel
theorem dX10_isIsomorphic_31 : decode prog_1_method_37_code 31 = .ok (.getfield 108, 3) := by decide +kernel
theorem dX10_isIsomorphic_34 : decode prog_1_method_37_code 34 = .ok (.if_icmp .eq 6, 3) := by decide +kernel
theorem dX10_isIsomorphic_37 : decode prog_1_method_37_code 37 = .ok (.bipush (-2), 2) := by decide +kernel
theorem dX10_isIsomorphic_39 : decode prog_1_method_37_code 39 = .ok (.ireturn, 1) := by decide +kernel
theorem dX10_isIsomorphic_40 : decode prog_1_method_37_code 40 = .ok (.aload_n 0, 1) := by decide +kernel
theorem dX10_isIsomorphic_41 : decode prog_1_method_37_code 41 = .ok (.getfield 86, 3) := by decide +kernel
theorem dX10_isIsomorphic_44 : decode prog_1_method_37_code 44 = .ok (.aload_n 0, 1) := by decide +kernel
theorem dX10_isIsomorphic_45 : decode prog_1_method_37_code 45 = .ok (.getfield 11, 3) := by decide +kernel
theorem dX10_isIsomorphic_48 : decode prog_1_method_37_code 48 = .ok (.iload_n 1, 1) := by decide +kernel
theorem dX10_isIsomorphic_49 : decode prog_1_method_37_code 49 = .ok (.aaload, 1) := by decide +kernel
theorem dX10_isIsomorphic_50 : decode prog_1_method_37_code 50 = .ok (.aload_n 0, 1) := by decide +kernel
theorem dX10_isIsomorphic_51 : decode prog_1_method_37_code 51 = .ok (.getfield 11, 3) := by decide +kernel
theorem dX10_isIsomorphic_54 : decode prog_1_method_37_code 54 = .ok (.iload_n 2, 1) := by decide +kernel
theorem dX10_isIsomorphic_55 : decode prog_1_method_37_code 55 = .ok (.aaload, 1) := by decide +kernel
theorem dX10_isIsomorphic_56 : decode prog_1_method_37_code 56 = .ok (.invokevirtual 266, 3) := by decide +kernel
theorem dX10_isIsomorphic_59 : decode prog_1_method_37_code 59 = .ok (.invokestatic 167, 3) := by decide +kernel
theorem dX10_isIsomorphic_62 : decode prog_1_method_37_code 62 = .ok (.ireturn, 1) := by decide +kernel
theorem sX10_isIsomorphic {Q : Int → Hp → Prop} {h : Hp} {l1 l2 : Int}
    (hP : ((l1 < 0 ∨ l1 ≥ 4) →
     Q (-1) h) ∧
    ((l1 ≥ 0 ∧ l1 < 4) →
     ((l2 ≥ 0 ∧ l2 < 4) →
      (ix l1 4 ∧ nA (4 * l1) ∧ ix l2 4 ∧ nA (4 * l2)) ∧
      (((h (4 * l1) 0) = (h (4 * l2) 0)) →
       (ix l1 4 ∧ ix l2 4) ∧
       CI 1 mX5_makes [vr 100, vr (4 * l1), vr (4 * l2)] h (fun r7 h6 =>
        Q (if r7 ≠ 0 then (1 : Int) else 0) h6)) ∧
      (((h (4 * l1) 0) ≠ (h (4 * l2) 0)) →
       Q (-2) h)) ∧
     ((l2 < 0 ∨ l2 ≥ 4) →
      Q (-1) h))) :
    CI 2 mX10_isIsomorphic [vr 68, vi l1, vi l2] h Q := by
  refine CI_of_E fX10_isIsomorphic.1 rfl (Nat.le_of_ble_eq_true rfl) ?_
  show E 2 mX10_isIsomorphic 0 [(0, vr 68), (1, vi l1), (2, vi l2)] [] h (qi Q)
  refine E_iload_n 1 1 dX10_isIsomorphic_0 rfl rfl ?_
  refine E_invSI [vi l1] dX10_isIsomorphic_1 fX10_isNetwork lX10_90 (by decide) rfl rfl (Nat.le_of_ble_eq_true rfl) (sX10_isNetwork (h := h) (l0 := l1) ?_)
  refine E_if_eq 14 dX10_isIsomorphic_4 rfl (fun hc => ?_) (fun hc => ?_)
  · replace hP := hP.1 (by have := ite0 hc; omega)
    refine E_iconst dX10_isIsomorphic_14 (rg_of rfl) ?_
    exact E_retI dX10_isIsomorphic_15 rfl hP
  · replace hP := hP.2 (by have := ite1 hc; omega)
    refine E_iload_n 2 2 dX10_isIsomorphic_7 rfl rfl ?_
    refine E_invSI [vi l2] dX10_isIsomorphic_8 fX10_isNetwork lX10_90 (by decide) rfl rfl (Nat.le_of_ble_eq_true rfl) (sX10_isNetwork (h := h) (l0 := l2) ?_)
    refine E_if_ne 16 dX10_isIsomorphic_11 rfl (fun hc => ?_) (fun hc => ?_)
    · replace hP := hP.1 (by have := ite1' hc; omega)
      obtain ⟨⟨v4_0, v4_1, v4_2, v4_3⟩, hP⟩ := hP
      refine E_aload_n 0 0 dX10_isIsomorphic_16 rfl rfl ?_
      refine E_gR 69 0 dX10_isIsomorphic_17 FX10_11 ic_68 (by decide) ?_
      refine E_iload_n 1 1 dX10_isIsomorphic_20 rfl rfl ?_
      refine E_aaloadN dX10_isIsomorphic_21 ic_69 v4_0.1 v4_0.2 (rf_nets ⟨v4_0.1, v4_0.2⟩) ?_
      refine E_gI 0 0 dX10_isIsomorphic_22 FX10_108 (icN0 v4_1) rfl ?_
      refine E_aload_n 0 0 dX10_isIsomorphic_25 rfl rfl ?_
      refine E_gR 69 0 dX10_isIsomorphic_26 FX10_11 ic_68 (by decide) ?_
      refine E_iload_n 2 2 dX10_isIsomorphic_29 rfl rfl ?_
      refine E_aaloadN dX10_isIsomorphic_30 ic_69 v4_2.1 v4_2.2 (rf_nets ⟨v4_2.1, v4_2.2⟩) ?_
      refine E_gI 0 0 dX10_isIsomorphic_31 FX10_108 (icN0 v4_3) rfl ?_
      refine E_icmp_eq 40 dX10_isIsomorphic_34 rfl (fun hc => ?_) (fun hc => ?_)
      · replace hP := hP.1 (hc)
        obtain ⟨⟨v5_0, v5_1⟩, hP⟩ := hP
        refine E_aload_n 0 0 dX10_isIsomorphic_40 rfl rfl ?_
        refine E_gR 100 12 dX10_isIsomorphic_41 FX10_86 ic_68 (by decide) ?_
        refine E_aload_n 0 0 dX10_isIsomorphic_44 rfl rfl ?_
        refine E_gR 69 0 dX10_isIsomorphic_45 FX10_11 ic_68 (by decide) ?_
        refine E_iload_n 1 1 dX10_isIsomorphic_48 rfl rfl ?_
        refine E_aaloadN dX10_isIsomorphic_49 ic_69 v5_0.1 v5_0.2 (rf_nets ⟨v5_0.1, v5_0.2⟩) ?_
        refine E_aload_n 0 0 dX10_isIsomorphic_50 rfl rfl ?_
        refine E_gR 69 0 dX10_isIsomorphic_51 FX10_11 ic_68 (by decide) ?_
        refine E_iload_n 2 2 dX10_isIsomorphic_54 rfl rfl ?_
        refine E_aaloadN dX10_isIsomorphic_55 ic_69 v5_1.1 v5_1.2 (rf_nets ⟨v5_1.1, v5_1.2⟩) ?_
        refine E_invVI [vr (4 * l1), vr (4 * l2)] dX10_isIsomorphic_56 fX5_makes lX10_266 ic_100 rfl (by decide) rfl rfl (Nat.le_of_ble_eq_true rfl) (CI_mono hP (fun r7 h6 hP => ?_))
        refine E_invSI [vi r7] dX10_isIsomorphic_59 fX10_oneIf lX10_167 (by decide) rfl rfl (Nat.le_of_ble_eq_true rfl) (sX10_oneIf (h := h6) (l0 := r7) ?_)
        exact E_retI dX10_isIsomorphic_62 rfl hP
      · replace hP := hP.2 (by omega)
        refine E_bipush dX10_isIsomorphic_37 (by decide) ?_
        exact E_retI dX10_isIsomorphic_39 rfl hP
    · replace hP := hP.2 (by have := ite0 hc; omega)
      refine E_iconst dX10_isIsomorphic_14 (rg_of rfl) ?_
      exact E_retI dX10_isIsomorphic_15 rfl hP
theorem dX10_subsumes_0 : decode prog_1_method_38_code 0 = .ok (.iload_n 1, 1) := by decide +kernel
theorem dX10_subsumes_1 : decode prog_1_method_38_code 1 = .ok (.invokestatic 90, 3) := by decide +kernel
theorem dX10_subsumes_4 : decode prog_1_method_38_code 4 = .ok (.ifCond .eq 10, 3) := by decide +kernel
theorem dX10_subsumes_7 : decode prog_1_method_38_code 7 = .ok (.iload_n 2, 1) := by decide +kernel
theorem dX10_subsumes_8 : decode prog_1_method_38_code 8 = .ok (.invokestatic 90, 3) := by decide +kernel
theorem dX10_subsumes_11 : decode prog_1_method_38_code 11 = .ok (.ifCond .ne 5, 3) := by decide +kernel
theorem dX10_subsumes_14 : decode prog_1_method_38_code 14 = .ok (.iconst (-1), 1) := by decide +kernel
theorem dX10_subsumes_15 : decode prog_1_method_38_code 15 = .ok (.ireturn, 1) := by decide +kernel
theorem dX10_subsumes_16 : decode prog_1_method_38_code 16 = .ok (.aload_n 0, 1) := by decide +kernel
theorem dX10_subsumes_17 : decode prog_1_method_38_code 17 = .ok (.getfield 11, 3) := by decide +kernel
theorem dX10_subsumes_20 : decode prog_1_method_38_code 20 = .ok (.iload_n 1, 1) := by decide +kernel
theorem dX10_subsumes_21 : decode prog_1_method_38_code 21 = .ok (.aaload, 1) := by decide +kernel
theorem dX10_subsumes_22 : decode prog_1_method_38_code 22 = .ok (.getfield 108, 3) := by decide +kernel
theorem dX10_subsumes_25 : decode prog_1_method_38_code 25 = .ok (.aload_n 0, 1) := by decide +kernel
theorem dX10_subsumes_26 : decode prog_1_method_38_code 26 = .ok (.getfield 11, 3) := by decide +kernel
theorem dX10_subsumes_29 : decode prog_1_method_38_code 29 = .ok (.iload_n 2, 1) := by decide +kernel
theorem dX10_subsumes_30 : decode prog_1_method_38_code 30 = .ok (.aaload, 1) := by decide +kernel
theorem dX10_subsumes_31 : decode prog_1_method_38_code 31 = .ok (.getfield 108, 3) := by decide +kernel
theorem dX10_subsumes_34 : decode prog_1_method_38_code 34 = .ok (.if_icmp .eq 6, 3) := by decide +kernel
theorem dX10_subsumes_37 : decode prog_1_method_38_code 37 = .ok (.bipush (-2), 2) := by decide +kernel
theorem dX10_subsumes_39 : decode prog_1_method_38_code 39 = .ok (.ireturn, 1) := by decide +kernel
theorem dX10_subsumes_40 : decode prog_1_method_38_code 40 = .ok (.aload_n 0, 1) := by decide +kernel
theorem dX10_subsumes_41 : decode prog_1_method_38_code 41 = .ok (.getfield 11, 3) := by decide +kernel
theorem dX10_subsumes_44 : decode prog_1_method_38_code 44 = .ok (.iload_n 1, 1) := by decide +kernel
theorem dX10_subsumes_45 : decode prog_1_method_38_code 45 = .ok (.aaload, 1) := by decide +kernel
theorem dX10_subsumes_46 : decode prog_1_method_38_code 46 = .ok (.getfield 108, 3) := by decide +kernel
theorem dX10_subsumes_49 : decode prog_1_method_38_code 49 = .ok (.bipush 6, 2) := by decide +kernel
theorem dX10_subsumes_51 : decode prog_1_method_38_code 51 = .ok (.if_icmp .le 6, 3) := by decide +kernel
theorem dX10_subsumes_54 : decode prog_1_method_38_code 54 = .ok (.bipush (-6), 2) := by decide +kernel
theorem dX10_subsumes_56 : decode prog_1_method_38_code 56 = .ok (.ireturn, 1) := by decide +kernel
theorem dX10_subsumes_57 : decode prog_1_method_38_code 57 = .ok (.aload_n 0, 1) := by decide +kernel
theorem dX10_subsumes_58 : decode prog_1_method_38_code 58 = .ok (.aload_n 0, 1) := by decide +kernel
theorem dX10_subsumes_59 : decode prog_1_method_38_code 59 = .ok (.getfield 11, 3) := by decide +kernel
theorem dX10_subsumes_62 : decode prog_1_method_38_code 62 = .ok (.iload_n 1, 1) := by decide +kernel
theorem dX10_subsumes_63 : decode prog_1_method_38_code 63 = .ok (.aaload, 1) := by decide +kernel
theorem dX10_subsumes_64 : decode prog_1_method_38_code 64 = .ok (.aload_n 0, 1) := by decide +kernel
theorem dX10_subsumes_65 : decode prog_1_method_38_code 65 = .ok (.getfield 62, 3) := by decide +kernel
theorem dX10_subsumes_68 : decode prog_1_method_38_code 68 = .ok (.invokevirtual 171, 3) := by decide +kernel
theorem dX10_subsumes_71 : decode prog_1_method_38_code 71 = .ok (.aload_n 0, 1) := by decide +kernel
theorem dX10_subsumes_72 : decode prog_1_method_38_code 72 = .ok (.aload_n 0, 1) := by decide +kernel
theorem dX10_subsumes_73 : decode prog_1_method_38_code 73 = .ok (.getfield 11, 3) := by decide +kernel
theorem dX10_subsumes_76 : decode prog_1_method_38_code 76 = .ok (.iload_n 2, 1) := by decide +kernel
theorem dX10_subsumes_77 : decode prog_1_method_38_code 77 = .ok (.aaload, 1) := by decide +kernel
theorem dX10_subsumes_78 : decode prog_1_method_38_code 78 = .ok (.aload_n 0, 1) := by decide +kernel
theorem dX10_subsumes_79 : decode prog_1_method_38_code 79 = .ok (.getfield 66, 3) := by decide +kernel
theorem dX10_subsumes_82 : decode prog_1_method_38_code 82 = .ok (.invokevirtual 171, 3) := by decide +kernel
theorem dX10_subsumes_85 : decode prog_1_method_38_code 85 = .ok (.aload_n 0, 1) := by decide +kernel
theorem dX10_subsumes_86 : decode prog_1_method_38_code 86 = .ok (.getfield 86, 3) := by decide +kernel
theorem dX10_subsumes_89 : decode prog_1_method_38_code 89 = .ok (.aload_n 0, 1) := by decide +kernel
theorem dX10_subsumes_90 : decode prog_1_method_38_code 90 = .ok (.getfield 62, 3) := by decide +kernel
theorem dX10_subsumes_93 : decode prog_1_method_38_code 93 = .ok (.aload_n 0, 1) := by decide +kernel
theorem dX10_subsumes_94 : decode prog_1_method_38_code 94 = .ok (.getfield 66, 3) := by decide +kernel
theorem dX10_subsumes_97 : decode prog_1_method_38_code 97 = .ok (.invokevirtual 270, 3) := by decide +kernel
theorem dX10_subsumes_100 : decode prog_1_method_38_code 100 = .ok (.invokestatic 167, 3) := by decide +kernel
theorem dX10_subsumes_103 : decode prog_1_method_38_code 103 = .ok (.ireturn, 1) := by decide +kernel
theorem sX10_subsumes {Q : Int → Hp → Prop} {h : Hp} {l1 l2 : Int}
    (hP : ((l1 < 0 ∨ l1 ≥ 4) →
     Q (-1) h) ∧
    ((l1 ≥ 0 ∧ l1 < 4) →
     ((l2 ≥ 0 ∧ l2 < 4) →
      (ix l1 4 ∧ nA (4 * l1) ∧ ix l2 4 ∧ nA (4 * l2)) ∧
      (((h (4 * l1) 0) = (h (4 * l2) 0)) →
       (ix l1 4 ∧ nA (4 * l1)) ∧
       (((h (4 * l1) 0) ≤ 6) →
        (ix l1 4) ∧
        CV 3 mX10_gatherOutputs [vr 68, vr (4 * l1), vr 85] h (fun h7 =>
         (ix l2 4) ∧
         CV 3 mX10_gatherOutputs [vr 68, vr (4 * l2), vr 88] h7 (fun h9 =>
          CI 13 mX5_putsInto [vr 100, vr 85, vr 88] h9 (fun r12 h11 =>
           Q (if r12 ≠ 0 then (1 : Int) else 0) h11)))) ∧
       (((h (4 * l1) 0) > 6) →
        Q (-6) h)) ∧
      (((h (4 * l1) 0) ≠ (h (4 * l2) 0)) →
       Q (-2) h)) ∧
     ((l2 < 0 ∨ l2 ≥ 4) →
      Q (-1) h))) :
    CI 14 mX10_subsumes [vr 68, vi l1, vi l2] h Q := by
  refine CI_of_E fX10_subsumes.1 rfl (Nat.le_of_ble_eq_true rfl) ?_
  show E 14 mX10_subsumes 0 [(0, vr 68), (1, vi l1), (2, vi l2)] [] h (qi Q)
  refine E_iload_n 1 1 dX10_subsumes_0 rfl rfl ?_
  refine E_invSI [vi l1] dX10_subsumes_1 fX10_isNetwork lX10_90 (by decide) rfl rfl (Nat.le_of_ble_eq_true rfl) (sX10_isNetwork (h := h) (l0 := l1) ?_)
  refine E_if_eq 14 dX10_subsumes_4 rfl (fun hc => ?_) (fun hc => ?_)
  · replace hP := hP.1 (by have := ite0 hc; omega)
    refine E_iconst dX10_subsumes_14 (rg_of rfl) ?_
    exact E_retI dX10_subsumes_15 rfl hP
  · replace hP := hP.2 (by have := ite1 hc; omega)
    refine E_iload_n 2 2 dX10_subsumes_7 rfl rfl ?_
    refine E_invSI [vi l2] dX10_subsumes_8 fX10_isNetwork lX10_90 (by decide) rfl rfl (Nat.le_of_ble_eq_true rfl) (sX10_isNetwork (h := h) (l0 := l2) ?_)
    refine E_if_ne 16 dX10_subsumes_11 rfl (fun hc => ?_) (fun hc => ?_)
    · replace hP := hP.1 (by have := ite1' hc; omega)
      obtain ⟨⟨v4_0, v4_1, v4_2, v4_3⟩, hP⟩ := hP
      refine E_aload_n 0 0 dX10_subsumes_16 rfl rfl ?_
      refine E_gR 69 0 dX10_subsumes_17 FX10_11 ic_68 (by decide) ?_
      refine E_iload_n 1 1 dX10_subsumes_20 rfl rfl ?_
      refine E_aaloadN dX10_subsumes_21 ic_69 v4_0.1 v4_0.2 (rf_nets ⟨v4_0.1, v4_0.2⟩) ?_
      refine E_gI 0 0 dX10_subsumes_22 FX10_108 (icN0 v4_1) rfl ?_
      refine E_aload_n 0 0 dX10_subsumes_25 rfl rfl ?_
      refine E_gR 69 0 dX10_subsumes_26 FX10_11 ic_68 (by decide) ?_
      refine E_iload_n 2 2 dX10_subsumes_29 rfl rfl ?_
      refine E_aaloadN dX10_subsumes_30 ic_69 v4_2.1 v4_2.2 (rf_nets ⟨v4_2.1, v4_2.2⟩) ?_
      refine E_gI 0 0 dX10_subsumes_31 FX10_108 (icN0 v4_3) rfl ?_
      refine E_icmp_eq 40 dX10_subsumes_34 rfl (fun hc => ?_) (fun hc => ?_)
      · replace hP := hP.1 (hc)
        obtain ⟨⟨v5_0, v5_1⟩, hP⟩ := hP
        refine E_aload_n 0 0 dX10_subsumes_40 rfl rfl ?_
        refine E_gR 69 0 dX10_subsumes_41 FX10_11 ic_68 (by decide) ?_
        refine E_iload_n 1 1 dX10_subsumes_44 rfl rfl ?_
        refine E_aaloadN dX10_subsumes_45 ic_69 v5_0.1 v5_0.2 (rf_nets ⟨v5_0.1, v5_0.2⟩) ?_
        refine E_gI 0 0 dX10_subsumes_46 FX10_108 (icN0 v5_1) rfl ?_
        refine E_bipush dX10_subsumes_49 (by decide) ?_
        refine E_icmp_le 57 dX10_subsumes_51 rfl (fun hc => ?_) (fun hc => ?_)
        · replace hP := hP.1 (hc)
          obtain ⟨v6_0, hP⟩ := hP
          refine E_aload_n 0 0 dX10_subsumes_57 rfl rfl ?_
          refine E_aload_n 0 0 dX10_subsumes_58 rfl rfl ?_
          refine E_gR 69 0 dX10_subsumes_59 FX10_11 ic_68 (by decide) ?_
          refine E_iload_n 1 1 dX10_subsumes_62 rfl rfl ?_
          refine E_aaloadN dX10_subsumes_63 ic_69 v6_0.1 v6_0.2 (rf_nets ⟨v6_0.1, v6_0.2⟩) ?_
          refine E_aload_n 0 0 dX10_subsumes_64 rfl rfl ?_
          refine E_gR 85 8 dX10_subsumes_65 FX10_62 ic_68 (by decide) ?_
          refine E_invVV [vr (4 * l1), vr 85] dX10_subsumes_68 fX10_gatherOutputs lX10_171 ic_68 rfl (by decide) rfl rfl (Nat.le_of_ble_eq_true rfl) (CV_mono hP (fun h7 hP => ?_))
          obtain ⟨v8_0, hP⟩ := hP
          refine E_aload_n 0 0 dX10_subsumes_71 rfl rfl ?_
          refine E_aload_n 0 0 dX10_subsumes_72 rfl rfl ?_
          refine E_gR 69 0 dX10_subsumes_73 FX10_11 ic_68 (by decide) ?_
          refine E_iload_n 2 2 dX10_subsumes_76 rfl rfl ?_
          refine E_aaloadN dX10_subsumes_77 ic_69 v8_0.1 v8_0.2 (rf_nets ⟨v8_0.1, v8_0.2⟩) ?_
          refine E_aload_n 0 0 dX10_subsumes_78 rfl rfl ?_
          refine E_gR 88 9 dX10_subsumes_79 FX10_66 ic_68 (by decide) ?_
          refine E_invVV [vr (4 * l2), vr 88] dX10_subsumes_82 fX10_gatherOutputs lX10_171 ic_68 rfl (by decide) rfl rfl (Nat.le_of_ble_eq_true rfl) (CV_mono hP (fun h9 hP => ?_))
          refine E_aload_n 0 0 dX10_subsumes_85 rfl rfl ?_
          refine E_gR 100 12 dX10_subsumes_86 FX10_86 ic_68 (by decide) ?_
          refine E_aload_n 0 0 dX10_subsumes_89 rfl rfl ?_
          refine E_gR 85 8 dX10_subsumes_90 FX10_62 ic_68 (by decide) ?_
          refine E_aload_n 0 0 dX10_subsumes_93 rfl rfl ?_
          refine E_gR 88 9 dX10_subsumes_94 FX10_66 ic_68 (by decide) ?_
          refine E_invVI [vr 85, vr 88] dX10_subsumes_97 fX5_putsInto lX10_270 ic_100 rfl (by decide) rfl rfl (Nat.le_of_ble_eq_true rfl) (CI_mono hP (fun r12 h11 hP => ?_))
          refine E_invSI [vi r12] dX10_subsumes_100 fX10_oneIf lX10_167 (by decide) rfl rfl (Nat.le_of_ble_eq_true rfl) (sX10_oneIf (h := h11) (l0 := r12) ?_)
          exact E_retI dX10_subsumes_103 rfl hP
        · replace hP := hP.2 (by omega)
          refine E_bipush dX10_subsumes_54 (by decide) ?_
          exact E_retI dX10_subsumes_56 rfl hP
      · replace hP := hP.2 (by omega)
        refine E_bipush dX10_subsumes_37 (by decide) ?_
        exact E_retI dX10_subsumes_39 rfl hP
    · replace hP := hP.2 (by have := ite0 hc; omega)
      refine E_iconst dX10_subsumes_14 (rg_of rfl) ?_
      exact E_retI dX10_subsumes_15 rfl hP
theorem dX10_pushInsertion_0 : decode prog_1_method_62_code 0 = .ok (.iconst 1, 1) := by decide +kernel
theorem dX10_pushInsertion_1 : decode prog_1_method_62_code 1 = .ok (.istore_n 1, 1) := by decide +kernel
theorem dX10_pushInsertion_2 : decode prog_1_method_62_code 2 = .ok (.iload_n 1, 1) := by decide +kernel
theorem dX10_pushInsertion_3 : decode prog_1_method_62_code 3 = .ok (.aload_n 0, 1) := by decide +kernel
theorem dX10_pushInsertion_4 : decode prog_1_method_62_code 4 = .ok (.getfield 108, 3) := by decide +kernel
theorem dX10_pushInsertion_7 : decode prog_1_method_62_code 7 = .ok (.if_icmp .ge 30, 3) := by decide +kernel
theorem dX10_pushInsertion_10 : decode prog_1_method_62_code 10 = .ok (.iload_n 1, 1) := by decide +kernel
theorem dX10_pushInsertion_11 : decode prog_1_method_62_code 11 = .ok (.istore_n 2, 1) := by decide +kernel
theorem dX10_pushInsertion_12 : decode prog_1_method_62_code 12 = .ok (.iload_n 2, 1) := by decide +kernel
theorem dX10_pushInsertion_13 : decode prog_1_method_62_code 13 = .ok (.iconst 1, 1) := by decide +kernel
theorem dX10_pushInsertion_14 : decode prog_1_method_62_code 14 = .ok (.if_icmp .lt 17, 3) := by decide +kernel
theorem dX10_pushInsertion_17 : decode prog_1_method_62_code 17 = .ok (.aload_n 0, 1) := by decide +kernel
theorem dX10_pushInsertion_18 : decode prog_1_method_62_code 18 = .ok (.iload_n 2, 1) := by decide +kernel
theorem dX10_pushInsertion_19 : decode prog_1_method_62_code 19 = .ok (.iconst 1, 1) := by decide +kernel
theorem dX10_pushInsertion_20 : decode prog_1_method_62_code 20 = .ok (.isub, 1) := by decide +kernel
theorem dX10_pushInsertion_21 : decode prog_1_method_62_code 21 = .ok (.iload_n 2, 1) := by decide +kernel
theorem dX10_pushInsertion_22 : decode prog_1_method_62_code 22 = .ok (.invokevirtual 228, 3) := by decide +kernel
theorem dX10_pushInsertion_25 : decode prog_1_method_62_code 25 = .ok (.iinc 2 (-1), 3) := by decide +kernel
theorem dX10_pushInsertion_28 : decode prog_1_method_62_code 28 = .ok (.goto (-16), 3) := by decide +kernel
theorem dX10_pushInsertion_31 : decode prog_1_method_62_code 31 = .ok (.iinc 1 1, 3) := by decide +kernel
theorem dX10_pushInsertion_34 : decode prog_1_method_62_code 34 = .ok (.goto (-32), 3) := by decide +kernel
theorem dX10_pushInsertion_37 : decode prog_1_method_62_code 37 = .ok (.return_, 1) := by decide +kernel
theorem sX10_pushInsertion_12 {Q : Hp → Prop} {h : Hp} {a0 l1 l2 : Int}
    (hP : ((l2 < 1) →
     (rj (l1 + 1)) ∧
     E 3 mX10_pushInsertion 2 [(0, vr a0), (1, vi (l1 + 1))] [] h (qv Q)) ∧
    ((l2 ≥ 1) →
     (rj (l2 - 1) ∧ nA a0) ∧
     CV 2 mX3_push [vr a0, vi (l2 - 1), vi l2] h (fun h4 =>
      (rj (l2 + (-1))) ∧
      E 3 mX10_pushInsertion 12 [(0, vr a0), (1, vi l1), (2, vi (l2 + (-1)))] [] h4 (qv Q)))) :
    E 3 mX10_pushInsertion 12 [(0, vr a0), (1, vi l1), (2, vi l2)] [] h (qv Q) := by
  refine E_iload_n 2 2 dX10_pushInsertion_12 rfl rfl ?_
  refine E_iconst dX10_pushInsertion_13 (rg_of rfl) ?_
  refine E_icmp_lt 31 dX10_pushInsertion_14 rfl (fun hc => ?_) (fun hc => ?_)
  · replace hP := hP.1 (hc)
    obtain ⟨v2_0, hP⟩ := hP
    refine E_iinc 1 dX10_pushInsertion_31 rfl (rgI v2_0) (by decide) rfl ?_
    refine E_goto 2 dX10_pushInsertion_34 rfl ?_
    exact E_sub [1, 0] rfl hP
  · replace hP := hP.2 (by omega)
    obtain ⟨⟨v3_0, v3_1⟩, hP⟩ := hP
    refine E_aload_n 0 0 dX10_pushInsertion_17 rfl rfl ?_
    refine E_iload_n 2 2 dX10_pushInsertion_18 rfl rfl ?_
    refine E_iconst dX10_pushInsertion_19 (rg_of rfl) ?_
    refine E_isub dX10_pushInsertion_20 (rgI v3_0) ?_
    refine E_iload_n 2 2 dX10_pushInsertion_21 rfl rfl ?_
    refine E_invVV [vi (l2 - 1), vi l2] dX10_pushInsertion_22 fX3_push lX10_228 (icN0 v3_1) rfl (by decide) rfl rfl (Nat.le_of_ble_eq_true rfl) (CV_mono hP (fun h4 hP => ?_))
    obtain ⟨v5_0, hP⟩ := hP
    refine E_iinc 2 dX10_pushInsertion_25 rfl (rgI v5_0) (by decide) rfl ?_
    refine E_goto 12 dX10_pushInsertion_28 rfl ?_
    exact E_sub [1, 2, 0] rfl hP
theorem sX10_pushInsertion_2 {Q : Hp → Prop} {h : Hp} {a0 l1 : Int}
    (hP : (nA a0) ∧
    ((l1 ≥ (h a0 0)) →
     Q h) ∧
    ((l1 < (h a0 0)) →
     E 3 mX10_pushInsertion 12 [(0, vr a0), (1, vi l1), (2, vi l1)] [] h (qv Q))) :
    E 3 mX10_pushInsertion 2 [(0, vr a0), (1, vi l1)] [] h (qv Q) := by
  obtain ⟨v1_0, hP⟩ := hP
  refine E_iload_n 1 1 dX10_pushInsertion_2 rfl rfl ?_
  refine E_aload_n 0 0 dX10_pushInsertion_3 rfl rfl ?_
  refine E_gI 0 0 dX10_pushInsertion_4 FX10_108 (icN0 v1_0) rfl ?_
  refine E_icmp_ge 37 dX10_pushInsertion_7 rfl (fun hc => ?_) (fun hc => ?_)
  · replace hP := hP.1 (hc)
    exact E_retV dX10_pushInsertion_37 rfl hP
  · replace hP := hP.2 (by omega)
    refine E_iload_n 1 1 dX10_pushInsertion_10 rfl rfl ?_
    refine E_istore_n dX10_pushInsertion_11 rfl (by decide) rfl ?_
    exact E_sub [1, 2, 0] rfl hP
theorem sX10_pushInsertion {Q : Hp → Prop} {h : Hp} {a0 : Int}
    (hP : E 3 mX10_pushInsertion 2 [(0, vr a0), (1, vi 1)] [] h (qv Q)) :
    CV 3 mX10_pushInsertion [vr a0] h Q := by
  refine CV_of_E fX10_pushInsertion.1 rfl (Nat.le_of_ble_eq_true rfl) ?_
  show E 3 mX10_pushInsertion 0 [(0, vr a0)] [] h (qv Q)
  refine E_iconst dX10_pushInsertion_0 (rg_of rfl) ?_
  refine E_istore_n dX10_pushInsertion_1 rfl (by decide) rfl ?_
  exact E_sub [1, 0] rfl hP
theorem dX10_pushBubbles_0 : decode prog_1_method_63_code 0 = .ok (.aload_n 0, 1) := by decide +kernel
theorem dX10_pushBubbles_1 : decode prog_1_method_63_code 1 = .ok (.getfield 108, 3) := by decide +kernel
theorem dX10_pushBubbles_4 : decode prog_1_method_63_code 4 = .ok (.iconst 1, 1) := by decide +kernel
theorem dX10_pushBubbles_5 : decode prog_1_method_63_code 5 = .ok (.isub, 1) := by decide +kernel
theorem dX10_pushBubbles_6 : decode prog_1_method_63_code 6 = .ok (.istore_n 1, 1) := by decide +kernel
theorem dX10_pushBubbles_7 : decode prog_1_method_63_code 7 = .ok (.iload_n 1, 1) := by decide +kernel
theorem dX10_pushBubbles_8 : decode prog_1_method_63_code 8 = .ok (.iconst 1, 1) := by decide +kernel
theorem dX10_pushBubbles_9 : decode prog_1_method_63_code 9 = .ok (.if_icmp .lt 30, 3) := by decide +kernel
theorem dX10_pushBubbles_12 : decode prog_1_method_63_code 12 = .ok (.iconst 0, 1) := by decide +kernel
theorem dX10_pushBubbles_13 : decode prog_1_method_63_code 13 = .ok (.istore_n 2, 1) := by decide +kernel
theorem dX10_pushBubbles_14 : decode prog_1_method_63_code 14 = .ok (.iload_n 2, 1) := by decide +kernel
theorem dX10_pushBubbles_15 : decode prog_1_method_63_code 15 = .ok (.iload_n 1, 1) := by decide +kernel
theorem dX10_pushBubbles_16 : decode prog_1_method_63_code 16 = .ok (.if_icmp .ge 17, 3) := by decide +kernel
theorem dX10_pushBubbles_19 : decode prog_1_method_63_code 19 = .ok (.aload_n 0, 1) := by decide +kernel
theorem dX10_pushBubbles_20 : decode prog_1_method_63_code 20 = .ok (.iload_n 2, 1) := by decide +kernel
theorem dX10_pushBubbles_21 : decode prog_1_method_63_code 21 = .ok (.iload_n 2, 1) := by decide +kernel
theorem dX10_pushBubbles_22 : decode prog_1_method_63_code 22 = .ok (.iconst 1, 1) := by decide +kernel
theorem dX10_pushBubbles_23 : decode prog_1_method_63_code 23 = .ok (.iadd, 1) := by decide +kernel
theorem dX10_pushBubbles_24 : decode prog_1_method_63_code 24 = .ok (.invokevirtual 228, 3) := by decide +kernel
theorem dX10_pushBubbles_27 : decode prog_1_method_63_code 27 = .ok (.iinc 2 1, 3) := by decide +kernel
theorem dX10_pushBubbles_30 : decode prog_1_method_63_code 30 = .ok (.goto (-16), 3) := by decide +kernel
theorem dX10_pushBubbles_33 : decode prog_1_method_63_code 33 = .ok (.iinc 1 (-1), 3) := by decide +kernel
theorem dX10_pushBubbles_36 : decode prog_1_method_63_code 36 = .ok (.goto (-29), 3) := by decide +kernel
theorem dX10_pushBubbles_39 : decode prog_1_method_63_code 39 = .ok (.return_, 1) := by decide +kernel
theorem sX10_pushBubbles_14 {Q : Hp → Prop} {h : Hp} {a0 l1 l2 : Int}
    (hP : ((l2 ≥ l1) →
     (rj (l1 + (-1))) ∧
     E 3 mX10_pushBubbles 7 [(0, vr a0), (1, vi (l1 + (-1)))] [] h (qv Q)) ∧
    ((l2 < l1) →
     (rj (l2 + 1) ∧ nA a0) ∧
     CV 2 mX3_push [vr a0, vi l2, vi (l2 + 1)] h (fun h4 =>
      (rj (l2 + 1)) ∧
      E 3 mX10_pushBubbles 14 [(0, vr a0), (1, vi l1), (2, vi (l2 + 1))] [] h4 (qv Q)))) :
    E 3 mX10_pushBubbles 14 [(0, vr a0), (1, vi l1), (2, vi l2)] [] h (qv Q) := by
  refine E_iload_n 2 2 dX10_pushBubbles_14 rfl rfl ?_
  refine E_iload_n 1 1 dX10_pushBubbles_15 rfl rfl ?_
  refine E_icmp_ge 33 dX10_pushBubbles_16 rfl (fun hc => ?_) (fun hc => ?_)
  · replace hP := hP.1 (hc)
    obtain ⟨v2_0, hP⟩ := hP
    refine E_iinc 1 dX10_pushBubbles_33 rfl (rgI v2_0) (by decide) rfl ?_
    refine E_goto 7 dX10_pushBubbles_36 rfl ?_
    exact E_sub [1, 0] rfl hP
  · replace hP := hP.2 (by omega)
    obtain ⟨⟨v3_0, v3_1⟩, hP⟩ := hP
    refine E_aload_n 0 0 dX10_pushBubbles_19 rfl rfl ?_
    refine E_iload_n 2 2 dX10_pushBubbles_20 rfl rfl ?_
    refine E_iload_n 2 2 dX10_pushBubbles_21 rfl rfl ?_
    refine E_iconst dX10_pushBubbles_22 (rg_of rfl) ?_
    refine E_iadd dX10_pushBubbles_23 (rgI v3_0) ?_
    refine E_invVV [vi l2, vi (l2 + 1)] dX10_pushBubbles_24 fX3_push lX10_228 (icN0 v3_1) rfl (by decide) rfl rfl (Nat.le_of_ble_eq_true rfl) (CV_mono hP (fun h4 hP => ?_))
    obtain ⟨v5_0, hP⟩ := hP
    refine E_iinc 2 dX10_pushBubbles_27 rfl (rgI v5_0) (by decide) rfl ?_
    refine E_goto 14 dX10_pushBubbles_30 rfl ?_
    exact E_sub [1, 2, 0] rfl hP
theorem sX10_pushBubbles_7 {Q : Hp → Prop} {h : Hp} {a0 l1 : Int}
    (hP : ((l1 < 1) →
     Q h) ∧
    ((l1 ≥ 1) →
     E 3 mX10_pushBubbles 14 [(0, vr a0), (1, vi l1), (2, vi 0)] [] h (qv Q))) :
    E 3 mX10_pushBubbles 7 [(0, vr a0), (1, vi l1)] [] h (qv Q) := by
  refine E_iload_n 1 1 dX10_pushBubbles_7 rfl rfl ?_
  refine E_iconst dX10_pushBubbles_8 (rg_of rfl) ?_
  refine E_icmp_lt 39 dX10_pushBubbles_9 rfl (fun hc => ?_) (fun hc => ?_)
  · replace hP := hP.1 (hc)
    exact E_retV dX10_pushBubbles_39 rfl hP
  · replace hP := hP.2 (by omega)
    refine E_iconst dX10_pushBubbles_12 (rg_of rfl) ?_
    refine E_istore_n dX10_pushBubbles_13 rfl (by decide) rfl ?_
    exact E_sub [1, 2, 0] rfl hP
theorem sX10_pushBubbles {Q : Hp → Prop} {h : Hp} {a0 : Int}
    (hP : (nA a0 ∧ rj ((h a0 0) - 1)) ∧
    E 3 mX10_pushBubbles 7 [(0, vr a0), (1, vi ((h a0 0) - 1))] [] h (qv Q)) :
    CV 3 mX10_pushBubbles [vr a0] h Q := by
  refine CV_of_E fX10_pushBubbles.1 rfl (Nat.le_of_ble_eq_true rfl) ?_
  show E 3 mX10_pushBubbles 0 [(0, vr a0)] [] h (qv Q)
  obtain ⟨⟨v1_0, v1_1⟩, hP⟩ := hP
  refine E_aload_n 0 0 dX10_pushBubbles_0 rfl rfl ?_
  refine E_gI 0 0 dX10_pushBubbles_1 FX10_108 (icN0 v1_0) rfl ?_
  refine E_iconst dX10_pushBubbles_4 (rg_of rfl) ?_
  refine E_isub dX10_pushBubbles_5 (rgI v1_1) ?_
  refine E_istore_n dX10_pushBubbles_6 rfl (by decide) rfl ?_
  exact E_sub [1, 0] rfl hP
theorem dX10_pushTransposition_0 : decode prog_1_method_64_code 0 = .ok (.iconst 0, 1) := by decide +kernel
theorem dX10_pushTransposition_1 : decode prog_1_method_64_code 1 = .ok (.istore_n 1, 1) := by decide +kernel
theorem dX10_pushTransposition_2 : decode prog_1_method_64_code 2 = .ok (.iload_n 1, 1) := by decide +kernel
theorem dX10_pushTransposition_3 : decode prog_1_method_64_code 3 = .ok (.aload_n 0, 1) := by decide +kernel
theorem dX10_pushTransposition_4 : decode prog_1_method_64_code 4 = .ok (.getfield 108, 3) := by decide +kernel
theorem dX10_pushTransposition_7 : decode prog_1_method_64_code 7 = .ok (.if_icmp .ge 16, 3) := by decide +kernel
theorem dX10_pushTransposition_10 : decode prog_1_method_64_code 10 = .ok (.aload_n 0, 1) := by decide +kernel
theorem dX10_pushTransposition_11 : decode prog_1_method_64_code 11 = .ok (.iload_n 1, 1) := by decide +kernel
theorem dX10_pushTransposition_12 : decode prog_1_method_64_code 12 = .ok (.iconst 2, 1) := by decide +kernel
theorem dX10_pushTransposition_13 : decode prog_1_method_64_code 13 = .ok (.irem, 1) := by decide +kernel
theorem dX10_pushTransposition_14 : decode prog_1_method_64_code 14 = .ok (.invokevirtual 344, 3) := by decide +kernel
theorem dX10_pushTransposition_17 : decode prog_1_method_64_code 17 = .ok (.iinc 1 1, 3) := by decide +kernel
theorem dX10_pushTransposition_20 : decode prog_1_method_64_code 20 = .ok (.goto (-18), 3) := by decide +kernel
theorem dX10_pushTransposition_23 : decode prog_1_method_64_code 23 = .ok (.return_, 1) := by decide +kernel
theorem sX10_pushTransposition_2 {Q : Hp → Prop} {h : Hp} {a0 l1 : Int}
    (hP : (nA a0) ∧
    ((l1 ≥ (h a0 0)) →
     Q h) ∧
    ((l1 < (h a0 0)) →
     (nA a0) ∧
     CV 3 mX3_pushNeighbours [vr a0, vi (j_irem l1 2)] h (fun h4 =>
      (rj (l1 + 1)) ∧
      E 4 mX10_pushTransposition 2 [(0, vr a0), (1, vi (l1 + 1))] [] h4 (qv Q)))) :
    E 4 mX10_pushTransposition 2 [(0, vr a0), (1, vi l1)] [] h (qv Q) := by
  obtain ⟨v1_0, hP⟩ := hP
  refine E_iload_n 1 1 dX10_pushTransposition_2 rfl rfl ?_
  refine E_aload_n 0 0 dX10_pushTransposition_3 rfl rfl ?_
  refine E_gI 0 0 dX10_pushTransposition_4 FX10_108 (icN0 v1_0) rfl ?_
  refine E_icmp_ge 23 dX10_pushTransposition_7 rfl (fun hc => ?_) (fun hc => ?_)
  · replace hP := hP.1 (hc)
    exact E_retV dX10_pushTransposition_23 rfl hP
  · replace hP := hP.2 (by omega)
    obtain ⟨v3_0, hP⟩ := hP
    refine E_aload_n 0 0 dX10_pushTransposition_10 rfl rfl ?_
    refine E_iload_n 1 1 dX10_pushTransposition_11 rfl rfl ?_
    refine E_iconst dX10_pushTransposition_12 (rg_of rfl) ?_
    refine E_irem dX10_pushTransposition_13 (by decide) ?_
    refine E_invVV [vi (j_irem l1 2)] dX10_pushTransposition_14 fX3_pushNeighbours lX10_344 (icN0 v3_0) rfl (by decide) rfl rfl (Nat.le_of_ble_eq_true rfl) (CV_mono hP (fun h4 hP => ?_))
    obtain ⟨v5_0, hP⟩ := hP
    refine E_iinc 1 dX10_pushTransposition_17 rfl (rgI v5_0) (by decide) rfl ?_
    refine E_goto 2 dX10_pushTransposition_20 rfl ?_
    exact E_sub [1, 0] rfl hP
theorem sX10_pushTransposition {Q : Hp → Prop} {h : Hp} {a0 : Int}
    (hP : E 4 mX10_pushTransposition 2 [(0, vr a0), (1, vi 0)] [] h (qv Q)) :
    CV 4 mX10_pushTransposition [vr a0] h Q := by
  refine CV_of_E fX10_pushTransposition.1 rfl (Nat.le_of_ble_eq_true rfl) ?_
  show E 4 mX10_pushTransposition 0 [(0, vr a0)] [] h (qv Q)
  refine E_iconst dX10_pushTransposition_0 (rg_of rfl) ?_
  refine E_istore_n dX10_pushTransposition_1 rfl (by decide) rfl ?_
  exact E_sub [1, 0] rfl hP
theorem dX10_pushApart_0 : decode prog_1_method_66_code 0 = .ok (.iconst 0, 1) := by decide +kernel
theorem dX10_pushApart_1 : decode prog_1_method_66_code 1 = .ok (.istore 4, 2) := by decide +kernel
theorem dX10_pushApart_3 : decode prog_1_method_66_code 3 = .ok (.iload 4, 2) := by decide +kernel
theorem dX10_pushApart_5 : decode prog_1_method_66_code 5 = .ok (.iload_n 1, 1) := by decide +kernel
theorem dX10_pushApart_6 : decode prog_1_method_66_code 6 = .ok (.iadd, 1) := by decide +kernel
theorem dX10_pushApart_7 : decode prog_1_method_66_code 7 = .ok (.aload_n 0, 1) := by decide +kernel
theorem dX10_pushApart_8 : decode prog_1_method_66_code 8 = .ok (.getfield 108, 3) := by decide +kernel
theorem dX10_pushApart_11 : decode prog_1_method_66_code 11 = .ok (.if_icmp .ge 27, 3) := by decide +kernel
theorem dX10_pushApart_14 : decode prog_1_method_66_code 14 = .ok (.iload 4, 2) := by decide +kernel
theorem dX10_pushApart_16 : decode prog_1_method_66_code 16 = .ok (.iload_n 2, 1) := by decide +kernel
theorem dX10_pushApart_17 : decode prog_1_method_66_code 17 = .ok (.iand, 1) := by decide +kernel
theorem dX10_pushApart_18 : decode prog_1_method_66_code 18 = .ok (.iload_n 3, 1) := by decide +kernel
theorem dX10_pushApart_19 : decode prog_1_method_66_code 19 = .ok (.if_icmp .ne 13, 3) := by decide +kernel
theorem dX10_pushApart_22 : decode prog_1_method_66_code 22 = .ok (.aload_n 0, 1) := by decide +kernel
theorem dX10_pushApart_23 : decode prog_1_method_66_code 23 = .ok (.iload 4, 2) := by decide +kernel
theorem dX10_pushApart_25 : decode prog_1_method_66_code 25 = .ok (.iload 4, 2) := by decide +kernel
theorem dX10_pushApart_27 : decode prog_1_method_66_code 27 = .ok (.iload_n 1, 1) := by decide +kernel
theorem dX10_pushApart_28 : decode prog_1_method_66_code 28 = .ok (.iadd, 1) := by decide +kernel
theorem dX10_pushApart_29 : decode prog_1_method_66_code 29 = .ok (.invokevirtual 228, 3) := by decide +kernel
theorem dX10_pushApart_32 : decode prog_1_method_66_code 32 = .ok (.iinc 4 1, 3) := by decide +kernel
theorem dX10_pushApart_35 : decode prog_1_method_66_code 35 = .ok (.goto (-32), 3) := by decide +kernel
theorem dX10_pushApart_38 : decode prog_1_method_66_code 38 = .ok (.return_, 1) := by decide +kernel
theorem sX10_pushApart_3 {Q : Hp → Prop} {h : Hp} {a0 l1 l2 l3 l4 : Int}
    (hP : (rj (l4 + l1) ∧ nA a0) ∧
    (((l4 + l1) ≥ (h a0 0)) →
     Q h) ∧
    (((l4 + l1) < (h a0 0)) →
     (((j_iand l4 l2) ≠ l3) →
      (rj (l4 + 1)) ∧
      E 3 mX10_pushApart 3 [(0, vr a0), (1, vi l1), (2, vi l2), (3, vi l3), (4, vi (l4 + 1))] [] h (qv Q)) ∧
     (((j_iand l4 l2) = l3) →
      (rj (l4 + l1) ∧ nA a0) ∧
      CV 2 mX3_push [vr a0, vi l4, vi (l4 + l1)] h (fun h6 =>
       (rj (l4 + 1)) ∧
       E 3 mX10_pushApart 3 [(0, vr a0), (1, vi l1), (2, vi l2), (3, vi l3), (4, vi (l4 + 1))] [] h6 (qv Q))))) :
    E 3 mX10_pushApart 3 [(0, vr a0), (1, vi l1), (2, vi l2), (3, vi l3), (4, vi l4)] [] h (qv Q) := by
  obtain ⟨⟨v1_0, v1_1⟩, hP⟩ := hP
  refine E_iload 4 dX10_pushApart_3 rfl ?_
  refine E_iload_n 1 1 dX10_pushApart_5 rfl rfl ?_
  refine E_iadd dX10_pushApart_6 (rgI v1_0) ?_
  refine E_aload_n 0 0 dX10_pushApart_7 rfl rfl ?_
  refine E_gI 0 0 dX10_pushApart_8 FX10_108 (icN0 v1_1) rfl ?_
  refine E_icmp_ge 38 dX10_pushApart_11 rfl (fun hc => ?_) (fun hc => ?_)
  · replace hP := hP.1 (hc)
    exact E_retV dX10_pushApart_38 rfl hP
  · replace hP := hP.2 (by omega)
    refine E_iload 4 dX10_pushApart_14 rfl ?_
    refine E_iload_n 2 2 dX10_pushApart_16 rfl rfl ?_
    refine E_iand dX10_pushApart_17 ?_
    refine E_iload_n 3 3 dX10_pushApart_18 rfl rfl ?_
    refine E_icmp_ne 32 dX10_pushApart_19 rfl (fun hc => ?_) (fun hc => ?_)
    · replace hP := hP.1 (hc)
      obtain ⟨v4_0, hP⟩ := hP
      refine E_iinc 4 dX10_pushApart_32 rfl (rgI v4_0) (by decide) rfl ?_
      refine E_goto 3 dX10_pushApart_35 rfl ?_
      exact E_sub [1, 2, 3, 4, 0] rfl hP
    · replace hP := hP.2 (by omega)
      obtain ⟨⟨v5_0, v5_1⟩, hP⟩ := hP
      refine E_aload_n 0 0 dX10_pushApart_22 rfl rfl ?_
      refine E_iload 4 dX10_pushApart_23 rfl ?_
      refine E_iload 4 dX10_pushApart_25 rfl ?_
      refine E_iload_n 1 1 dX10_pushApart_27 rfl rfl ?_
      refine E_iadd dX10_pushApart_28 (rgI v5_0) ?_
      refine E_invVV [vi l4, vi (l4 + l1)] dX10_pushApart_29 fX3_push lX10_228 (icN0 v5_1) rfl (by decide) rfl rfl (Nat.le_of_ble_eq_true rfl) (CV_mono hP (fun h6 hP => ?_))
      obtain ⟨v7_0, hP⟩ := hP
      refine E_iinc 4 dX10_pushApart_32 rfl (rgI v7_0) (by decide) rfl ?_
      refine E_goto 3 dX10_pushApart_35 rfl ?_
      exact E_sub [1, 2, 3, 4, 0] rfl hP
theorem sX10_pushApart {Q : Hp → Prop} {h : Hp} {a0 l1 l2 l3 : Int}
    (hP : E 3 mX10_pushApart 3 [(0, vr a0), (1, vi l1), (2, vi l2), (3, vi l3), (4, vi 0)] [] h (qv Q)) :
    CV 3 mX10_pushApart [vr a0, vi l1, vi l2, vi l3] h Q := by
  refine CV_of_E fX10_pushApart.1 rfl (Nat.le_of_ble_eq_true rfl) ?_
  show E 3 mX10_pushApart 0 [(0, vr a0), (1, vi l1), (2, vi l2), (3, vi l3)] [] h (qv Q)
  refine E_iconst dX10_pushApart_0 (rg_of rfl) ?_
  refine E_istore dX10_pushApart_1 (by decide) rfl ?_
  exact E_sub [1, 2, 3, 4, 0] rfl hP
theorem dX10_pushMergeExchange_0 : decode prog_1_method_65_code 0 = .ok (.iconst 1, 1) := by decide +kernel
theorem dX10_pushMergeExchange_1 : decode prog_1_method_65_code 1 = .ok (.istore_n 1, 1) := by decide +kernel
theorem dX10_pushMergeExchange_2 : decode prog_1_method_65_code 2 = .ok (.iconst 1, 1) := by decide +kernel
theorem dX10_pushMergeExchange_3 : decode prog_1_method_65_code 3 = .ok (.istore_n 2, 1) := by decide +kernel
theorem dX10_pushMergeExchange_4 : decode prog_1_method_65_code 4 = .ok (.iload_n 2, 1) := by decide +kernel
theorem dX10_pushMergeExchange_5 : decode prog_1_method_65_code 5 = .ok (.bipush 8, 2) := by decide +kernel
theorem dX10_pushMergeExchange_7 : decode prog_1_method_65_code 7 = .ok (.if_icmp .ge 23, 3) := by decide +kernel
theorem dX10_pushMergeExchange_10 : decode prog_1_method_65_code 10 = .ok (.iload_n 1, 1) := by decide +kernel
theorem dX10_pushMergeExchange_11 : decode prog_1_method_65_code 11 = .ok (.iconst 2, 1) := by decide +kernel
theorem dX10_pushMergeExchange_12 : decode prog_1_method_65_code 12 = .ok (.imul, 1) := by decide +kernel
theorem dX10_pushMergeExchange_13 : decode prog_1_method_65_code 13 = .ok (.aload_n 0, 1) := by decide +kernel
theorem dX10_pushMergeExchange_14 : decode prog_1_method_65_code 14 = .ok (.getfield 108, 3) := by decide +kernel
theorem dX10_pushMergeExchange_17 : decode prog_1_method_65_code 17 = .ok (.if_icmp .ge 13, 3) := by decide +kernel
theorem dX10_pushMergeExchange_20 : decode prog_1_method_65_code 20 = .ok (.iload_n 1, 1) := by decide +kernel
theorem dX10_pushMergeExchange_21 : decode prog_1_method_65_code 21 = .ok (.iconst 2, 1) := by decide +kernel
theorem dX10_pushMergeExchange_22 : decode prog_1_method_65_code 22 = .ok (.imul, 1) := by decide +kernel
theorem dX10_pushMergeExchange_23 : decode prog_1_method_65_code 23 = .ok (.istore_n 1, 1) := by decide +kernel
theorem dX10_pushMergeExchange_24 : decode prog_1_method_65_code 24 = .ok (.iinc 2 1, 3) := by decide +kernel
theorem dX10_pushMergeExchange_27 : decode prog_1_method_65_code 27 = .ok (.goto (-23), 3) := by decide +kernel
theorem dX10_pushMergeExchange_30 : decode prog_1_method_65_code 30 = .ok (.iload_n 1, 1) := by decide +kernel
theorem dX10_pushMergeExchange_31 : decode prog_1_method_65_code 31 = .ok (.istore_n 2, 1) := by decide +kernel
theorem dX10_pushMergeExchange_32 : decode prog_1_method_65_code 32 = .ok (.iload_n 2, 1) := by decide +kernel
theorem dX10_pushMergeExchange_33 : decode prog_1_method_65_code 33 = .ok (.iconst 1, 1) := by decide +kernel
theorem dX10_pushMergeExchange_34 : decode prog_1_method_65_code 34 = .ok (.if_icmp .lt 49, 3) := by decide +kernel
theorem dX10_pushMergeExchange_37 : decode prog_1_method_65_code 37 = .ok (.iconst 0, 1) := by decide +kernel
theorem dX10_pushMergeExchange_38 : decode prog_1_method_65_code 38 = .ok (.istore_n 3, 1) := by decide +kernel
theorem dX10_pushMergeExchange_39 : decode prog_1_method_65_code 39 = .ok (.iload_n 2, 1) := by decide +kernel
theorem dX10_pushMergeExchange_40 : decode prog_1_method_65_code 40 = .ok (.istore 4, 2) := by decide +kernel
theorem dX10_pushMergeExchange_42 : decode prog_1_method_65_code 42 = .ok (.iload_n 1, 1) := by decide +kernel
theorem dX10_pushMergeExchange_43 : decode prog_1_method_65_code 43 = .ok (.istore 5, 2) := by decide +kernel
theorem dX10_pushMergeExchange_45 : decode prog_1_method_65_code 45 = .ok (.iload 5, 2) := by decide +kernel
theorem dX10_pushMergeExchange_47 : decode prog_1_method_65_code 47 = .ok (.iload_n 2, 1) := by decide +kernel
theorem dX10_pushMergeExchange_48 : decode prog_1_method_65_code 48 = .ok (.if_icmp .lt 28, 3) := by decide +kernel
theorem dX10_pushMergeExchange_51 : decode prog_1_method_65_code 51 = .ok (.aload_n 0, 1) := by decide +kernel
theorem dX10_pushMergeExchange_52 : decode prog_1_method_65_code 52 = .ok (.iload 4, 2) := by decide +kernel
theorem dX10_pushMergeExchange_54 : decode prog_1_method_65_code 54 = .ok (.iload_n 2, 1) := by decide +kernel
theorem dX10_pushMergeExchange_55 : decode prog_1_method_65_code 55 = .ok (.iload_n 3, 1) := by decide +kernel
theorem dX10_pushMergeExchange_56 : decode prog_1_method_65_code 56 = .ok (.invokestatic 347, 3) := by decide +kernel
theorem dX10_pushMergeExchange_59 : decode prog_1_method_65_code 59 = .ok (.iload 5, 2) := by decide +kernel
theorem dX10_pushMergeExchange_61 : decode prog_1_method_65_code 61 = .ok (.iload_n 2, 1) := by decide +kernel
theorem dX10_pushMergeExchange_62 : decode prog_1_method_65_code 62 = .ok (.isub, 1) := by decide +kernel
theorem dX10_pushMergeExchange_63 : decode prog_1_method_65_code 63 = .ok (.istore 4, 2) := by decide +kernel
theorem dX10_pushMergeExchange_65 : decode prog_1_method_65_code 65 = .ok (.iload_n 2, 1) := by decide +kernel
theorem dX10_pushMergeExchange_66 : decode prog_1_method_65_code 66 = .ok (.istore_n 3, 1) := by decide +kernel
theorem dX10_pushMergeExchange_67 : decode prog_1_method_65_code 67 = .ok (.iload 5, 2) := by decide +kernel
theorem dX10_pushMergeExchange_69 : decode prog_1_method_65_code 69 = .ok (.iconst 2, 1) := by decide +kernel
theorem dX10_pushMergeExchange_70 : decode prog_1_method_65_code 70 = .ok (.idiv, 1) := by decide +kernel
theorem dX10_pushMergeExchange_71 : decode prog_1_method_65_code 71 = .ok (.istore 5, 2) := by decide +kernel
theorem dX10_pushMergeExchange_73 : decode prog_1_method_65_code 73 = .ok (.goto (-28), 3) := by decide +kernel
theorem dX10_pushMergeExchange_76 : decode prog_1_method_65_code 76 = .ok (.iload_n 2, 1) := by decide +kernel
theorem dX10_pushMergeExchange_77 : decode prog_1_method_65_code 77 = .ok (.iconst 2, 1) := by decide +kernel
theorem dX10_pushMergeExchange_78 : decode prog_1_method_65_code 78 = .ok (.idiv, 1) := by decide +kernel
theorem dX10_pushMergeExchange_79 : decode prog_1_method_65_code 79 = .ok (.istore_n 2, 1) := by decide +kernel
theorem dX10_pushMergeExchange_80 : decode prog_1_method_65_code 80 = .ok (.goto (-48), 3) := by decide +kernel
theorem dX10_pushMergeExchange_83 : decode prog_1_method_65_code 83 = .ok (.return_, 1) := by decide +kernel
theorem sX10_pushMergeExchange_45 {Q : Hp → Prop} {h : Hp} {a0 l1 l2 l3 l4 l5 : Int}
    (hP : ((l5 < l2) →
     E 4 mX10_pushMergeExchange 32 [(0, vr a0), (1, vi l1), (2, vi (j_idiv l2 2))] [] h (qv Q)) ∧
    ((l5 ≥ l2) →
     CV 3 mX10_pushApart [vr a0, vi l4, vi l2, vi l3] h (fun h4 =>
      (rj (l5 - l2)) ∧
      E 4 mX10_pushMergeExchange 45 [(0, vr a0), (1, vi l1), (2, vi l2), (3, vi l2), (4, vi (l5 - l2)), (5, vi (j_idiv l5 2))] [] h4 (qv Q)))) :
    E 4 mX10_pushMergeExchange 45 [(0, vr a0), (1, vi l1), (2, vi l2), (3, vi l3), (4, vi l4), (5, vi l5)] [] h (qv Q) := by
  refine E_iload 5 dX10_pushMergeExchange_45 rfl ?_
  refine E_iload_n 2 2 dX10_pushMergeExchange_47 rfl rfl ?_
  refine E_icmp_lt 76 dX10_pushMergeExchange_48 rfl (fun hc => ?_) (fun hc => ?_)
  · replace hP := hP.1 (hc)
    refine E_iload_n 2 2 dX10_pushMergeExchange_76 rfl rfl ?_
    refine E_iconst dX10_pushMergeExchange_77 (rg_of rfl) ?_
    refine E_idiv dX10_pushMergeExchange_78 (by decide) ?_
    refine E_istore_n dX10_pushMergeExchange_79 rfl (by decide) rfl ?_
    refine E_goto 32 dX10_pushMergeExchange_80 rfl ?_
    exact E_sub [1, 2, 0] rfl hP
  · replace hP := hP.2 (by omega)
    refine E_aload_n 0 0 dX10_pushMergeExchange_51 rfl rfl ?_
    refine E_iload 4 dX10_pushMergeExchange_52 rfl ?_
    refine E_iload_n 2 2 dX10_pushMergeExchange_54 rfl rfl ?_
    refine E_iload_n 3 3 dX10_pushMergeExchange_55 rfl rfl ?_
    refine E_invSV [vr a0, vi l4, vi l2, vi l3] dX10_pushMergeExchange_56 fX10_pushApart lX10_347 (by decide) rfl rfl (Nat.le_of_ble_eq_true rfl) (CV_mono hP (fun h4 hP => ?_))
    obtain ⟨v5_0, hP⟩ := hP
    refine E_iload 5 dX10_pushMergeExchange_59 rfl ?_
    refine E_iload_n 2 2 dX10_pushMergeExchange_61 rfl rfl ?_
    refine E_isub dX10_pushMergeExchange_62 (rgI v5_0) ?_
    refine E_istore dX10_pushMergeExchange_63 (by decide) rfl ?_
    refine E_iload_n 3 2 dX10_pushMergeExchange_65 rfl rfl ?_
    refine E_istore_n dX10_pushMergeExchange_66 rfl (by decide) rfl ?_
    refine E_iload 5 dX10_pushMergeExchange_67 rfl ?_
    refine E_iconst dX10_pushMergeExchange_69 (rg_of rfl) ?_
    refine E_idiv dX10_pushMergeExchange_70 (by decide) ?_
    refine E_istore dX10_pushMergeExchange_71 (by decide) rfl ?_
    refine E_goto 45 dX10_pushMergeExchange_73 rfl ?_
    exact E_sub [3, 4, 5, 1, 2, 0] rfl hP
theorem sX10_pushMergeExchange_32 {Q : Hp → Prop} {h : Hp} {a0 l1 l2 : Int}
    (hP : ((l2 < 1) →
     Q h) ∧
    ((l2 ≥ 1) →
     E 4 mX10_pushMergeExchange 45 [(0, vr a0), (1, vi l1), (2, vi l2), (3, vi 0), (4, vi l2), (5, vi l1)] [] h (qv Q))) :
    E 4 mX10_pushMergeExchange 32 [(0, vr a0), (1, vi l1), (2, vi l2)] [] h (qv Q) := by
  refine E_iload_n 2 2 dX10_pushMergeExchange_32 rfl rfl ?_
  refine E_iconst dX10_pushMergeExchange_33 (rg_of rfl) ?_
  refine E_icmp_lt 83 dX10_pushMergeExchange_34 rfl (fun hc => ?_) (fun hc => ?_)
  · replace hP := hP.1 (hc)
    exact E_retV dX10_pushMergeExchange_83 rfl hP
  · replace hP := hP.2 (by omega)
    refine E_iconst dX10_pushMergeExchange_37 (rg_of rfl) ?_
    refine E_istore_n dX10_pushMergeExchange_38 rfl (by decide) rfl ?_
    refine E_iload_n 3 2 dX10_pushMergeExchange_39 rfl rfl ?_
    refine E_istore dX10_pushMergeExchange_40 (by decide) rfl ?_
    refine E_iload_n 3 1 dX10_pushMergeExchange_42 rfl rfl ?_
    refine E_istore dX10_pushMergeExchange_43 (by decide) rfl ?_
    exact E_sub [3, 4, 5, 2, 1, 0] rfl hP
theorem sX10_pushMergeExchange_4 {Q : Hp → Prop} {h : Hp} {a0 l1 l2 : Int}
    (hP : ((l2 ≥ 8) →
     E 4 mX10_pushMergeExchange 32 [(0, vr a0), (1, vi l1), (2, vi l1)] [] h (qv Q)) ∧
    ((l2 < 8) →
     (rj (l1 * 2) ∧ nA a0) ∧
     (((l1 * 2) ≥ (h a0 0)) →
      E 4 mX10_pushMergeExchange 32 [(0, vr a0), (1, vi l1), (2, vi l1)] [] h (qv Q)) ∧
     (((l1 * 2) < (h a0 0)) →
      (rj (l1 * 2) ∧ rj (l2 + 1)) ∧
      E 4 mX10_pushMergeExchange 4 [(0, vr a0), (1, vi (l1 * 2)), (2, vi (l2 + 1))] [] h (qv Q)))) :
    E 4 mX10_pushMergeExchange 4 [(0, vr a0), (1, vi l1), (2, vi l2)] [] h (qv Q) := by
  refine E_iload_n 2 2 dX10_pushMergeExchange_4 rfl rfl ?_
  refine E_bipush dX10_pushMergeExchange_5 (by decide) ?_
  refine E_icmp_ge 30 dX10_pushMergeExchange_7 rfl (fun hc => ?_) (fun hc => ?_)
  · replace hP := hP.1 (hc)
    refine E_iload_n 1 1 dX10_pushMergeExchange_30 rfl rfl ?_
    refine E_istore_n dX10_pushMergeExchange_31 rfl (by decide) rfl ?_
    exact E_sub [1, 2, 0] rfl hP
  · replace hP := hP.2 (by omega)
    obtain ⟨⟨v3_0, v3_1⟩, hP⟩ := hP
    refine E_iload_n 1 1 dX10_pushMergeExchange_10 rfl rfl ?_
    refine E_iconst dX10_pushMergeExchange_11 (rg_of rfl) ?_
    refine E_imul dX10_pushMergeExchange_12 (rgI v3_0) ?_
    refine E_aload_n 0 0 dX10_pushMergeExchange_13 rfl rfl ?_
    refine E_gI 0 0 dX10_pushMergeExchange_14 FX10_108 (icN0 v3_1) rfl ?_
    refine E_icmp_ge 30 dX10_pushMergeExchange_17 rfl (fun hc => ?_) (fun hc => ?_)
    · replace hP := hP.1 (hc)
      refine E_iload_n 1 1 dX10_pushMergeExchange_30 rfl rfl ?_
      refine E_istore_n dX10_pushMergeExchange_31 rfl (by decide) rfl ?_
      exact E_sub [1, 2, 0] rfl hP
    · replace hP := hP.2 (by omega)
      obtain ⟨⟨v5_0, v5_1⟩, hP⟩ := hP
      refine E_iload_n 1 1 dX10_pushMergeExchange_20 rfl rfl ?_
      refine E_iconst dX10_pushMergeExchange_21 (rg_of rfl) ?_
      refine E_imul dX10_pushMergeExchange_22 (rgI v5_0) ?_
      refine E_istore_n dX10_pushMergeExchange_23 rfl (by decide) rfl ?_
      refine E_iinc 2 dX10_pushMergeExchange_24 rfl (rgI v5_1) (by decide) rfl ?_
      refine E_goto 4 dX10_pushMergeExchange_27 rfl ?_
      exact E_sub [2, 1, 0] rfl hP
theorem sX10_pushMergeExchange {Q : Hp → Prop} {h : Hp} {a0 : Int}
    (hP : E 4 mX10_pushMergeExchange 4 [(0, vr a0), (1, vi 1), (2, vi 1)] [] h (qv Q)) :
    CV 4 mX10_pushMergeExchange [vr a0] h Q := by
  refine CV_of_E fX10_pushMergeExchange.1 rfl (Nat.le_of_ble_eq_true rfl) ?_
  show E 4 mX10_pushMergeExchange 0 [(0, vr a0)] [] h (qv Q)
  refine E_iconst dX10_pushMergeExchange_0 (rg_of rfl) ?_
  refine E_istore_n dX10_pushMergeExchange_1 rfl (by decide) rfl ?_
  refine E_iconst dX10_pushMergeExchange_2 (rg_of rfl) ?_
  refine E_istore_n dX10_pushMergeExchange_3 rfl (by decide) rfl ?_
  exact E_sub [2, 1, 0] rfl hP
theorem dX10_build_0 : decode prog_1_method_39_code 0 = .ok (.iload_n 1, 1) := by decide +kernel
theorem dX10_build_1 : decode prog_1_method_39_code 1 = .ok (.invokestatic 90, 3) := by decide +kernel
theorem dX10_build_4 : decode prog_1_method_39_code 4 = .ok (.ifCond .ne 5, 3) := by decide +kernel
theorem dX10_build_7 : decode prog_1_method_39_code 7 = .ok (.iconst (-1), 1) := by decide +kernel
theorem dX10_build_8 : decode prog_1_method_39_code 8 = .ok (.ireturn, 1) := by decide +kernel
theorem dX10_build_9 : decode prog_1_method_39_code 9 = .ok (.iload_n 2, 1) := by decide +kernel
theorem dX10_build_10 : decode prog_1_method_39_code 10 = .ok (.invokestatic 94, 3) := by decide +kernel
theorem dX10_build_13 : decode prog_1_method_39_code 13 = .ok (.ifCond .eq 12, 3) := by decide +kernel
theorem dX10_build_16 : decode prog_1_method_39_code 16 = .ok (.iload_n 3, 1) := by decide +kernel
theorem dX10_build_17 : decode prog_1_method_39_code 17 = .ok (.ifCond .lt 8, 3) := by decide +kernel
theorem dX10_build_20 : decode prog_1_method_39_code 20 = .ok (.iload_n 3, 1) := by decide +kernel
theorem dX10_build_21 : decode prog_1_method_39_code 21 = .ok (.iconst 3, 1) := by decide +kernel
theorem dX10_build_22 : decode prog_1_method_39_code 22 = .ok (.if_icmp .le 6, 3) := by decide +kernel
theorem dX10_build_25 : decode prog_1_method_39_code 25 = .ok (.bipush (-2), 2) := by decide +kernel
theorem dX10_build_27 : decode prog_1_method_39_code 27 = .ok (.ireturn, 1) := by decide +kernel
theorem dX10_build_28 : decode prog_1_method_39_code 28 = .ok (.aload_n 0, 1) := by decide +kernel
theorem dX10_build_29 : decode prog_1_method_39_code 29 = .ok (.getfield 16, 3) := by decide +kernel
theorem dX10_build_32 : decode prog_1_method_39_code 32 = .ok (.iload_n 2, 1) := by decide +kernel
theorem dX10_build_33 : decode prog_1_method_39_code 33 = .ok (.invokevirtual 105, 3) := by decide +kernel
theorem dX10_build_36 : decode prog_1_method_39_code 36 = .ok (.iload_n 3, 1) := by decide +kernel
theorem dX10_build_37 : decode prog_1_method_39_code 37 = .ok (.tableswitch 57 0 2 #[27, 37, 47], 27) := by decide +kernel
theorem dX10_build_64 : decode prog_1_method_39_code 64 = .ok (.aload_n 0, 1) := by decide +kernel
theorem dX10_build_65 : decode prog_1_method_39_code 65 = .ok (.getfield 16, 3) := by decide +kernel
theorem dX10_build_68 : decode prog_1_method_39_code 68 = .ok (.invokestatic 274, 3) := by decide +kernel
theorem dX10_build_71 : decode prog_1_method_39_code 71 = .ok (.goto 30, 3) := by decide +kernel
theorem dX10_build_74 : decode prog_1_method_39_code 74 = .ok (.aload_n 0, 1) := by decide +kernel
theorem dX10_build_75 : decode prog_1_method_39_code 75 = .ok (.getfield 16, 3) := by decide +kernel
theorem dX10_build_78 : decode prog_1_method_39_code 78 = .ok (.invokestatic 277, 3) := by decide +kernel
theorem dX10_build_81 : decode prog_1_method_39_code 81 = .ok (.goto 20, 3) := by decide +kernel
theorem dX10_build_84 : decode prog_1_method_39_code 84 = .ok (.aload_n 0, 1) := by decide +kernel
theorem dX10_build_85 : decode prog_1_method_39_code 85 = .ok (.getfield 16, 3) := by decide +kernel
theorem dX10_build_88 : decode prog_1_method_39_code 88 = .ok (.invokestatic 280, 3) := by decide +kernel
theorem dX10_build_91 : decode prog_1_method_39_code 91 = .ok (.goto 10, 3) := by decide +kernel
theorem dX10_build_94 : decode prog_1_method_39_code 94 = .ok (.aload_n 0, 1) := by decide +kernel
theorem dX10_build_95 : decode prog_1_method_39_code 95 = .ok (.getfield 16, 3) := by decide +kernel
theorem dX10_build_98 : decode prog_1_method_39_code 98 = .ok (.invokestatic 283, 3) := by decide +kernel
theorem dX10_build_101 : decode prog_1_method_39_code 101 = .ok (.aload_n 0, 1) := by decide +kernel
theorem dX10_build_102 : decode prog_1_method_39_code 102 = .ok (.iload_n 1, 1) := by decide +kernel
theorem dX10_build_103 : decode prog_1_method_39_code 103 = .ok (.invokevirtual 143, 3) := by decide +kernel
theorem dX10_build_106 : decode prog_1_method_39_code 106 = .ok (.ireturn, 1) := by decide +kernel
theorem sX10_build {Q : Int → Hp → Prop} {h : Hp} {l1 l2 l3 : Int}
    (hP : ((l1 ≥ 0 ∧ l1 < 4) →
     ((l2 < 2 ∨ l2 > 8) →
      Q (-2) h) ∧
     ((l2 ≥ 2 ∧ l2 ≤ 8) →
      ((l3 < 0) →
       Q (-2) h) ∧
      ((l3 ≥ 0) →
       ((l3 ≤ 3) →
        (nA 16) ∧
        (l3 = 0 →
         CV 3 mX10_pushInsertion [vr 16] (up (up h 16 0 l2) 16 1 0) (fun h9 =>
          CI 6 mX10_replaceBySpare [vr 68, vi l1] h9 (fun r12 h11 =>
           Q r12 h11))) ∧
        (l3 = 1 →
         CV 3 mX10_pushBubbles [vr 16] (up (up h 16 0 l2) 16 1 0) (fun h15 =>
          CI 6 mX10_replaceBySpare [vr 68, vi l1] h15 (fun r18 h17 =>
           Q r18 h17))) ∧
        (l3 = 2 →
         CV 4 mX10_pushTransposition [vr 16] (up (up h 16 0 l2) 16 1 0) (fun h21 =>
          CI 6 mX10_replaceBySpare [vr 68, vi l1] h21 (fun r24 h23 =>
           Q r24 h23))) ∧
        (l3 < 0 ∨ 2 < l3 →
         CV 4 mX10_pushMergeExchange [vr 16] (up (up h 16 0 l2) 16 1 0) (fun h27 =>
          CI 6 mX10_replaceBySpare [vr 68, vi l1] h27 (fun r30 h29 =>
           Q r30 h29)))) ∧
       ((l3 > 3) →
        Q (-2) h)))) ∧
    ((l1 < 0 ∨ l1 ≥ 4) →
     Q (-1) h)) :
    CI 7 mX10_build [vr 68, vi l1, vi l2, vi l3] h Q := by
  refine CI_of_E fX10_build.1 rfl (Nat.le_of_ble_eq_true rfl) ?_
  show E 7 mX10_build 0 [(0, vr 68), (1, vi l1), (2, vi l2), (3, vi l3)] [] h (qi Q)
  refine E_iload_n 1 1 dX10_build_0 rfl rfl ?_
  refine E_invSI [vi l1] dX10_build_1 fX10_isNetwork lX10_90 (by decide) rfl rfl (Nat.le_of_ble_eq_true rfl) (sX10_isNetwork (h := h) (l0 := l1) ?_)
  refine E_if_ne 9 dX10_build_4 rfl (fun hc => ?_) (fun hc => ?_)
  · replace hP := hP.1 (by have := ite1' hc; omega)
    refine E_iload_n 2 2 dX10_build_9 rfl rfl ?_
    refine E_invSI [vi l2] dX10_build_10 fX10_isWireCount lX10_94 (by decide) rfl rfl (Nat.le_of_ble_eq_true rfl) (sX10_isWireCount (h := h) (l0 := l2) ?_)
    refine E_if_eq 25 dX10_build_13 rfl (fun hc => ?_) (fun hc => ?_)
    · replace hP := hP.1 (by have := ite0 hc; omega)
      refine E_bipush dX10_build_25 (by decide) ?_
      exact E_retI dX10_build_27 rfl hP
    · replace hP := hP.2 (by have := ite1 hc; omega)
      refine E_iload_n 3 3 dX10_build_16 rfl rfl ?_
      refine E_if_lt 25 dX10_build_17 rfl (fun hc => ?_) (fun hc => ?_)
      · replace hP := hP.1 (hc)
        refine E_bipush dX10_build_25 (by decide) ?_
        exact E_retI dX10_build_27 rfl hP
      · replace hP := hP.2 (by omega)
        refine E_iload_n 3 3 dX10_build_20 rfl rfl ?_
        refine E_iconst dX10_build_21 (rg_of rfl) ?_
        refine E_icmp_le 28 dX10_build_22 rfl (fun hc => ?_) (fun hc => ?_)
        · replace hP := hP.1 (hc)
          obtain ⟨v7_0, hP⟩ := hP
          refine E_aload_n 0 0 dX10_build_28 rfl rfl ?_
          refine E_gR 16 1 dX10_build_29 FX10_16 ic_68 (by decide) ?_
          refine E_iload_n 2 2 dX10_build_32 rfl rfl ?_
          refine E_invVV [vi l2] dX10_build_33 fX3_restart lX10_105 ic_16 rfl (by decide) rfl rfl (Nat.le_of_ble_eq_true rfl) (sX3_restart (h := h) (a0 := 16) (l1 := l2) ⟨v7_0, ?_⟩)
          refine E_iload_n 3 3 dX10_build_36 rfl rfl ?_
          rcases (by omega : l3 = 0 ∨ l3 = 1 ∨ l3 = 2 ∨ (l3 < 0 ∨ 2 < l3)) with hx | hx | hx | hx
          · replace hP := hP.1 hx
            refine E_tableIn 64 dX10_build_37 (by omega) (by omega) (by rw [hx]; rfl) rfl ?_
            refine E_aload_n 0 0 dX10_build_64 rfl rfl ?_
            refine E_gR 16 1 dX10_build_65 FX10_16 ic_68 (by decide) ?_
            refine E_invSV [vr 16] dX10_build_68 fX10_pushInsertion lX10_274 (by decide) rfl rfl (Nat.le_of_ble_eq_true rfl) (CV_mono hP (fun h9 hP => ?_))
            refine E_goto 101 dX10_build_71 rfl ?_
            refine E_aload_n 0 0 dX10_build_101 rfl rfl ?_
            refine E_iload_n 1 1 dX10_build_102 rfl rfl ?_
            refine E_invVI [vi l1] dX10_build_103 fX10_replaceBySpare lX10_143 ic_68 rfl (by decide) rfl rfl (Nat.le_of_ble_eq_true rfl) (CI_mono hP (fun r12 h11 hP => ?_))
            exact E_retI dX10_build_106 rfl hP
          · replace hP := hP.2.1 hx
            refine E_tableIn 74 dX10_build_37 (by omega) (by omega) (by rw [hx]; rfl) rfl ?_
            refine E_aload_n 0 0 dX10_build_74 rfl rfl ?_
            refine E_gR 16 1 dX10_build_75 FX10_16 ic_68 (by decide) ?_
            refine E_invSV [vr 16] dX10_build_78 fX10_pushBubbles lX10_277 (by decide) rfl rfl (Nat.le_of_ble_eq_true rfl) (CV_mono hP (fun h15 hP => ?_))
            refine E_goto 101 dX10_build_81 rfl ?_
            refine E_aload_n 0 0 dX10_build_101 rfl rfl ?_
            refine E_iload_n 1 1 dX10_build_102 rfl rfl ?_
            refine E_invVI [vi l1] dX10_build_103 fX10_replaceBySpare lX10_143 ic_68 rfl (by decide) rfl rfl (Nat.le_of_ble_eq_true rfl) (CI_mono hP (fun r18 h17 hP => ?_))
            exact E_retI dX10_build_106 rfl hP
          · replace hP := hP.2.2.1 hx
            refine E_tableIn 84 dX10_build_37 (by omega) (by omega) (by rw [hx]; rfl) rfl ?_
            refine E_aload_n 0 0 dX10_build_84 rfl rfl ?_
            refine E_gR 16 1 dX10_build_85 FX10_16 ic_68 (by decide) ?_
            refine E_invSV [vr 16] dX10_build_88 fX10_pushTransposition lX10_280 (by decide) rfl rfl (Nat.le_of_ble_eq_true rfl) (CV_mono hP (fun h21 hP => ?_))
            refine E_goto 101 dX10_build_91 rfl ?_
            refine E_aload_n 0 0 dX10_build_101 rfl rfl ?_
            refine E_iload_n 1 1 dX10_build_102 rfl rfl ?_
            refine E_invVI [vi l1] dX10_build_103 fX10_replaceBySpare lX10_143 ic_68 rfl (by decide) rfl rfl (Nat.le_of_ble_eq_true rfl) (CI_mono hP (fun r24 h23 hP => ?_))
            exact E_retI dX10_build_106 rfl hP
          · replace hP := hP.2.2.2 hx
            refine E_tableOut 94 dX10_build_37 hx rfl ?_
            refine E_aload_n 0 0 dX10_build_94 rfl rfl ?_
            refine E_gR 16 1 dX10_build_95 FX10_16 ic_68 (by decide) ?_
            refine E_invSV [vr 16] dX10_build_98 fX10_pushMergeExchange lX10_283 (by decide) rfl rfl (Nat.le_of_ble_eq_true rfl) (CV_mono hP (fun h27 hP => ?_))
            refine E_aload_n 0 0 dX10_build_101 rfl rfl ?_
            refine E_iload_n 1 1 dX10_build_102 rfl rfl ?_
            refine E_invVI [vi l1] dX10_build_103 fX10_replaceBySpare lX10_143 ic_68 rfl (by decide) rfl rfl (Nat.le_of_ble_eq_true rfl) (CI_mono hP (fun r30 h29 hP => ?_))
            exact E_retI dX10_build_106 rfl hP
        · replace hP := hP.2 (by omega)
          refine E_bipush dX10_build_25 (by decide) ?_
          exact E_retI dX10_build_27 rfl hP
  · replace hP := hP.2 (by have := ite0 hc; omega)
    refine E_iconst dX10_build_7 (rg_of rfl) ?_
    exact E_retI dX10_build_8 rfl hP
theorem dX10_sortedBits_0 : decode prog_1_method_68_code 0 = .ok (.iconst 1, 1) := by decide +kernel
theorem dX10_sortedBits_1 : decode prog_1_method_68_code 1 = .ok (.iload_n 0, 1) := by decide +kernel
theorem dX10_sortedBits_2 : decode prog_1_method_68_code 2 = .ok (.ishl, 1) := by decide +kernel
theorem dX10_sortedBits_3 : decode prog_1_method_68_code 3 = .ok (.iconst 1, 1) := by decide +kernel
theorem dX10_sortedBits_4 : decode prog_1_method_68_code 4 = .ok (.iload_n 0, 1) := by decide +kernel
theorem dX10_sortedBits_5 : decode prog_1_method_68_code 5 = .ok (.iload_n 1, 1) := by decide +kernel
theorem dX10_sortedBits_6 : decode prog_1_method_68_code 6 = .ok (.isub, 1) := by decide +kernel
theorem dX10_sortedBits_7 : decode prog_1_method_68_code 7 = .ok (.ishl, 1) := by decide +kernel
theorem dX10_sortedBits_8 : decode prog_1_method_68_code 8 = .ok (.isub, 1) := by decide +kernel
theorem dX10_sortedBits_9 : decode prog_1_method_68_code 9 = .ok (.ireturn, 1) := by decide +kernel
theorem sX10_sortedBits {Q : Int → Hp → Prop} {h : Hp} {l0 l1 : Int}
    (hP : (rj (l0 - l1) ∧ rj ((j_ishl 1 l0) - (j_ishl 1 (l0 - l1)))) ∧
    Q ((j_ishl 1 l0) - (j_ishl 1 (l0 - l1))) h) :
    CI 0 mX10_sortedBits [vi l0, vi l1] h Q := by
  refine CI_of_E fX10_sortedBits.1 rfl (Nat.le_of_ble_eq_true rfl) ?_
  show E 0 mX10_sortedBits 0 [(0, vi l0), (1, vi l1)] [] h (qi Q)
  obtain ⟨⟨v1_0, v1_1⟩, hP⟩ := hP
  refine E_iconst dX10_sortedBits_0 (rg_of rfl) ?_
  refine E_iload_n 0 0 dX10_sortedBits_1 rfl rfl ?_
  refine E_ishl dX10_sortedBits_2 ?_
  refine E_iconst dX10_sortedBits_3 (rg_of rfl) ?_
  refine E_iload_n 0 0 dX10_sortedBits_4 rfl rfl ?_
  refine E_iload_n 1 1 dX10_sortedBits_5 rfl rfl ?_
  refine E_isub dX10_sortedBits_6 (rgI v1_0) ?_
  refine E_ishl dX10_sortedBits_7 ?_
  refine E_isub dX10_sortedBits_8 (rgI v1_1) ?_
  exact E_retI dX10_sortedBits_9 rfl hP
theorem dX10_merges_0 : decode prog_1_method_67_code 0 = .ok (.aload_n 0, 1) := by decide +kernel
theorem dX10_merges_1 : decode prog_1_method_67_code 1 = .ok (.getfield 108, 3) := by decide +kernel
theorem dX10_merges_4 : decode prog_1_method_67_code 4 = .ok (.iload_n 1, 1) := by decide +kernel
theorem dX10_merges_5 : decode prog_1_method_67_code 5 = .ok (.isub, 1) := by decide +kernel
theorem dX10_merges_6 : decode prog_1_method_67_code 6 = .ok (.istore_n 2, 1) := by decide +kernel
theorem dX10_merges_7 : decode prog_1_method_67_code 7 = .ok (.iconst 0, 1) := by decide +kernel
theorem dX10_merges_8 : decode prog_1_method_67_code 8 = .ok (.istore_n 3, 1) := by decide +kernel
theorem dX10_merges_9 : decode prog_1_method_67_code 9 = .ok (.iload_n 3, 1) := by decide +kernel
theorem dX10_merges_10 : decode prog_1_method_67_code 10 = .ok (.iload_n 1, 1) := by decide +kernel
theorem dX10_merges_11 : decode prog_1_method_67_code 11 = .ok (.if_icmp .gt 58, 3) := by decide +kernel
theorem dX10_merges_14 : decode prog_1_method_67_code 14 = .ok (.iconst 0, 1) := by decide +kernel
theorem dX10_merges_15 : decode prog_1_method_67_code 15 = .ok (.istore 4, 2) := by decide +kernel
theorem dX10_merges_17 : decode prog_1_method_67_code 17 = .ok (.iload 4, 2) := by decide +kernel
theorem dX10_merges_19 : decode prog_1_method_67_code 19 = .ok (.iload_n 2, 1) := by decide +kernel
theorem dX10_merges_20 : decode prog_1_method_67_code 20 = .ok (.if_icmp .gt 43, 3) := by decide +kernel
theorem dX10_merges_23 : decode prog_1_method_67_code 23 = .ok (.iload_n 1, 1) := by decide +kernel
theorem dX10_merges_24 : decode prog_1_method_67_code 24 = .ok (.iload_n 3, 1) := by decide +kernel
theorem dX10_merges_25 : decode prog_1_method_67_code 25 = .ok (.invokestatic 351, 3) := by decide +kernel
theorem dX10_merges_28 : decode prog_1_method_67_code 28 = .ok (.iload_n 2, 1) := by decide +kernel
theorem dX10_merges_29 : decode prog_1_method_67_code 29 = .ok (.iload 4, 2) := by decide +kernel
theorem dX10_merges_31 : decode prog_1_method_67_code 31 = .ok (.invokestatic 351, 3) := by decide +kernel
theorem dX10_merges_34 : decode prog_1_method_67_code 34 = .ok (.iload_n 1, 1) := by decide +kernel
theorem dX10_merges_35 : decode prog_1_method_67_code 35 = .ok (.ishl, 1) := by decide +kernel
theorem dX10_merges_36 : decode prog_1_method_67_code 36 = .ok (.ior, 1) := by decide +kernel
theorem dX10_merges_37 : decode prog_1_method_67_code 37 = .ok (.istore 5, 2) := by decide +kernel
theorem dX10_merges_39 : decode prog_1_method_67_code 39 = .ok (.aload_n 0, 1) := by decide +kernel
theorem dX10_merges_40 : decode prog_1_method_67_code 40 = .ok (.iload 5, 2) := by decide +kernel
theorem dX10_merges_42 : decode prog_1_method_67_code 42 = .ok (.invokevirtual 176, 3) := by decide +kernel
theorem dX10_merges_45 : decode prog_1_method_67_code 45 = .ok (.aload_n 0, 1) := by decide +kernel
theorem dX10_merges_46 : decode prog_1_method_67_code 46 = .ok (.getfield 108, 3) := by decide +kernel
theorem dX10_merges_49 : decode prog_1_method_67_code 49 = .ok (.invokestatic 354, 3) := by decide +kernel
theorem dX10_merges_52 : decode prog_1_method_67_code 52 = .ok (.ifCond .ne 5, 3) := by decide +kernel
theorem dX10_merges_55 : decode prog_1_method_67_code 55 = .ok (.iconst 0, 1) := by decide +kernel
theorem dX10_merges_56 : decode prog_1_method_67_code 56 = .ok (.ireturn, 1) := by decide +kernel
theorem dX10_merges_57 : decode prog_1_method_67_code 57 = .ok (.iinc 4 1, 3) := by decide +kernel
theorem dX10_merges_60 : decode prog_1_method_67_code 60 = .ok (.goto (-43), 3) := by decide +kernel
theorem dX10_merges_63 : decode prog_1_method_67_code 63 = .ok (.iinc 3 1, 3) := by decide +kernel
theorem dX10_merges_66 : decode prog_1_method_67_code 66 = .ok (.goto (-57), 3) := by decide +kernel
theorem dX10_merges_69 : decode prog_1_method_67_code 69 = .ok (.iconst 1, 1) := by decide +kernel
theorem dX10_merges_70 : decode prog_1_method_67_code 70 = .ok (.ireturn, 1) := by decide +kernel
theorem sX10_merges_17 {Q : Int → Hp → Prop} {h : Hp} {a0 l1 l2 l3 l4 : Int}
    (hP : ((l4 > l2) →
     (rj (l3 + 1)) ∧
     E 2 mX10_merges 9 [(0, vr a0), (1, vi l1), (2, vi l2), (3, vi (l3 + 1))] [] h (qi Q)) ∧
    ((l4 ≤ l2) →
     (rj (l1 - l3) ∧ rj ((j_ishl 1 l1) - (j_ishl 1 (l1 - l3))) ∧ rj (l2 - l4) ∧ rj ((j_ishl 1 l2) - (j_ishl 1 (l2 - l4)))) ∧
     (∀ x4 : Int, x4 = (j_ior ((j_ishl 1 l1) - (j_ishl 1 (l1 - l3))) (j_ishl ((j_ishl 1 l2) - (j_ishl 1 (l2 - l4))) l1)) →
     (nA a0) ∧
     CI 1 mX3_carry [vr a0, vi x4] h (fun r7 h6 =>
      (nA a0) ∧
      CI 0 mX10_isSorted [vi r7, vi (h6 a0 0)] h6 (fun r10 h9 =>
       ((r10 ≠ 0) →
        (rj (l4 + 1)) ∧
        E 2 mX10_merges 17 [(0, vr a0), (1, vi l1), (2, vi l2), (3, vi l3), (4, vi (l4 + 1))] [] h9 (qi Q)) ∧
       ((r10 = 0) →
        Q 0 h9)))))) :
    E 2 mX10_merges 17 [(0, vr a0), (1, vi l1), (2, vi l2), (3, vi l3), (4, vi l4)] [] h (qi Q) := by
  refine E_iload 4 dX10_merges_17 rfl ?_
  refine E_iload_n 2 2 dX10_merges_19 rfl rfl ?_
  refine E_icmp_gt 63 dX10_merges_20 rfl (fun hc => ?_) (fun hc => ?_)
  · replace hP := hP.1 (hc)
    obtain ⟨v2_0, hP⟩ := hP
    refine E_iinc 3 dX10_merges_63 rfl (rgI v2_0) (by decide) rfl ?_
    refine E_goto 9 dX10_merges_66 rfl ?_
    exact E_sub [1, 2, 3, 0] rfl hP
  · replace hP := hP.2 (by omega)
    obtain ⟨⟨v3_0, v3_1, v3_2, v3_3⟩, hP⟩ := hP
    refine E_iload_n 1 1 dX10_merges_23 rfl rfl ?_
    refine E_iload_n 3 3 dX10_merges_24 rfl rfl ?_
    refine E_invSI [vi l1, vi l3] dX10_merges_25 fX10_sortedBits lX10_351 (by decide) rfl rfl (Nat.le_of_ble_eq_true rfl) (sX10_sortedBits (h := h) (l0 := l1) (l1 := l3) ⟨⟨v3_0, v3_1⟩, ?_⟩)
    refine E_iload_n 2 2 dX10_merges_28 rfl rfl ?_
    refine E_iload 4 dX10_merges_29 rfl ?_
    refine E_invSI [vi l2, vi l4] dX10_merges_31 fX10_sortedBits lX10_351 (by decide) rfl rfl (Nat.le_of_ble_eq_true rfl) (sX10_sortedBits (h := h) (l0 := l2) (l1 := l4) ⟨⟨v3_2, v3_3⟩, ?_⟩)
    refine E_iload_n 1 1 dX10_merges_34 rfl rfl ?_
    refine E_ishl dX10_merges_35 ?_
    refine E_ior dX10_merges_36 ?_
    obtain ⟨x4, hx4⟩ : ∃ x : Int, x = (j_ior ((j_ishl 1 l1) - (j_ishl 1 (l1 - l3))) (j_ishl ((j_ishl 1 l2) - (j_ishl 1 (l2 - l4))) l1)) := ⟨_, rfl⟩
    refine E_top hx4.symm ?_
    replace hP := hP x4 hx4
    refine E_istore dX10_merges_37 (by decide) rfl ?_
    obtain ⟨v5_0, hP⟩ := hP
    refine E_aload_n 1 0 dX10_merges_39 rfl rfl ?_
    refine E_iload 0 dX10_merges_40 rfl ?_
    refine E_invVI [vi x4] dX10_merges_42 fX3_carry lX10_176 (icN0 v5_0) rfl (by decide) rfl rfl (Nat.le_of_ble_eq_true rfl) (CI_mono hP (fun r7 h6 hP => ?_))
    obtain ⟨v8_0, hP⟩ := hP
    refine E_aload_n 1 0 dX10_merges_45 rfl rfl ?_
    refine E_gI 0 0 dX10_merges_46 FX10_108 (icN0 v8_0) rfl ?_
    refine E_invSI [vi r7, vi (h6 a0 0)] dX10_merges_49 fX10_isSorted lX10_354 (by decide) rfl rfl (Nat.le_of_ble_eq_true rfl) (CI_mono hP (fun r10 h9 hP => ?_))
    refine E_if_ne 57 dX10_merges_52 rfl (fun hc => ?_) (fun hc => ?_)
    · replace hP := hP.1 (hc)
      obtain ⟨v12_0, hP⟩ := hP
      refine E_iinc 5 dX10_merges_57 rfl (rgI v12_0) (by decide) rfl ?_
      refine E_goto 17 dX10_merges_60 rfl ?_
      exact E_sub [2, 3, 4, 5, 0] rfl hP
    · replace hP := hP.2 (by omega)
      refine E_iconst dX10_merges_55 (rg_of rfl) ?_
      exact E_retZ dX10_merges_56 rfl (Or.inl rfl) hP
theorem sX10_merges_9 {Q : Int → Hp → Prop} {h : Hp} {a0 l1 l2 l3 : Int}
    (hP : ((l3 > l1) →
     Q 1 h) ∧
    ((l3 ≤ l1) →
     E 2 mX10_merges 17 [(0, vr a0), (1, vi l1), (2, vi l2), (3, vi l3), (4, vi 0)] [] h (qi Q))) :
    E 2 mX10_merges 9 [(0, vr a0), (1, vi l1), (2, vi l2), (3, vi l3)] [] h (qi Q) := by
  refine E_iload_n 3 3 dX10_merges_9 rfl rfl ?_
  refine E_iload_n 1 1 dX10_merges_10 rfl rfl ?_
  refine E_icmp_gt 69 dX10_merges_11 rfl (fun hc => ?_) (fun hc => ?_)
  · replace hP := hP.1 (hc)
    refine E_iconst dX10_merges_69 (rg_of rfl) ?_
    exact E_retZ dX10_merges_70 rfl (Or.inr rfl) hP
  · replace hP := hP.2 (by omega)
    refine E_iconst dX10_merges_14 (rg_of rfl) ?_
    refine E_istore dX10_merges_15 (by decide) rfl ?_
    exact E_sub [1, 2, 3, 4, 0] rfl hP
theorem sX10_merges {Q : Int → Hp → Prop} {h : Hp} {a0 l1 : Int}
    (hP : (nA a0 ∧ rj ((h a0 0) - l1)) ∧
    E 2 mX10_merges 9 [(0, vr a0), (1, vi l1), (2, vi ((h a0 0) - l1)), (3, vi 0)] [] h (qi Q)) :
    CI 2 mX10_merges [vr a0, vi l1] h Q := by
  refine CI_of_E fX10_merges.1 rfl (Nat.le_of_ble_eq_true rfl) ?_
  show E 2 mX10_merges 0 [(0, vr a0), (1, vi l1)] [] h (qi Q)
  obtain ⟨⟨v1_0, v1_1⟩, hP⟩ := hP
  refine E_aload_n 0 0 dX10_merges_0 rfl rfl ?_
  refine E_gI 0 0 dX10_merges_1 FX10_108 (icN0 v1_0) rfl ?_
  refine E_iload_n 1 1 dX10_merges_4 rfl rfl ?_
  refine E_isub dX10_merges_5 (rgI v1_1) ?_
  refine E_istore_n dX10_merges_6 rfl (by decide) rfl ?_
  refine E_iconst dX10_merges_7 (rg_of rfl) ?_
  refine E_istore_n dX10_merges_8 rfl (by decide) rfl ?_
  exact E_sub [2, 3, 1, 0] rfl hP
theorem dX10_isMerger_0 : decode prog_1_method_40_code 0 = .ok (.iload_n 1, 1) := by decide +kernel
theorem dX10_isMerger_1 : decode prog_1_method_40_code 1 = .ok (.invokestatic 90, 3) := by decide +kernel
theorem dX10_isMerger_4 : decode prog_1_method_40_code 4 = .ok (.ifCond .ne 5, 3) := by decide +kernel
theorem dX10_isMerger_7 : decode prog_1_method_40_code 7 = .ok (.iconst (-1), 1) := by decide +kernel
theorem dX10_isMerger_8 : decode prog_1_method_40_code 8 = .ok (.ireturn, 1) := by decide +kernel
theorem dX10_isMerger_9 : decode prog_1_method_40_code 9 = .ok (.iload_n 2, 1) := by decide +kernel
theorem dX10_isMerger_10 : decode prog_1_method_40_code 10 = .ok (.ifCond .lt 16, 3) := by decide +kernel
theorem dX10_isMerger_13 : decode prog_1_method_40_code 13 = .ok (.iload_n 2, 1) := by decide +kernel
theorem dX10_isMerger_14 : decode prog_1_method_40_code 14 = .ok (.aload_n 0, 1) := by decide +kernel
theorem dX10_isMerger_15 : decode prog_1_method_40_code 15 = .ok (.getfield 11, 3) := by decide +kernel
theorem dX10_isMerger_18 : decode prog_1_method_40_code 18 = .ok (.iload_n 1, 1) := by decide +kernel
theorem dX10_isMerger_19 : decode prog_1_method_40_code 19 = .ok (.aaload, 1) := by decide +kernel
theorem dX10_isMerger_20 : decode prog_1_method_40_code 20 = .ok (.getfield 108, 3) := by decide +kernel
theorem dX10_isMerger_23 : decode prog_1_method_40_code 23 = .ok (.if_icmp .le 6, 3) := by decide +kernel
theorem dX10_isMerger_26 : decode prog_1_method_40_code 26 = .ok (.bipush (-2), 2) := by decide +kernel
theorem dX10_isMerger_28 : decode prog_1_method_40_code 28 = .ok (.ireturn, 1) := by decide +kernel
theorem dX10_isMerger_29 : decode prog_1_method_40_code 29 = .ok (.aload_n 0, 1) := by decide +kernel
theorem dX10_isMerger_30 : decode prog_1_method_40_code 30 = .ok (.getfield 11, 3) := by decide +kernel
theorem dX10_isMerger_33 : decode prog_1_method_40_code 33 = .ok (.iload_n 1, 1) := by decide +kernel
theorem dX10_isMerger_34 : decode prog_1_method_40_code 34 = .ok (.aaload, 1) := by decide +kernel
theorem dX10_isMerger_35 : decode prog_1_method_40_code 35 = .ok (.iload_n 2, 1) := by decide +kernel
theorem dX10_isMerger_36 : decode prog_1_method_40_code 36 = .ok (.invokestatic 286, 3) := by decide +kernel
theorem dX10_isMerger_39 : decode prog_1_method_40_code 39 = .ok (.invokestatic 167, 3) := by decide +kernel
theorem dX10_isMerger_42 : decode prog_1_method_40_code 42 = .ok (.ireturn, 1) := by decide +kernel
theorem sX10_isMerger {Q : Int → Hp → Prop} {h : Hp} {l1 l2 : Int}
    (hP : ((l1 ≥ 0 ∧ l1 < 4) →
     ((l2 < 0) →
      Q (-2) h) ∧
     ((l2 ≥ 0) →
      (ix l1 4 ∧ nA (4 * l1)) ∧
      ((l2 ≤ (h (4 * l1) 0)) →
       (ix l1 4) ∧
       CI 2 mX10_merges [vr (4 * l1), vi l2] h (fun r7 h6 =>
        Q (if r7 ≠ 0 then (1 : Int) else 0) h6)) ∧
      ((l2 > (h (4 * l1) 0)) →
       Q (-2) h))) ∧
    ((l1 < 0 ∨ l1 ≥ 4) →
     Q (-1) h)) :
    CI 3 mX10_isMerger [vr 68, vi l1, vi l2] h Q := by
  refine CI_of_E fX10_isMerger.1 rfl (Nat.le_of_ble_eq_true rfl) ?_
  show E 3 mX10_isMerger 0 [(0, vr 68), (1, vi l1), (2, vi l2)] [] h (qi Q)
  refine E_iload_n 1 1 dX10_isMerger_0 rfl rfl ?_
  refine E_invSI [vi l1] dX10_isMerger_1 fX10_isNetwork lX10_90 (by decide) rfl rfl (Nat.le_of_ble_eq_true rfl) (sX10_isNetwork (h := h) (l0 := l1) ?_)
  refine E_if_ne 9 dX10_isMerger_4 rfl (fun hc => ?_) (fun hc => ?_)
  · replace hP := hP.1 (by have := ite1' hc; omega)
    refine E_iload_n 2 2 dX10_isMerger_9 rfl rfl ?_
    refine E_if_lt 26 dX10_isMerger_10 rfl (fun hc => ?_) (fun hc => ?_)
    · replace hP := hP.1 (hc)
      refine E_bipush dX10_isMerger_26 (by decide) ?_
      exact E_retI dX10_isMerger_28 rfl hP
    · replace hP := hP.2 (by omega)
      obtain ⟨⟨v4_0, v4_1⟩, hP⟩ := hP
      refine E_iload_n 2 2 dX10_isMerger_13 rfl rfl ?_
      refine E_aload_n 0 0 dX10_isMerger_14 rfl rfl ?_
      refine E_gR 69 0 dX10_isMerger_15 FX10_11 ic_68 (by decide) ?_
      refine E_iload_n 1 1 dX10_isMerger_18 rfl rfl ?_
      refine E_aaloadN dX10_isMerger_19 ic_69 v4_0.1 v4_0.2 (rf_nets ⟨v4_0.1, v4_0.2⟩) ?_
      refine E_gI 0 0 dX10_isMerger_20 FX10_108 (icN0 v4_1) rfl ?_
      refine E_icmp_le 29 dX10_isMerger_23 rfl (fun hc => ?_) (fun hc => ?_)
      · replace hP := hP.1 (hc)
        obtain ⟨v5_0, hP⟩ := hP
        refine E_aload_n 0 0 dX10_isMerger_29 rfl rfl ?_
        refine E_gR 69 0 dX10_isMerger_30 FX10_11 ic_68 (by decide) ?_
        refine E_iload_n 1 1 dX10_isMerger_33 rfl rfl ?_
        refine E_aaloadN dX10_isMerger_34 ic_69 v5_0.1 v5_0.2 (rf_nets ⟨v5_0.1, v5_0.2⟩) ?_
        refine E_iload_n 2 2 dX10_isMerger_35 rfl rfl ?_
        refine E_invSI [vr (4 * l1), vi l2] dX10_isMerger_36 fX10_merges lX10_286 (by decide) rfl rfl (Nat.le_of_ble_eq_true rfl) (CI_mono hP (fun r7 h6 hP => ?_))
        refine E_invSI [vi r7] dX10_isMerger_39 fX10_oneIf lX10_167 (by decide) rfl rfl (Nat.le_of_ble_eq_true rfl) (sX10_oneIf (h := h6) (l0 := r7) ?_)
        exact E_retI dX10_isMerger_42 rfl hP
      · replace hP := hP.2 (by omega)
        refine E_bipush dX10_isMerger_26 (by decide) ?_
        exact E_retI dX10_isMerger_28 rfl hP
  · replace hP := hP.2 (by have := ite0 hc; omega)
    refine E_iconst dX10_isMerger_7 (rg_of rfl) ?_
    exact E_retI dX10_isMerger_8 rfl hP
theorem dX10_concatenate_0 : decode prog_1_method_41_code 0 = .ok (.iload_n 1, 1) := by decide +kernel
theorem dX10_concatenate_1 : decode prog_1_method_41_code 1 = .ok (.invokestatic 90, 3) := by decide +kernel
theorem dX10_concatenate_4 : decode prog_1_method_41_code 4 = .ok (.ifCond .eq 17, 3) := by decide +kernel
theorem dX10_concatenate_7 : decode prog_1_method_41_code 7 = .ok (.iload_n 2, 1) := by decide +kernel
theorem dX10_concatenate_8 : decode prog_1_method_41_code 8 = .ok (.invokestatic 90, 3) := by decide +kernel
theorem dX10_concatenate_11 : decode prog_1_method_41_code 11 = .ok (.ifCond .eq 10, 3) := by decide +kernel
theorem dX10_concatenate_14 : decode prog_1_method_41_code 14 = .ok (.iload_n 3, 1) := by decide +kernel
theorem dX10_concatenate_15 : decode prog_1_method_41_code 15 = .ok (.invokestatic 90, 3) := by decide +kernel
theorem dX10_concatenate_18 : decode prog_1_method_41_code 18 = .ok (.ifCond .ne 5, 3) := by decide +kernel
theorem dX10_concatenate_21 : decode prog_1_method_41_code 21 = .ok (.iconst (-1), 1) := by decide +kernel
theorem dX10_concatenate_22 : decode prog_1_method_41_code 22 = .ok (.ireturn, 1) := by decide +kernel
theorem dX10_concatenate_23 : decode prog_1_method_41_code 23 = .ok (.aload_n 0, 1) := by decide +kernel
theorem dX10_concatenate_24 : decode prog_1_method_41_code 24 = .ok (.getfield 11, 3) := by decide +kernel
theorem dX10_concatenate_27 : decode prog_1_method_41_code 27 = .ok (.iload_n 1, 1) := by decide +kernel
theorem dX10_concatenate_28 : decode prog_1_method_41_code 28 = .ok (.aaload, 1) := by decide +kernel
theorem dX10_concatenate_29 : decode prog_1_method_41_code 29 = .ok (.getfield 108, 3) := by decide +kernel
theorem dX10_concatenate_32 : decode prog_1_method_41_code 32 = .ok (.aload_n 0, 1) := by decide +kernel
theorem dX10_concatenate_33 : decode prog_1_method_41_code 33 = .ok (.getfield 11, 3) := by decide +kernel
theorem dX10_concatenate_36 : decode prog_1_method_41_code 36 = .ok (.iload_n 2, 1) := by decide +kernel
theorem dX10_concatenate_37 : decode prog_1_method_41_code 37 = .ok (.aaload, 1) := by decide +kernel
theorem dX10_concatenate_38 : decode prog_1_method_41_code 38 = .ok (.getfield 108, 3) := by decide +kernel
theorem dX10_concatenate_41 : decode prog_1_method_41_code 41 = .ok (.if_icmp .eq 6, 3) := by decide +kernel
theorem dX10_concatenate_44 : decode prog_1_method_41_code 44 = .ok (.bipush (-2), 2) := by decide +kernel
theorem dX10_concatenate_46 : decode prog_1_method_41_code 46 = .ok (.ireturn, 1) := by decide +kernel
theorem dX10_concatenate_47 : decode prog_1_method_41_code 47 = .ok (.aload_n 0, 1) := by decide +kernel
theorem dX10_concatenate_48 : decode prog_1_method_41_code 48 = .ok (.getfield 11, 3) := by decide +kernel
theorem dX10_concatenate_51 : decode prog_1_method_41_code 51 = .ok (.iload_n 1, 1) := by decide +kernel
theorem dX10_concatenate_52 : decode prog_1_method_41_code 52 = .ok (.aaload, 1) := by decide +kernel
theorem dX10_concatenate_53 : decode prog_1_method_41_code 53 = .ok (.getfield 101, 3) := by decide +kernel
theorem dX10_concatenate_56 : decode prog_1_method_41_code 56 = .ok (.aload_n 0, 1) := by decide +kernel
theorem dX10_concatenate_57 : decode prog_1_method_41_code 57 = .ok (.getfield 11, 3) := by decide +kernel
theorem dX10_concatenate_60 : decode prog_1_method_41_code 60 = .ok (.iload_n 2, 1) := by decide +kernel
theorem dX10_concatenate_61 : decode prog_1_method_41_code 61 = .ok (.aaload, 1) := by decide +kernel
theorem dX10_concatenate_62 : decode prog_1_method_41_code 62 = .ok (.getfield 101, 3) := by decide +kernel
theorem dX10_concatenate_65 : decode prog_1_method_41_code 65 = .ok (.iadd, 1) := by decide +kernel
theorem dX10_concatenate_66 : decode prog_1_method_41_code 66 = .ok (.bipush 40, 2) := by decide +kernel
theorem dX10_concatenate_68 : decode prog_1_method_41_code 68 = .ok (.if_icmp .le 6, 3) := by decide +kernel
theorem dX10_concatenate_71 : decode prog_1_method_41_code 71 = .ok (.bipush (-3), 2) := by decide +kernel
theorem dX10_concatenate_73 : decode prog_1_method_41_code 73 = .ok (.ireturn, 1) := by decide +kernel
theorem dX10_concatenate_74 : decode prog_1_method_41_code 74 = .ok (.aload_n 0, 1) := by decide +kernel
theorem dX10_concatenate_75 : decode prog_1_method_41_code 75 = .ok (.getfield 16, 3) := by decide +kernel
theorem dX10_concatenate_78 : decode prog_1_method_41_code 78 = .ok (.aload_n 0, 1) := by decide +kernel
theorem dX10_concatenate_79 : decode prog_1_method_41_code 79 = .ok (.getfield 11, 3) := by decide +kernel
theorem dX10_concatenate_82 : decode prog_1_method_41_code 82 = .ok (.iload_n 1, 1) := by decide +kernel
theorem dX10_concatenate_83 : decode prog_1_method_41_code 83 = .ok (.aaload, 1) := by decide +kernel
theorem dX10_concatenate_84 : decode prog_1_method_41_code 84 = .ok (.invokevirtual 231, 3) := by decide +kernel
theorem dX10_concatenate_87 : decode prog_1_method_41_code 87 = .ok (.aload_n 0, 1) := by decide +kernel
theorem dX10_concatenate_88 : decode prog_1_method_41_code 88 = .ok (.getfield 16, 3) := by decide +kernel
theorem dX10_concatenate_91 : decode prog_1_method_41_code 91 = .ok (.aload_n 0, 1) := by decide +kernel
theorem dX10_concatenate_92 : decode prog_1_method_41_code 92 = .ok (.getfield 11, 3) := by decide +kernel
theorem dX10_concatenate_95 : decode prog_1_method_41_code 95 = .ok (.iload_n 2, 1) := by decide +kernel
theorem dX10_concatenate_96 : decode prog_1_method_41_code 96 = .ok (.aaload, 1) := by decide +kernel
theorem dX10_concatenate_97 : decode prog_1_method_41_code 97 = .ok (.iconst 0, 1) := by decide +kernel
theorem dX10_concatenate_98 : decode prog_1_method_41_code 98 = .ok (.invokevirtual 289, 3) := by decide +kernel
theorem dX10_concatenate_101 : decode prog_1_method_41_code 101 = .ok (.aload_n 0, 1) := by decide +kernel
theorem dX10_concatenate_102 : decode prog_1_method_41_code 102 = .ok (.iload_n 3, 1) := by decide +kernel
theorem dX10_concatenate_103 : decode prog_1_method_41_code 103 = .ok (.invokevirtual 143, 3) := by decide +kernel
theorem dX10_concatenate_106 : decode prog_1_method_41_code 106 = .ok (.ireturn, 1) := by decide +kernel
theorem sX10_concatenate {Q : Int → Hp → Prop} {h : Hp} {l1 l2 l3 : Int}
    (hP : ((l1 < 0 ∨ l1 ≥ 4) →
     Q (-1) h) ∧
    ((l1 ≥ 0 ∧ l1 < 4) →
     ((l2 < 0 ∨ l2 ≥ 4) →
      Q (-1) h) ∧
     ((l2 ≥ 0 ∧ l2 < 4) →
      ((l3 ≥ 0 ∧ l3 < 4) →
       (ix l1 4 ∧ nA (4 * l1) ∧ ix l2 4 ∧ nA (4 * l2)) ∧
       (((h (4 * l1) 0) = (h (4 * l2) 0)) →
        (ix l1 4 ∧ nA (4 * l1) ∧ ix l2 4 ∧ nA (4 * l2) ∧ rj ((h (4 * l1) 1) + (h (4 * l2) 1))) ∧
        ((((h (4 * l1) 1) + (h (4 * l2) 1)) ≤ 40) →
         (ix l1 4) ∧
         CV 3 mX3_takeOver [vr 16, vr (4 * l1)] h (fun h9 =>
          (ix l2 4) ∧
          CV 3 mX3_pushAll [vr 16, vr (4 * l2), vi 0] h9 (fun h11 =>
           CI 6 mX10_replaceBySpare [vr 68, vi l3] h11 (fun r14 h13 =>
            Q r14 h13)))) ∧
        ((((h (4 * l1) 1) + (h (4 * l2) 1)) > 40) →
         Q (-3) h)) ∧
       (((h (4 * l1) 0) ≠ (h (4 * l2) 0)) →
        Q (-2) h)) ∧
      ((l3 < 0 ∨ l3 ≥ 4) →
       Q (-1) h)))) :
    CI 7 mX10_concatenate [vr 68, vi l1, vi l2, vi l3] h Q := by
  refine CI_of_E fX10_concatenate.1 rfl (Nat.le_of_ble_eq_true rfl) ?_
  show E 7 mX10_concatenate 0 [(0, vr 68), (1, vi l1), (2, vi l2), (3, vi l3)] [] h (qi Q)
  refine E_iload_n 1 1 dX10_concatenate_0 rfl rfl ?_
  refine E_invSI [vi l1] dX10_concatenate_1 fX10_isNetwork lX10_90 (by decide) rfl rfl (Nat.le_of_ble_eq_true rfl) (sX10_isNetwork (h := h) (l0 := l1) ?_)
  refine E_if_eq 21 dX10_concatenate_4 rfl (fun hc => ?_) (fun hc => ?_)
  · replace hP := hP.1 (by have := ite0 hc; omega)
    refine E_iconst dX10_concatenate_21 (rg_of rfl) ?_
    exact E_retI dX10_concatenate_22 rfl hP
  · replace hP := hP.2 (by have := ite1 hc; omega)
    refine E_iload_n 2 2 dX10_concatenate_7 rfl rfl ?_
    refine E_invSI [vi l2] dX10_concatenate_8 fX10_isNetwork lX10_90 (by decide) rfl rfl (Nat.le_of_ble_eq_true rfl) (sX10_isNetwork (h := h) (l0 := l2) ?_)
    refine E_if_eq 21 dX10_concatenate_11 rfl (fun hc => ?_) (fun hc => ?_)
    · replace hP := hP.1 (by have := ite0 hc; omega)
      refine E_iconst dX10_concatenate_21 (rg_of rfl) ?_
      exact E_retI dX10_concatenate_22 rfl hP
    · replace hP := hP.2 (by have := ite1 hc; omega)
      refine E_iload_n 3 3 dX10_concatenate_14 rfl rfl ?_
      refine E_invSI [vi l3] dX10_concatenate_15 fX10_isNetwork lX10_90 (by decide) rfl rfl (Nat.le_of_ble_eq_true rfl) (sX10_isNetwork (h := h) (l0 := l3) ?_)
      refine E_if_ne 23 dX10_concatenate_18 rfl (fun hc => ?_) (fun hc => ?_)
      · replace hP := hP.1 (by have := ite1' hc; omega)
        obtain ⟨⟨v6_0, v6_1, v6_2, v6_3⟩, hP⟩ := hP
        refine E_aload_n 0 0 dX10_concatenate_23 rfl rfl ?_
        refine E_gR 69 0 dX10_concatenate_24 FX10_11 ic_68 (by decide) ?_
        refine E_iload_n 1 1 dX10_concatenate_27 rfl rfl ?_
        refine E_aaloadN dX10_concatenate_28 ic_69 v6_0.1 v6_0.2 (rf_nets ⟨v6_0.1, v6_0.2⟩) ?_
        refine E_gI 0 0 dX10_concatenate_29 FX10_108 (icN0 v6_1) rfl ?_
        refine E_aload_n 0 0 dX10_concatenate_32 rfl rfl ?_
        refine E_gR 69 0 dX10_concatenate_33 FX10_11 ic_68 (by decide) ?_
        refine E_iload_n 2 2 dX10_concatenate_36 rfl rfl ?_
        refine E_aaloadN dX10_concatenate_37 ic_69 v6_2.1 v6_2.2 (rf_nets ⟨v6_2.1, v6_2.2⟩) ?_
        refine E_gI 0 0 dX10_concatenate_38 FX10_108 (icN0 v6_3) rfl ?_
        refine E_icmp_eq 47 dX10_concatenate_41 rfl (fun hc => ?_) (fun hc => ?_)
        · replace hP := hP.1 (hc)
          obtain ⟨⟨v7_0, v7_1, v7_2, v7_3, v7_4⟩, hP⟩ := hP
          refine E_aload_n 0 0 dX10_concatenate_47 rfl rfl ?_
          refine E_gR 69 0 dX10_concatenate_48 FX10_11 ic_68 (by decide) ?_
          refine E_iload_n 1 1 dX10_concatenate_51 rfl rfl ?_
          refine E_aaloadN dX10_concatenate_52 ic_69 v7_0.1 v7_0.2 (rf_nets ⟨v7_0.1, v7_0.2⟩) ?_
          refine E_gI 1 1 dX10_concatenate_53 FX10_101 (icN0 v7_1) rfl ?_
          refine E_aload_n 0 0 dX10_concatenate_56 rfl rfl ?_
          refine E_gR 69 0 dX10_concatenate_57 FX10_11 ic_68 (by decide) ?_
          refine E_iload_n 2 2 dX10_concatenate_60 rfl rfl ?_
          refine E_aaloadN dX10_concatenate_61 ic_69 v7_2.1 v7_2.2 (rf_nets ⟨v7_2.1, v7_2.2⟩) ?_
          refine E_gI 1 1 dX10_concatenate_62 FX10_101 (icN0 v7_3) rfl ?_
          refine E_iadd dX10_concatenate_65 (rgI v7_4) ?_
          refine E_bipush dX10_concatenate_66 (by decide) ?_
          refine E_icmp_le 74 dX10_concatenate_68 rfl (fun hc => ?_) (fun hc => ?_)
          · replace hP := hP.1 (hc)
            obtain ⟨v8_0, hP⟩ := hP
            refine E_aload_n 0 0 dX10_concatenate_74 rfl rfl ?_
            refine E_gR 16 1 dX10_concatenate_75 FX10_16 ic_68 (by decide) ?_
            refine E_aload_n 0 0 dX10_concatenate_78 rfl rfl ?_
            refine E_gR 69 0 dX10_concatenate_79 FX10_11 ic_68 (by decide) ?_
            refine E_iload_n 1 1 dX10_concatenate_82 rfl rfl ?_
            refine E_aaloadN dX10_concatenate_83 ic_69 v8_0.1 v8_0.2 (rf_nets ⟨v8_0.1, v8_0.2⟩) ?_
            refine E_invVV [vr (4 * l1)] dX10_concatenate_84 fX3_takeOver lX10_231 ic_16 rfl (by decide) rfl rfl (Nat.le_of_ble_eq_true rfl) (CV_mono hP (fun h9 hP => ?_))
            obtain ⟨v10_0, hP⟩ := hP
            refine E_aload_n 0 0 dX10_concatenate_87 rfl rfl ?_
            refine E_gR 16 1 dX10_concatenate_88 FX10_16 ic_68 (by decide) ?_
            refine E_aload_n 0 0 dX10_concatenate_91 rfl rfl ?_
            refine E_gR 69 0 dX10_concatenate_92 FX10_11 ic_68 (by decide) ?_
            refine E_iload_n 2 2 dX10_concatenate_95 rfl rfl ?_
            refine E_aaloadN dX10_concatenate_96 ic_69 v10_0.1 v10_0.2 (rf_nets ⟨v10_0.1, v10_0.2⟩) ?_
            refine E_iconst dX10_concatenate_97 (rg_of rfl) ?_
            refine E_invVV [vr (4 * l2), vi 0] dX10_concatenate_98 fX3_pushAll lX10_289 ic_16 rfl (by decide) rfl rfl (Nat.le_of_ble_eq_true rfl) (CV_mono hP (fun h11 hP => ?_))
            refine E_aload_n 0 0 dX10_concatenate_101 rfl rfl ?_
            refine E_iload_n 3 3 dX10_concatenate_102 rfl rfl ?_
            refine E_invVI [vi l3] dX10_concatenate_103 fX10_replaceBySpare lX10_143 ic_68 rfl (by decide) rfl rfl (Nat.le_of_ble_eq_true rfl) (CI_mono hP (fun r14 h13 hP => ?_))
            exact E_retI dX10_concatenate_106 rfl hP
          · replace hP := hP.2 (by omega)
            refine E_bipush dX10_concatenate_71 (by decide) ?_
            exact E_retI dX10_concatenate_73 rfl hP
        · replace hP := hP.2 (by omega)
          refine E_bipush dX10_concatenate_44 (by decide) ?_
          exact E_retI dX10_concatenate_46 rfl hP
      · replace hP := hP.2 (by have := ite0 hc; omega)
        refine E_iconst dX10_concatenate_21 (rg_of rfl) ?_
        exact E_retI dX10_concatenate_22 rfl hP
theorem dX10_beside_0 : decode prog_1_method_42_code 0 = .ok (.iload_n 1, 1) := by decide +kernel
theorem dX10_beside_1 : decode prog_1_method_42_code 1 = .ok (.invokestatic 90, 3) := by decide +kernel
theorem dX10_beside_4 : decode prog_1_method_42_code 4 = .ok (.ifCond .eq 17, 3) := by decide +kernel
theorem dX10_beside_7 : decode prog_1_method_42_code 7 = .ok (.iload_n 2, 1) := by decide +kernel
theorem dX10_beside_8 : decode prog_1_method_42_code 8 = .ok (.invokestatic 90, 3) := by decide +kernel
theorem dX10_beside_11 : decode prog_1_method_42_code 11 = .ok (.ifCond .eq 10, 3) := by decide +kernel
theorem dX10_beside_14 : decode prog_1_method_42_code 14 = .ok (.iload_n 3, 1) := by decide +kernel
theorem dX10_beside_15 : decode prog_1_method_42_code 15 = .ok (.invokestatic 90, 3) := by decide +kernel
theorem dX10_beside_18 : decode prog_1_method_42_code 18 = .ok (.ifCond .ne 5, 3) := by decide +kernel
theorem dX10_beside_21 : decode prog_1_method_42_code 21 = .ok (.iconst (-1), 1) := by decide +kernel
theorem dX10_beside_22 : decode prog_1_method_42_code 22 = .ok (.ireturn, 1) := by decide +kernel
theorem dX10_beside_23 : decode prog_1_method_42_code 23 = .ok (.aload_n 0, 1) := by decide +kernel
theorem dX10_beside_24 : decode prog_1_method_42_code 24 = .ok (.getfield 11, 3) := by decide +kernel
theorem dX10_beside_27 : decode prog_1_method_42_code 27 = .ok (.iload_n 1, 1) := by decide +kernel
theorem dX10_beside_28 : decode prog_1_method_42_code 28 = .ok (.aaload, 1) := by decide +kernel
theorem dX10_beside_29 : decode prog_1_method_42_code 29 = .ok (.getfield 108, 3) := by decide +kernel
theorem dX10_beside_32 : decode prog_1_method_42_code 32 = .ok (.aload_n 0, 1) := by decide +kernel
theorem dX10_beside_33 : decode prog_1_method_42_code 33 = .ok (.getfield 11, 3) := by decide +kernel
theorem dX10_beside_36 : decode prog_1_method_42_code 36 = .ok (.iload_n 2, 1) := by decide +kernel
theorem dX10_beside_37 : decode prog_1_method_42_code 37 = .ok (.aaload, 1) := by decide +kernel
theorem dX10_beside_38 : decode prog_1_method_42_code 38 = .ok (.getfield 108, 3) := by decide +kernel
theorem dX10_beside_41 : decode prog_1_method_42_code 41 = .ok (.iadd, 1) := by decide +kernel
theorem dX10_beside_42 : decode prog_1_method_42_code 42 = .ok (.istore 4, 2) := by decide +kernel
theorem dX10_beside_44 : decode prog_1_method_42_code 44 = .ok (.iload 4, 2) := by decide +kernel
theorem dX10_beside_46 : decode prog_1_method_42_code 46 = .ok (.bipush 8, 2) := by decide +kernel
theorem dX10_beside_48 : decode prog_1_method_42_code 48 = .ok (.if_icmp .le 6, 3) := by decide +kernel
theorem dX10_beside_51 : decode prog_1_method_42_code 51 = .ok (.bipush (-6), 2) := by decide +kernel
theorem dX10_beside_53 : decode prog_1_method_42_code 53 = .ok (.ireturn, 1) := by decide +kernel
theorem dX10_beside_54 : decode prog_1_method_42_code 54 = .ok (.aload_n 0, 1) := by decide +kernel
theorem dX10_beside_55 : decode prog_1_method_42_code 55 = .ok (.getfield 11, 3) := by decide +kernel
theorem dX10_beside_58 : decode prog_1_method_42_code 58 = .ok (.iload_n 1, 1) := by decide +kernel
theorem dX10_beside_59 : decode prog_1_method_42_code 59 = .ok (.aaload, 1) := by decide +kernel
theorem dX10_beside_60 : decode prog_1_method_42_code 60 = .ok (.getfield 101, 3) := by decide +kernel
theorem dX10_beside_63 : decode prog_1_method_42_code 63 = .ok (.aload_n 0, 1) := by decide +kernel
theorem dX10_beside_64 : decode prog_1_method_42_code 64 = .ok (.getfield 11, 3) := by decide +kernel
theorem dX10_beside_67 : decode prog_1_method_42_code 67 = .ok (.iload_n 2, 1) := by decide +kernel
theorem dX10_beside_68 : decode prog_1_method_42_code 68 = .ok (.aaload, 1) := by decide +kernel
theorem dX10_beside_69 : decode prog_1_method_42_code 69 = .ok (.getfield 101, 3) := by decide +kernel
theorem dX10_beside_72 : decode prog_1_method_42_code 72 = .ok (.iadd, 1) := by decide +kernel
theorem dX10_beside_73 : decode prog_1_method_42_code 73 = .ok (.bipush 40, 2) := by decide +kernel
theorem dX10_beside_75 : decode prog_1_method_42_code 75 = .ok (.if_icmp .le 6, 3) := by decide +kernel
theorem dX10_beside_78 : decode prog_1_method_42_code 78 = .ok (.bipush (-3), 2) := by decide +kernel
theorem dX10_beside_80 : decode prog_1_method_42_code 80 = .ok (.ireturn, 1) := by decide +kernel
theorem dX10_beside_81 : decode prog_1_method_42_code 81 = .ok (.aload_n 0, 1) := by decide +kernel
theorem dX10_beside_82 : decode prog_1_method_42_code 82 = .ok (.getfield 16, 3) := by decide +kernel
theorem dX10_beside_85 : decode prog_1_method_42_code 85 = .ok (.iload 4, 2) := by decide +kernel
theorem dX10_beside_87 : decode prog_1_method_42_code 87 = .ok (.invokevirtual 105, 3) := by decide +kernel
theorem dX10_beside_90 : decode prog_1_method_42_code 90 = .ok (.aload_n 0, 1) := by decide +kernel
theorem dX10_beside_91 : decode prog_1_method_42_code 91 = .ok (.getfield 16, 3) := by decide +kernel
theorem dX10_beside_94 : decode prog_1_method_42_code 94 = .ok (.aload_n 0, 1) := by decide +kernel
theorem dX10_beside_95 : decode prog_1_method_42_code 95 = .ok (.getfield 11, 3) := by decide +kernel
theorem dX10_beside_98 : decode prog_1_method_42_code 98 = .ok (.iload_n 1, 1) := by decide +kernel
theorem dX10_beside_99 : decode prog_1_method_42_code 99 = .ok (.aaload, 1) := by decide +kernel
theorem dX10_beside_100 : decode prog_1_method_42_code 100 = .ok (.iconst 0, 1) := by decide +kernel
theorem dX10_beside_101 : decode prog_1_method_42_code 101 = .ok (.invokevirtual 289, 3) := by decide +kernel
theorem dX10_beside_104 : decode prog_1_method_42_code 104 = .ok (.aload_n 0, 1) := by decide +kernel
theorem dX10_beside_105 : decode prog_1_method_42_code 105 = .ok (.getfield 16, 3) := by decide +kernel
theorem dX10_beside_108 : decode prog_1_method_42_code 108 = .ok (.aload_n 0, 1) := by decide +kernel
theorem dX10_beside_109 : decode prog_1_method_42_code 109 = .ok (.getfield 11, 3) := by decide +kernel
theorem dX10_beside_112 : decode prog_1_method_42_code 112 = .ok (.iload_n 2, 1) := by decide +kernel
theorem dX10_beside_113 : decode prog_1_method_42_code 113 = .ok (.aaload, 1) := by decide +kernel
theorem dX10_beside_114 : decode prog_1_method_42_code 114 = .ok (.aload_n 0, 1) := by decide +kernel
theorem dX10_beside_115 : decode prog_1_method_42_code 115 = .ok (.getfield 11, 3) := by decide +kernel
theorem dX10_beside_118 : decode prog_1_method_42_code 118 = .ok (.iload_n 1, 1) := by decide +kernel
theorem dX10_beside_119 : decode prog_1_method_42_code 119 = .ok (.aaload, 1) := by decide +kernel
theorem dX10_beside_120 : decode prog_1_method_42_code 120 = .ok (.getfield 108, 3) := by decide +kernel
theorem dX10_beside_123 : decode prog_1_method_42_code 123 = .ok (.invokevirtual 289, 3) := by decide +kernel
theorem dX10_beside_126 : decode prog_1_method_42_code 126 = .ok (.aload_n 0, 1) := by decide +kernel
theorem dX10_beside_127 : decode prog_1_method_42_code 127 = .ok (.iload_n 3, 1) := by decide +kernel
theorem dX10_beside_128 : decode prog_1_method_42_code 128 = .ok (.invokevirtual 143, 3) := by decide +kernel
theorem dX10_beside_131 : decode prog_1_method_42_code 131 = .ok (.pop, 1) := by decide +kernel
theorem dX10_beside_132 : decode prog_1_method_42_code 132 = .ok (.iload 4, 2) := by decide +kernel
theorem dX10_beside_134 : decode prog_1_method_42_code 134 = .ok (.ireturn, 1) := by decide +kernel
theorem sX10_beside {Q : Int → Hp → Prop} {h : Hp} {l1 l2 l3 : Int}
    (hP : ((l1 < 0 ∨ l1 ≥ 4) →
     Q (-1) h) ∧
    ((l1 ≥ 0 ∧ l1 < 4) →
     ((l2 < 0 ∨ l2 ≥ 4) →
      Q (-1) h) ∧
     ((l2 ≥ 0 ∧ l2 < 4) →
      ((l3 ≥ 0 ∧ l3 < 4) →
       (ix l1 4 ∧ nA (4 * l1) ∧ ix l2 4 ∧ nA (4 * l2) ∧ rj ((h (4 * l1) 0) + (h (4 * l2) 0))) ∧
       (∀ x7 : Int, x7 = ((h (4 * l1) 0) + (h (4 * l2) 0)) →
       ((x7 ≤ 8) →
        (ix l1 4 ∧ nA (4 * l1) ∧ ix l2 4 ∧ nA (4 * l2) ∧ rj ((h (4 * l1) 1) + (h (4 * l2) 1))) ∧
        ((((h (4 * l1) 1) + (h (4 * l2) 1)) ≤ 40) →
         (nA 16 ∧ ix l1 4) ∧
         CV 3 mX3_pushAll [vr 16, vr (4 * l1), vi 0] (up (up h 16 0 x7) 16 1 0) (fun h11 =>
          (ix l2 4 ∧ ix l1 4 ∧ nA (4 * l1)) ∧
          CV 3 mX3_pushAll [vr 16, vr (4 * l2), vi (h11 (4 * l1) 0)] h11 (fun h13 =>
           CI 6 mX10_replaceBySpare [vr 68, vi l3] h13 (fun r16 h15 =>
            Q x7 h15)))) ∧
        ((((h (4 * l1) 1) + (h (4 * l2) 1)) > 40) →
         Q (-3) h)) ∧
       ((x7 > 8) →
        Q (-6) h))) ∧
      ((l3 < 0 ∨ l3 ≥ 4) →
       Q (-1) h)))) :
    CI 7 mX10_beside [vr 68, vi l1, vi l2, vi l3] h Q := by
  refine CI_of_E fX10_beside.1 rfl (Nat.le_of_ble_eq_true rfl) ?_
  show E 7 mX10_beside 0 [(0, vr 68), (1, vi l1), (2, vi l2), (3, vi l3)] [] h (qi Q)
  refine E_iload_n 1 1 dX10_beside_0 rfl rfl ?_
  refine E_invSI [vi l1] dX10_beside_1 fX10_isNetwork lX10_90 (by decide) rfl rfl (Nat.le_of_ble_eq_true rfl) (sX10_isNetwork (h := h) (l0 := l1) ?_)
  refine E_if_eq 21 dX10_beside_4 rfl (fun hc => ?_) (fun hc => ?_)
  · replace hP := hP.1 (by have := ite0 hc; omega)
    refine E_iconst dX10_beside_21 (rg_of rfl) ?_
    exact E_retI dX10_beside_22 rfl hP
  · replace hP := hP.2 (by have := ite1 hc; omega)
    refine E_iload_n 2 2 dX10_beside_7 rfl rfl ?_
    refine E_invSI [vi l2] dX10_beside_8 fX10_isNetwork lX10_90 (by decide) rfl rfl (Nat.le_of_ble_eq_true rfl) (sX10_isNetwork (h := h) (l0 := l2) ?_)
    refine E_if_eq 21 dX10_beside_11 rfl (fun hc => ?_) (fun hc => ?_)
    · replace hP := hP.1 (by have := ite0 hc; omega)
      refine E_iconst dX10_beside_21 (rg_of rfl) ?_
      exact E_retI dX10_beside_22 rfl hP
    · replace hP := hP.2 (by have := ite1 hc; omega)
      refine E_iload_n 3 3 dX10_beside_14 rfl rfl ?_
      refine E_invSI [vi l3] dX10_beside_15 fX10_isNetwork lX10_90 (by decide) rfl rfl (Nat.le_of_ble_eq_true rfl) (sX10_isNetwork (h := h) (l0 := l3) ?_)
      refine E_if_ne 23 dX10_beside_18 rfl (fun hc => ?_) (fun hc => ?_)
      · replace hP := hP.1 (by have := ite1' hc; omega)
        obtain ⟨⟨v6_0, v6_1, v6_2, v6_3, v6_4⟩, hP⟩ := hP
        refine E_aload_n 0 0 dX10_beside_23 rfl rfl ?_
        refine E_gR 69 0 dX10_beside_24 FX10_11 ic_68 (by decide) ?_
        refine E_iload_n 1 1 dX10_beside_27 rfl rfl ?_
        refine E_aaloadN dX10_beside_28 ic_69 v6_0.1 v6_0.2 (rf_nets ⟨v6_0.1, v6_0.2⟩) ?_
        refine E_gI 0 0 dX10_beside_29 FX10_108 (icN0 v6_1) rfl ?_
        refine E_aload_n 0 0 dX10_beside_32 rfl rfl ?_
        refine E_gR 69 0 dX10_beside_33 FX10_11 ic_68 (by decide) ?_
        refine E_iload_n 2 2 dX10_beside_36 rfl rfl ?_
        refine E_aaloadN dX10_beside_37 ic_69 v6_2.1 v6_2.2 (rf_nets ⟨v6_2.1, v6_2.2⟩) ?_
        refine E_gI 0 0 dX10_beside_38 FX10_108 (icN0 v6_3) rfl ?_
        refine E_iadd dX10_beside_41 (rgI v6_4) ?_
        obtain ⟨x7, hx7⟩ : ∃ x : Int, x = ((h (4 * l1) 0) + (h (4 * l2) 0)) := ⟨_, rfl⟩
        refine E_top hx7.symm ?_
        replace hP := hP x7 hx7
        refine E_istore dX10_beside_42 (by decide) rfl ?_
        refine E_iload 0 dX10_beside_44 rfl ?_
        refine E_bipush dX10_beside_46 (by decide) ?_
        refine E_icmp_le 54 dX10_beside_48 rfl (fun hc => ?_) (fun hc => ?_)
        · replace hP := hP.1 (hc)
          obtain ⟨⟨v9_0, v9_1, v9_2, v9_3, v9_4⟩, hP⟩ := hP
          refine E_aload_n 1 0 dX10_beside_54 rfl rfl ?_
          refine E_gR 69 0 dX10_beside_55 FX10_11 ic_68 (by decide) ?_
          refine E_iload_n 2 1 dX10_beside_58 rfl rfl ?_
          refine E_aaloadN dX10_beside_59 ic_69 v9_0.1 v9_0.2 (rf_nets ⟨v9_0.1, v9_0.2⟩) ?_
          refine E_gI 1 1 dX10_beside_60 FX10_101 (icN0 v9_1) rfl ?_
          refine E_aload_n 1 0 dX10_beside_63 rfl rfl ?_
          refine E_gR 69 0 dX10_beside_64 FX10_11 ic_68 (by decide) ?_
          refine E_iload_n 3 2 dX10_beside_67 rfl rfl ?_
          refine E_aaloadN dX10_beside_68 ic_69 v9_2.1 v9_2.2 (rf_nets ⟨v9_2.1, v9_2.2⟩) ?_
          refine E_gI 1 1 dX10_beside_69 FX10_101 (icN0 v9_3) rfl ?_
          refine E_iadd dX10_beside_72 (rgI v9_4) ?_
          refine E_bipush dX10_beside_73 (by decide) ?_
          refine E_icmp_le 81 dX10_beside_75 rfl (fun hc => ?_) (fun hc => ?_)
          · replace hP := hP.1 (hc)
            obtain ⟨⟨v10_0, v10_1⟩, hP⟩ := hP
            refine E_aload_n 1 0 dX10_beside_81 rfl rfl ?_
            refine E_gR 16 1 dX10_beside_82 FX10_16 ic_68 (by decide) ?_
            refine E_iload 0 dX10_beside_85 rfl ?_
            refine E_invVV [vi x7] dX10_beside_87 fX3_restart lX10_105 ic_16 rfl (by decide) rfl rfl (Nat.le_of_ble_eq_true rfl) (sX3_restart (h := h) (a0 := 16) (l1 := x7) ⟨v10_0, ?_⟩)
            refine E_aload_n 1 0 dX10_beside_90 rfl rfl ?_
            refine E_gR 16 1 dX10_beside_91 FX10_16 ic_68 (by decide) ?_
            refine E_aload_n 1 0 dX10_beside_94 rfl rfl ?_
            refine E_gR 69 0 dX10_beside_95 FX10_11 ic_68 (by decide) ?_
            refine E_iload_n 2 1 dX10_beside_98 rfl rfl ?_
            refine E_aaloadN dX10_beside_99 ic_69 v10_1.1 v10_1.2 (rf_nets ⟨v10_1.1, v10_1.2⟩) ?_
            refine E_iconst dX10_beside_100 (rg_of rfl) ?_
            refine E_invVV [vr (4 * l1), vi 0] dX10_beside_101 fX3_pushAll lX10_289 ic_16 rfl (by decide) rfl rfl (Nat.le_of_ble_eq_true rfl) (CV_mono hP (fun h11 hP => ?_))
            obtain ⟨⟨v12_0, v12_1, v12_2⟩, hP⟩ := hP
            refine E_aload_n 1 0 dX10_beside_104 rfl rfl ?_
            refine E_gR 16 1 dX10_beside_105 FX10_16 ic_68 (by decide) ?_
            refine E_aload_n 1 0 dX10_beside_108 rfl rfl ?_
            refine E_gR 69 0 dX10_beside_109 FX10_11 ic_68 (by decide) ?_
            refine E_iload_n 3 2 dX10_beside_112 rfl rfl ?_
            refine E_aaloadN dX10_beside_113 ic_69 v12_0.1 v12_0.2 (rf_nets ⟨v12_0.1, v12_0.2⟩) ?_
            refine E_aload_n 1 0 dX10_beside_114 rfl rfl ?_
            refine E_gR 69 0 dX10_beside_115 FX10_11 ic_68 (by decide) ?_
            refine E_iload_n 2 1 dX10_beside_118 rfl rfl ?_
            refine E_aaloadN dX10_beside_119 ic_69 v12_1.1 v12_1.2 (rf_nets ⟨v12_1.1, v12_1.2⟩) ?_
            refine E_gI 0 0 dX10_beside_120 FX10_108 (icN0 v12_2) rfl ?_
            refine E_invVV [vr (4 * l2), vi (h11 (4 * l1) 0)] dX10_beside_123 fX3_pushAll lX10_289 ic_16 rfl (by decide) rfl rfl (Nat.le_of_ble_eq_true rfl) (CV_mono hP (fun h13 hP => ?_))
            refine E_aload_n 1 0 dX10_beside_126 rfl rfl ?_
            refine E_iload_n 4 3 dX10_beside_127 rfl rfl ?_
            refine E_invVI [vi l3] dX10_beside_128 fX10_replaceBySpare lX10_143 ic_68 rfl (by decide) rfl rfl (Nat.le_of_ble_eq_true rfl) (CI_mono hP (fun r16 h15 hP => ?_))
            refine E_pop dX10_beside_131 rfl ?_
            refine E_iload 0 dX10_beside_132 rfl ?_
            exact E_retI dX10_beside_134 rfl hP
          · replace hP := hP.2 (by omega)
            refine E_bipush dX10_beside_78 (by decide) ?_
            exact E_retI dX10_beside_80 rfl hP
        · replace hP := hP.2 (by omega)
          refine E_bipush dX10_beside_51 (by decide) ?_
          exact E_retI dX10_beside_53 rfl hP
      · replace hP := hP.2 (by have := ite0 hc; omega)
        refine E_iconst dX10_beside_21 (rg_of rfl) ?_
        exact E_retI dX10_beside_22 rfl hP
theorem dX10_undo_0 : decode prog_1_method_43_code 0 = .ok (.aload_n 0, 1) := by decide +kernel
theorem dX10_undo_1 : decode prog_1_method_43_code 1 = .ok (.getfield 23, 3) := by decide +kernel
theorem dX10_undo_4 : decode prog_1_method_43_code 4 = .ok (.aload_n 0, 1) := by decide +kernel
theorem dX10_undo_5 : decode prog_1_method_43_code 5 = .ok (.getfield 11, 3) := by decide +kernel
theorem dX10_undo_8 : decode prog_1_method_43_code 8 = .ok (.invokevirtual 292, 3) := by decide +kernel
theorem dX10_undo_11 : decode prog_1_method_43_code 11 = .ok (.ireturn, 1) := by decide +kernel
theorem sX10_undo {Q : Int → Hp → Prop} {h : Hp}
    (hP : CI 4 mX2_takeBack [vr 70, vr 69] h (fun r3 h2 =>
     Q r3 h2)) :
    CI 5 mX10_undo [vr 68] h Q := by
  refine CI_of_E fX10_undo.1 rfl (Nat.le_of_ble_eq_true rfl) ?_
  show E 5 mX10_undo 0 [(0, vr 68)] [] h (qi Q)
  refine E_aload_n 0 0 dX10_undo_0 rfl rfl ?_
  refine E_gR 70 2 dX10_undo_1 FX10_23 ic_68 (by decide) ?_
  refine E_aload_n 0 0 dX10_undo_4 rfl rfl ?_
  refine E_gR 69 0 dX10_undo_5 FX10_11 ic_68 (by decide) ?_
  refine E_invVI [vr 69] dX10_undo_8 fX2_takeBack lX10_292 ic_70 rfl (by decide) rfl rfl (Nat.le_of_ble_eq_true rfl) (CI_mono hP (fun r3 h2 hP => ?_))
  exact E_retI dX10_undo_11 rfl hP
theorem dX10_isShelf_0 : decode prog_1_method_50_code 0 = .ok (.iload_n 0, 1) := by decide +kernel
theorem dX10_isShelf_1 : decode prog_1_method_50_code 1 = .ok (.ifCond .lt 12, 3) := by decide +kernel
theorem dX10_isShelf_4 : decode prog_1_method_50_code 4 = .ok (.iload_n 0, 1) := by decide +kernel
theorem dX10_isShelf_5 : decode prog_1_method_50_code 5 = .ok (.iconst 3, 1) := by decide +kernel
theorem dX10_isShelf_6 : decode prog_1_method_50_code 6 = .ok (.if_icmp .ge 7, 3) := by decide +kernel
theorem dX10_isShelf_9 : decode prog_1_method_50_code 9 = .ok (.iconst 1, 1) := by decide +kernel
theorem dX10_isShelf_10 : decode prog_1_method_50_code 10 = .ok (.goto 4, 3) := by decide +kernel
theorem dX10_isShelf_13 : decode prog_1_method_50_code 13 = .ok (.iconst 0, 1) := by decide +kernel
theorem dX10_isShelf_14 : decode prog_1_method_50_code 14 = .ok (.ireturn, 1) := by decide +kernel
theorem sX10_isShelf {Q : Int → Hp → Prop} {h : Hp} {l0 : Int}
    (hP : Q (if l0 ≥ 0 ∧ l0 < 3 then (1 : Int) else 0) h) :
    CI 0 mX10_isShelf [vi l0] h Q := by
  refine CI_of_E fX10_isShelf.1 rfl (Nat.le_of_ble_eq_true rfl) ?_
  show E 0 mX10_isShelf 0 [(0, vi l0)] [] h (qi Q)
  refine E_iload_n 0 0 dX10_isShelf_0 rfl rfl ?_
  have hJ : E 0 mX10_isShelf 14 [(0, vi l0)] [vi (if l0 ≥ 0 ∧ l0 < 3 then (1 : Int) else 0)] h (qi Q) := by
    exact E_retZ dX10_isShelf_14 rfl (b01 _) hP
  refine E_if_lt 13 dX10_isShelf_1 rfl (fun hc => ?_) (fun hc => ?_)
  · have hp1 := (hc : l0 < 0)
    refine E_iconst dX10_isShelf_13 (rg_of rfl) ?_
    exact E_top (if_neg (by omega)).symm hJ
  · have hp1 := (by omega : l0 ≥ 0)
    refine E_iload_n 0 0 dX10_isShelf_4 rfl rfl ?_
    refine E_iconst dX10_isShelf_5 (rg_of rfl) ?_
    refine E_icmp_ge 13 dX10_isShelf_6 rfl (fun hc => ?_) (fun hc => ?_)
    · have hp6 := (hc : l0 ≥ 3)
      refine E_iconst dX10_isShelf_13 (rg_of rfl) ?_
      exact E_top (if_neg (by omega)).symm hJ
    · have hp6 := (by omega : l0 < 3)
      refine E_iconst dX10_isShelf_9 (rg_of rfl) ?_
      refine E_goto 14 dX10_isShelf_10 rfl ?_
      exact E_top (if_pos (by omega)).symm hJ
theorem dX10_countBlocks_0 : decode prog_1_method_69_code 0 = .ok (.iconst 0, 1) := by decide +kernel
theorem dX10_countBlocks_1 : decode prog_1_method_69_code 1 = .ok (.istore_n 1, 1) := by decide +kernel
theorem dX10_countBlocks_2 : decode prog_1_method_69_code 2 = .ok (.iconst 0, 1) := by decide +kernel
theorem dX10_countBlocks_3 : decode prog_1_method_69_code 3 = .ok (.istore_n 2, 1) := by decide +kernel
theorem dX10_countBlocks_4 : decode prog_1_method_69_code 4 = .ok (.iload_n 2, 1) := by decide +kernel
theorem dX10_countBlocks_5 : decode prog_1_method_69_code 5 = .ok (.iconst 3, 1) := by decide +kernel
theorem dX10_countBlocks_6 : decode prog_1_method_69_code 6 = .ok (.if_icmp .ge 24, 3) := by decide +kernel
theorem dX10_countBlocks_9 : decode prog_1_method_69_code 9 = .ok (.aload_n 0, 1) := by decide +kernel
theorem dX10_countBlocks_10 : decode prog_1_method_69_code 10 = .ok (.getfield 47, 3) := by decide +kernel
theorem dX10_countBlocks_13 : decode prog_1_method_69_code 13 = .ok (.iload_n 2, 1) := by decide +kernel
theorem dX10_countBlocks_14 : decode prog_1_method_69_code 14 = .ok (.aaload, 1) := by decide +kernel
theorem dX10_countBlocks_15 : decode prog_1_method_69_code 15 = .ok (.invokevirtual 310, 3) := by decide +kernel
theorem dX10_countBlocks_18 : decode prog_1_method_69_code 18 = .ok (.ifCond .eq 6, 3) := by decide +kernel
theorem dX10_countBlocks_21 : decode prog_1_method_69_code 21 = .ok (.iinc 1 1, 3) := by decide +kernel
theorem dX10_countBlocks_24 : decode prog_1_method_69_code 24 = .ok (.iinc 2 1, 3) := by decide +kernel
theorem dX10_countBlocks_27 : decode prog_1_method_69_code 27 = .ok (.goto (-23), 3) := by decide +kernel
theorem dX10_countBlocks_30 : decode prog_1_method_69_code 30 = .ok (.iload_n 1, 1) := by decide +kernel
theorem dX10_countBlocks_31 : decode prog_1_method_69_code 31 = .ok (.ireturn, 1) := by decide +kernel
theorem sX10_countBlocks_4 {Q : Int → Hp → Prop} {h : Hp} {l1 l2 : Int}
    (hP : ((l2 ≥ 3) →
     Q l1 h) ∧
    ((l2 < 3) →
     (ix l2 3 ∧ sA (80 + l2)) ∧
     (((h (80 + l2) 0) = (-1)) →
      (rj (l2 + 1)) ∧
      E 1 mX10_countBlocks 4 [(0, vr 68), (1, vi l1), (2, vi (l2 + 1))] [] h (qi Q)) ∧
     (((h (80 + l2) 0) ≠ (-1)) →
      (rj (l1 + 1) ∧ rj (l2 + 1)) ∧
      E 1 mX10_countBlocks 4 [(0, vr 68), (1, vi (l1 + 1)), (2, vi (l2 + 1))] [] h (qi Q)))) :
    E 1 mX10_countBlocks 4 [(0, vr 68), (1, vi l1), (2, vi l2)] [] h (qi Q) := by
  refine E_iload_n 2 2 dX10_countBlocks_4 rfl rfl ?_
  refine E_iconst dX10_countBlocks_5 (rg_of rfl) ?_
  refine E_icmp_ge 30 dX10_countBlocks_6 rfl (fun hc => ?_) (fun hc => ?_)
  · replace hP := hP.1 (hc)
    refine E_iload_n 1 1 dX10_countBlocks_30 rfl rfl ?_
    exact E_retI dX10_countBlocks_31 rfl hP
  · replace hP := hP.2 (by omega)
    obtain ⟨⟨v3_0, v3_1⟩, hP⟩ := hP
    refine E_aload_n 0 0 dX10_countBlocks_9 rfl rfl ?_
    refine E_gR 79 6 dX10_countBlocks_10 FX10_47 ic_68 (by decide) ?_
    refine E_iload_n 2 2 dX10_countBlocks_13 rfl rfl ?_
    refine E_aaloadS dX10_countBlocks_14 ic_79 v3_0.1 v3_0.2 (rf_shelves ⟨v3_0.1, v3_0.2⟩) ?_
    refine E_invVI [] dX10_countBlocks_15 fX6_isTaken lX10_310 (icS v3_1) rfl (by decide) rfl rfl (Nat.le_of_ble_eq_true rfl) (sX6_isTaken (h := h) (b0 := (80 + l2)) ⟨v3_1, ?_⟩)
    refine E_if_eq 24 dX10_countBlocks_18 rfl (fun hc => ?_) (fun hc => ?_)
    · replace hP := hP.1 (by have := ite0 hc; omega)
      obtain ⟨v4_0, hP⟩ := hP
      refine E_iinc 2 dX10_countBlocks_24 rfl (rgI v4_0) (by decide) rfl ?_
      refine E_goto 4 dX10_countBlocks_27 rfl ?_
      exact E_sub [1, 2, 0] rfl hP
    · replace hP := hP.2 (by have := ite1 hc; omega)
      obtain ⟨⟨v5_0, v5_1⟩, hP⟩ := hP
      refine E_iinc 1 dX10_countBlocks_21 rfl (rgI v5_0) (by decide) rfl ?_
      refine E_iinc 2 dX10_countBlocks_24 rfl (rgI v5_1) (by decide) rfl ?_
      refine E_goto 4 dX10_countBlocks_27 rfl ?_
      exact E_sub [2, 1, 0] rfl hP
theorem sX10_countBlocks {Q : Int → Hp → Prop} {h : Hp}
    (hP : E 1 mX10_countBlocks 4 [(0, vr 68), (1, vi 0), (2, vi 0)] [] h (qi Q)) :
    CI 1 mX10_countBlocks [vr 68] h Q := by
  refine CI_of_E fX10_countBlocks.1 rfl (Nat.le_of_ble_eq_true rfl) ?_
  show E 1 mX10_countBlocks 0 [(0, vr 68)] [] h (qi Q)
  refine E_iconst dX10_countBlocks_0 (rg_of rfl) ?_
  refine E_istore_n dX10_countBlocks_1 rfl (by decide) rfl ?_
  refine E_iconst dX10_countBlocks_2 (rg_of rfl) ?_
  refine E_istore_n dX10_countBlocks_3 rfl (by decide) rfl ?_
  exact E_sub [2, 1, 0] rfl hP
theorem dX10_place_0 : decode prog_1_method_44_code 0 = .ok (.iload_n 1, 1) := by decide +kernel
theorem dX10_place_1 : decode prog_1_method_44_code 1 = .ok (.invokestatic 296, 3) := by decide +kernel
theorem dX10_place_4 : decode prog_1_method_44_code 4 = .ok (.ifCond .ne 5, 3) := by decide +kernel
theorem dX10_place_7 : decode prog_1_method_44_code 7 = .ok (.iconst (-1), 1) := by decide +kernel
theorem dX10_place_8 : decode prog_1_method_44_code 8 = .ok (.ireturn, 1) := by decide +kernel
theorem dX10_place_9 : decode prog_1_method_44_code 9 = .ok (.iload_n 2, 1) := by decide +kernel
theorem dX10_place_10 : decode prog_1_method_44_code 10 = .ok (.iload_n 3, 1) := by decide +kernel
theorem dX10_place_11 : decode prog_1_method_44_code 11 = .ok (.iload 4, 2) := by decide +kernel
theorem dX10_place_13 : decode prog_1_method_44_code 13 = .ok (.invokestatic 299, 3) := by decide +kernel
theorem dX10_place_16 : decode prog_1_method_44_code 16 = .ok (.ifCond .ne 6, 3) := by decide +kernel
theorem dX10_place_19 : decode prog_1_method_44_code 19 = .ok (.bipush (-2), 2) := by decide +kernel
theorem dX10_place_21 : decode prog_1_method_44_code 21 = .ok (.ireturn, 1) := by decide +kernel
theorem dX10_place_22 : decode prog_1_method_44_code 22 = .ok (.aload_n 0, 1) := by decide +kernel
theorem dX10_place_23 : decode prog_1_method_44_code 23 = .ok (.getfield 47, 3) := by decide +kernel
theorem dX10_place_26 : decode prog_1_method_44_code 26 = .ok (.iload_n 1, 1) := by decide +kernel
theorem dX10_place_27 : decode prog_1_method_44_code 27 = .ok (.aaload, 1) := by decide +kernel
theorem dX10_place_28 : decode prog_1_method_44_code 28 = .ok (.iload_n 2, 1) := by decide +kernel
theorem dX10_place_29 : decode prog_1_method_44_code 29 = .ok (.iload_n 3, 1) := by decide +kernel
theorem dX10_place_30 : decode prog_1_method_44_code 30 = .ok (.iload 4, 2) := by decide +kernel
theorem dX10_place_32 : decode prog_1_method_44_code 32 = .ok (.invokevirtual 303, 3) := by decide +kernel
theorem dX10_place_35 : decode prog_1_method_44_code 35 = .ok (.aload_n 0, 1) := by decide +kernel
theorem dX10_place_36 : decode prog_1_method_44_code 36 = .ok (.invokevirtual 307, 3) := by decide +kernel
theorem dX10_place_39 : decode prog_1_method_44_code 39 = .ok (.ireturn, 1) := by decide +kernel
theorem sX10_place {Q : Int → Hp → Prop} {h : Hp} {l1 l2 l3 l4 : Int}
    (hP : ((l1 ≥ 0 ∧ l1 < 3) →
     CI 0 mX6_allows [vi l2, vi l3, vi l4] h (fun r4 h3 =>
      ((r4 ≠ 0) →
       (ix l1 3 ∧ sA (80 + l1)) ∧
       CI 1 mX10_countBlocks [vr 68] (up (up (up h3 (80 + l1) 0 l2) (80 + l1) 1 l3) (80 + l1) 2 l4) (fun r8 h7 =>
        Q r8 h7)) ∧
      ((r4 = 0) →
       Q (-2) h3))) ∧
    ((l1 < 0 ∨ l1 ≥ 3) →
     Q (-1) h)) :
    CI 2 mX10_place [vr 68, vi l1, vi l2, vi l3, vi l4] h Q := by
  refine CI_of_E fX10_place.1 rfl (Nat.le_of_ble_eq_true rfl) ?_
  show E 2 mX10_place 0 [(0, vr 68), (1, vi l1), (2, vi l2), (3, vi l3), (4, vi l4)] [] h (qi Q)
  refine E_iload_n 1 1 dX10_place_0 rfl rfl ?_
  refine E_invSI [vi l1] dX10_place_1 fX10_isShelf lX10_296 (by decide) rfl rfl (Nat.le_of_ble_eq_true rfl) (sX10_isShelf (h := h) (l0 := l1) ?_)
  refine E_if_ne 9 dX10_place_4 rfl (fun hc => ?_) (fun hc => ?_)
  · replace hP := hP.1 (by have := ite1' hc; omega)
    refine E_iload_n 2 2 dX10_place_9 rfl rfl ?_
    refine E_iload_n 3 3 dX10_place_10 rfl rfl ?_
    refine E_iload 4 dX10_place_11 rfl ?_
    refine E_invSI [vi l2, vi l3, vi l4] dX10_place_13 fX6_allows lX10_299 (by decide) rfl rfl (Nat.le_of_ble_eq_true rfl) (CI_mono hP (fun r4 h3 hP => ?_))
    refine E_if_ne 22 dX10_place_16 rfl (fun hc => ?_) (fun hc => ?_)
    · replace hP := hP.1 (hc)
      obtain ⟨⟨v6_0, v6_1⟩, hP⟩ := hP
      refine E_aload_n 0 0 dX10_place_22 rfl rfl ?_
      refine E_gR 79 6 dX10_place_23 FX10_47 ic_68 (by decide) ?_
      refine E_iload_n 1 1 dX10_place_26 rfl rfl ?_
      refine E_aaloadS dX10_place_27 ic_79 v6_0.1 v6_0.2 (rf_shelves ⟨v6_0.1, v6_0.2⟩) ?_
      refine E_iload_n 2 2 dX10_place_28 rfl rfl ?_
      refine E_iload_n 3 3 dX10_place_29 rfl rfl ?_
      refine E_iload 4 dX10_place_30 rfl ?_
      refine E_invVV [vi l2, vi l3, vi l4] dX10_place_32 fX6_hold lX10_303 (icS v6_1) rfl (by decide) rfl rfl (Nat.le_of_ble_eq_true rfl) (sX6_hold (h := h3) (b0 := (80 + l1)) (l1 := l2) (l2 := l3) (l3 := l4) ⟨v6_1, ?_⟩)
      refine E_aload_n 0 0 dX10_place_35 rfl rfl ?_
      refine E_invVI [] dX10_place_36 fX10_countBlocks lX10_307 ic_68 rfl (by decide) rfl rfl (Nat.le_of_ble_eq_true rfl) (CI_mono hP (fun r8 h7 hP => ?_))
      exact E_retI dX10_place_39 rfl hP
    · replace hP := hP.2 (by omega)
      refine E_bipush dX10_place_19 (by decide) ?_
      exact E_retI dX10_place_21 rfl hP
  · replace hP := hP.2 (by have := ite0 hc; omega)
    refine E_iconst dX10_place_7 (rg_of rfl) ?_
    exact E_retI dX10_place_8 rfl hP
theorem dX10_discard_0 : decode prog_1_method_45_code 0 = .ok (.iload_n 1, 1) := by decide +kernel
theorem dX10_discard_1 : decode prog_1_method_45_code 1 = .ok (.invokestatic 296, 3) := by decide +kernel
theorem dX10_discard_4 : decode prog_1_method_45_code 4 = .ok (.ifCond .ne 5, 3) := by decide +kernel
theorem dX10_discard_7 : decode prog_1_method_45_code 7 = .ok (.iconst (-1), 1) := by decide +kernel
theorem dX10_discard_8 : decode prog_1_method_45_code 8 = .ok (.ireturn, 1) := by decide +kernel
theorem dX10_discard_9 : decode prog_1_method_45_code 9 = .ok (.aload_n 0, 1) := by decide +kernel
theorem dX10_discard_10 : decode prog_1_method_45_code 10 = .ok (.getfield 47, 3) := by decide +kernel
theorem dX10_discard_13 : decode prog_1_method_45_code 13 = .ok (.iload_n 1, 1) := by decide +kernel
theorem dX10_discard_14 : decode prog_1_method_45_code 14 = .ok (.aaload, 1) := by decide +kernel
theorem dX10_discard_15 : decode prog_1_method_45_code 15 = .ok (.invokevirtual 310, 3) := by decide +kernel
theorem dX10_discard_18 : decode prog_1_method_45_code 18 = .ok (.ifCond .ne 6, 3) := by decide +kernel
theorem dX10_discard_21 : decode prog_1_method_45_code 21 = .ok (.bipush (-7), 2) := by decide +kernel
theorem dX10_discard_23 : decode prog_1_method_45_code 23 = .ok (.ireturn, 1) := by decide +kernel
theorem dX10_discard_24 : decode prog_1_method_45_code 24 = .ok (.aload_n 0, 1) := by decide +kernel
theorem dX10_discard_25 : decode prog_1_method_45_code 25 = .ok (.getfield 47, 3) := by decide +kernel
theorem dX10_discard_28 : decode prog_1_method_45_code 28 = .ok (.iload_n 1, 1) := by decide +kernel
theorem dX10_discard_29 : decode prog_1_method_45_code 29 = .ok (.aaload, 1) := by decide +kernel
theorem dX10_discard_30 : decode prog_1_method_45_code 30 = .ok (.getfield 313, 3) := by decide +kernel
theorem dX10_discard_33 : decode prog_1_method_45_code 33 = .ok (.istore_n 2, 1) := by decide +kernel
theorem dX10_discard_34 : decode prog_1_method_45_code 34 = .ok (.aload_n 0, 1) := by decide +kernel
theorem dX10_discard_35 : decode prog_1_method_45_code 35 = .ok (.getfield 47, 3) := by decide +kernel
theorem dX10_discard_38 : decode prog_1_method_45_code 38 = .ok (.iload_n 1, 1) := by decide +kernel
theorem dX10_discard_39 : decode prog_1_method_45_code 39 = .ok (.aaload, 1) := by decide +kernel
theorem dX10_discard_40 : decode prog_1_method_45_code 40 = .ok (.invokevirtual 316, 3) := by decide +kernel
theorem dX10_discard_43 : decode prog_1_method_45_code 43 = .ok (.iload_n 2, 1) := by decide +kernel
theorem dX10_discard_44 : decode prog_1_method_45_code 44 = .ok (.ireturn, 1) := by decide +kernel
theorem sX10_discard {Q : Int → Hp → Prop} {h : Hp} {l1 : Int}
    (hP : ((l1 ≥ 0 ∧ l1 < 3) →
     (ix l1 3 ∧ sA (80 + l1)) ∧
     (((h (80 + l1) 0) ≠ (-1)) →
      (ix l1 3 ∧ sA (80 + l1)) ∧
      Q (h (80 + l1) 0) (up h (80 + l1) 0 (-1))) ∧
     (((h (80 + l1) 0) = (-1)) →
      Q (-7) h)) ∧
    ((l1 < 0 ∨ l1 ≥ 3) →
     Q (-1) h)) :
    CI 1 mX10_discard [vr 68, vi l1] h Q := by
  refine CI_of_E fX10_discard.1 rfl (Nat.le_of_ble_eq_true rfl) ?_
  show E 1 mX10_discard 0 [(0, vr 68), (1, vi l1)] [] h (qi Q)
  refine E_iload_n 1 1 dX10_discard_0 rfl rfl ?_
  refine E_invSI [vi l1] dX10_discard_1 fX10_isShelf lX10_296 (by decide) rfl rfl (Nat.le_of_ble_eq_true rfl) (sX10_isShelf (h := h) (l0 := l1) ?_)
  refine E_if_ne 9 dX10_discard_4 rfl (fun hc => ?_) (fun hc => ?_)
  · replace hP := hP.1 (by have := ite1' hc; omega)
    obtain ⟨⟨v2_0, v2_1⟩, hP⟩ := hP
    refine E_aload_n 0 0 dX10_discard_9 rfl rfl ?_
    refine E_gR 79 6 dX10_discard_10 FX10_47 ic_68 (by decide) ?_
    refine E_iload_n 1 1 dX10_discard_13 rfl rfl ?_
    refine E_aaloadS dX10_discard_14 ic_79 v2_0.1 v2_0.2 (rf_shelves ⟨v2_0.1, v2_0.2⟩) ?_
    refine E_invVI [] dX10_discard_15 fX6_isTaken lX10_310 (icS v2_1) rfl (by decide) rfl rfl (Nat.le_of_ble_eq_true rfl) (sX6_isTaken (h := h) (b0 := (80 + l1)) ⟨v2_1, ?_⟩)
    refine E_if_ne 24 dX10_discard_18 rfl (fun hc => ?_) (fun hc => ?_)
    · replace hP := hP.1 (by have := ite1' hc; omega)
      obtain ⟨⟨v3_0, v3_1⟩, hP⟩ := hP
      refine E_aload_n 0 0 dX10_discard_24 rfl rfl ?_
      refine E_gR 79 6 dX10_discard_25 FX10_47 ic_68 (by decide) ?_
      refine E_iload_n 1 1 dX10_discard_28 rfl rfl ?_
      refine E_aaloadS dX10_discard_29 ic_79 v3_0.1 v3_0.2 (rf_shelves ⟨v3_0.1, v3_0.2⟩) ?_
      refine E_gI 0 0 dX10_discard_30 FX10_313 (icS v3_1) rfl ?_
      refine E_istore_n dX10_discard_33 rfl (by decide) rfl ?_
      refine E_aload_n 1 0 dX10_discard_34 rfl rfl ?_
      refine E_gR 79 6 dX10_discard_35 FX10_47 ic_68 (by decide) ?_
      refine E_iload_n 2 1 dX10_discard_38 rfl rfl ?_
      refine E_aaloadS dX10_discard_39 ic_79 v3_0.1 v3_0.2 (rf_shelves ⟨v3_0.1, v3_0.2⟩) ?_
      refine E_invVV [] dX10_discard_40 fX6_release lX10_316 (icS v3_1) rfl (by decide) rfl rfl (Nat.le_of_ble_eq_true rfl) (sX6_release (h := h) (b0 := (80 + l1)) ⟨v3_1, ?_⟩)
      refine E_iload_n 0 2 dX10_discard_43 rfl rfl ?_
      exact E_retI dX10_discard_44 rfl hP
    · replace hP := hP.2 (by have := ite0 hc; omega)
      refine E_bipush dX10_discard_21 (by decide) ?_
      exact E_retI dX10_discard_23 rfl hP
  · replace hP := hP.2 (by have := ite0 hc; omega)
    refine E_iconst dX10_discard_7 (rg_of rfl) ?_
    exact E_retI dX10_discard_8 rfl hP
theorem dX10_castBlock_0 : decode prog_1_method_46_code 0 = .ok (.iload_n 1, 1) := by decide +kernel
theorem dX10_castBlock_1 : decode prog_1_method_46_code 1 = .ok (.invokestatic 296, 3) := by decide +kernel
theorem dX10_castBlock_4 : decode prog_1_method_46_code 4 = .ok (.ifCond .ne 5, 3) := by decide +kernel
theorem dX10_castBlock_7 : decode prog_1_method_46_code 7 = .ok (.iconst (-1), 1) := by decide +kernel
theorem dX10_castBlock_8 : decode prog_1_method_46_code 8 = .ok (.ireturn, 1) := by decide +kernel
theorem dX10_castBlock_9 : decode prog_1_method_46_code 9 = .ok (.iload_n 2, 1) := by decide +kernel
theorem dX10_castBlock_10 : decode prog_1_method_46_code 10 = .ok (.ifCond .lt 9, 3) := by decide +kernel
theorem dX10_castBlock_13 : decode prog_1_method_46_code 13 = .ok (.iload_n 2, 1) := by decide +kernel
theorem dX10_castBlock_14 : decode prog_1_method_46_code 14 = .ok (.bipush 6, 2) := by decide +kernel
theorem dX10_castBlock_16 : decode prog_1_method_46_code 16 = .ok (.if_icmp .lt 6, 3) := by decide +kernel
theorem dX10_castBlock_19 : decode prog_1_method_46_code 19 = .ok (.bipush (-2), 2) := by decide +kernel
theorem dX10_castBlock_21 : decode prog_1_method_46_code 21 = .ok (.ireturn, 1) := by decide +kernel
theorem dX10_castBlock_22 : decode prog_1_method_46_code 22 = .ok (.aload_n 0, 1) := by decide +kernel
theorem dX10_castBlock_23 : decode prog_1_method_46_code 23 = .ok (.getfield 47, 3) := by decide +kernel
theorem dX10_castBlock_26 : decode prog_1_method_46_code 26 = .ok (.iload_n 1, 1) := by decide +kernel
theorem dX10_castBlock_27 : decode prog_1_method_46_code 27 = .ok (.aaload, 1) := by decide +kernel
theorem dX10_castBlock_28 : decode prog_1_method_46_code 28 = .ok (.invokevirtual 310, 3) := by decide +kernel
theorem dX10_castBlock_31 : decode prog_1_method_46_code 31 = .ok (.ifCond .ne 6, 3) := by decide +kernel
theorem dX10_castBlock_34 : decode prog_1_method_46_code 34 = .ok (.bipush (-7), 2) := by decide +kernel
theorem dX10_castBlock_36 : decode prog_1_method_46_code 36 = .ok (.ireturn, 1) := by decide +kernel
theorem dX10_castBlock_37 : decode prog_1_method_46_code 37 = .ok (.aload_n 0, 1) := by decide +kernel
theorem dX10_castBlock_38 : decode prog_1_method_46_code 38 = .ok (.getfield 47, 3) := by decide +kernel
theorem dX10_castBlock_41 : decode prog_1_method_46_code 41 = .ok (.iload_n 1, 1) := by decide +kernel
theorem dX10_castBlock_42 : decode prog_1_method_46_code 42 = .ok (.aaload, 1) := by decide +kernel
theorem dX10_castBlock_43 : decode prog_1_method_46_code 43 = .ok (.iload_n 2, 1) := by decide +kernel
theorem dX10_castBlock_44 : decode prog_1_method_46_code 44 = .ok (.invokevirtual 319, 3) := by decide +kernel
theorem dX10_castBlock_47 : decode prog_1_method_46_code 47 = .ok (.ifCond .eq 15, 3) := by decide +kernel
theorem dX10_castBlock_50 : decode prog_1_method_46_code 50 = .ok (.aload_n 0, 1) := by decide +kernel
theorem dX10_castBlock_51 : decode prog_1_method_46_code 51 = .ok (.getfield 47, 3) := by decide +kernel
theorem dX10_castBlock_54 : decode prog_1_method_46_code 54 = .ok (.iload_n 1, 1) := by decide +kernel
theorem dX10_castBlock_55 : decode prog_1_method_46_code 55 = .ok (.aaload, 1) := by decide +kernel
theorem dX10_castBlock_56 : decode prog_1_method_46_code 56 = .ok (.getfield 313, 3) := by decide +kernel
theorem dX10_castBlock_59 : decode prog_1_method_46_code 59 = .ok (.goto 5, 3) := by decide +kernel
theorem dX10_castBlock_62 : decode prog_1_method_46_code 62 = .ok (.bipush (-8), 2) := by decide +kernel
theorem dX10_castBlock_64 : decode prog_1_method_46_code 64 = .ok (.ireturn, 1) := by decide +kernel
theorem sX10_castBlock {Q : Int → Hp → Prop} {h : Hp} {l1 l2 : Int}
    (hP : ((l1 ≥ 0 ∧ l1 < 3) →
     ((l2 < 0) →
      Q (-2) h) ∧
     ((l2 ≥ 0) →
      ((l2 < 6) →
       (ix l1 3 ∧ sA (80 + l1)) ∧
       (((h (80 + l1) 0) ≠ (-1)) →
        (ix l1 3 ∧ sA (80 + l1)) ∧
        CI 0 mX6_isOfKind [vr (80 + l1), vi l2] h (fun r8 h7 =>
         (((r8 ≠ 0) → (ix l1 3)) ∧ ((r8 ≠ 0) → (sA (80 + l1)))) ∧
         Q (if r8 = 0 then (-8) else (h7 (80 + l1) 0)) h7)) ∧
       (((h (80 + l1) 0) = (-1)) →
        Q (-7) h)) ∧
      ((l2 ≥ 6) →
       Q (-2) h))) ∧
    ((l1 < 0 ∨ l1 ≥ 3) →
     Q (-1) h)) :
    CI 1 mX10_castBlock [vr 68, vi l1, vi l2] h Q := by
  refine CI_of_E fX10_castBlock.1 rfl (Nat.le_of_ble_eq_true rfl) ?_
  show E 1 mX10_castBlock 0 [(0, vr 68), (1, vi l1), (2, vi l2)] [] h (qi Q)
  refine E_iload_n 1 1 dX10_castBlock_0 rfl rfl ?_
  refine E_invSI [vi l1] dX10_castBlock_1 fX10_isShelf lX10_296 (by decide) rfl rfl (Nat.le_of_ble_eq_true rfl) (sX10_isShelf (h := h) (l0 := l1) ?_)
  refine E_if_ne 9 dX10_castBlock_4 rfl (fun hc => ?_) (fun hc => ?_)
  · replace hP := hP.1 (by have := ite1' hc; omega)
    refine E_iload_n 2 2 dX10_castBlock_9 rfl rfl ?_
    refine E_if_lt 19 dX10_castBlock_10 rfl (fun hc => ?_) (fun hc => ?_)
    · replace hP := hP.1 (hc)
      refine E_bipush dX10_castBlock_19 (by decide) ?_
      exact E_retI dX10_castBlock_21 rfl hP
    · replace hP := hP.2 (by omega)
      refine E_iload_n 2 2 dX10_castBlock_13 rfl rfl ?_
      refine E_bipush dX10_castBlock_14 (by decide) ?_
      refine E_icmp_lt 22 dX10_castBlock_16 rfl (fun hc => ?_) (fun hc => ?_)
      · replace hP := hP.1 (hc)
        obtain ⟨⟨v5_0, v5_1⟩, hP⟩ := hP
        refine E_aload_n 0 0 dX10_castBlock_22 rfl rfl ?_
        refine E_gR 79 6 dX10_castBlock_23 FX10_47 ic_68 (by decide) ?_
        refine E_iload_n 1 1 dX10_castBlock_26 rfl rfl ?_
        refine E_aaloadS dX10_castBlock_27 ic_79 v5_0.1 v5_0.2 (rf_shelves ⟨v5_0.1, v5_0.2⟩) ?_
        refine E_invVI [] dX10_castBlock_28 fX6_isTaken lX10_310 (icS v5_1) rfl (by decide) rfl rfl (Nat.le_of_ble_eq_true rfl) (sX6_isTaken (h := h) (b0 := (80 + l1)) ⟨v5_1, ?_⟩)
        refine E_if_ne 37 dX10_castBlock_31 rfl (fun hc => ?_) (fun hc => ?_)
        · replace hP := hP.1 (by have := ite1' hc; omega)
          obtain ⟨⟨v6_0, v6_1⟩, hP⟩ := hP
          refine E_aload_n 0 0 dX10_castBlock_37 rfl rfl ?_
          refine E_gR 79 6 dX10_castBlock_38 FX10_47 ic_68 (by decide) ?_
          refine E_iload_n 1 1 dX10_castBlock_41 rfl rfl ?_
          refine E_aaloadS dX10_castBlock_42 ic_79 v6_0.1 v6_0.2 (rf_shelves ⟨v6_0.1, v6_0.2⟩) ?_
          refine E_iload_n 2 2 dX10_castBlock_43 rfl rfl ?_
          refine E_invVI [vi l2] dX10_castBlock_44 fX6_isOfKind lX10_319 (icS v6_1) rfl (by decide) rfl rfl (Nat.le_of_ble_eq_true rfl) (CI_mono hP (fun r8 h7 hP => ?_))
          obtain ⟨⟨v9_0, v9_1⟩, hP⟩ := hP
          have hJ : E 1 mX10_castBlock 64 [(0, vr 68), (1, vi l1), (2, vi l2)] [vi (if r8 = 0 then (-8) else (h7 (80 + l1) 0))] h7 (qi Q) := by
            exact E_retI dX10_castBlock_64 rfl hP
          refine E_if_eq 62 dX10_castBlock_47 rfl (fun hc => ?_) (fun hc => ?_)
          · have hp47 := (hc : r8 = 0)
            refine E_bipush dX10_castBlock_62 (by decide) ?_
            exact E_top (by first | exact (if_pos (by omega)).symm | exact (if_neg (by omega)).symm | (repeat first | rw [if_pos (by omega)] | rw [if_neg (by omega)])) hJ
          · have hp47 := (by omega : r8 ≠ 0)
            refine E_aload_n 0 0 dX10_castBlock_50 rfl rfl ?_
            refine E_gR 79 6 dX10_castBlock_51 FX10_47 ic_68 (by decide) ?_
            refine E_iload_n 1 1 dX10_castBlock_54 rfl rfl ?_
            refine E_aaloadS dX10_castBlock_55 ic_79 (v9_0 (by omega)).1 (v9_0 (by omega)).2 (rf_shelves ⟨(v9_0 (by omega)).1, (v9_0 (by omega)).2⟩) ?_
            refine E_gI 0 0 dX10_castBlock_56 FX10_313 (icS (v9_1 (by omega))) rfl ?_
            refine E_goto 64 dX10_castBlock_59 rfl ?_
            exact E_top (by first | exact (if_pos (by omega)).symm | exact (if_neg (by omega)).symm | (repeat first | rw [if_pos (by omega)] | rw [if_neg (by omega)])) hJ
        · replace hP := hP.2 (by have := ite0 hc; omega)
          refine E_bipush dX10_castBlock_34 (by decide) ?_
          exact E_retI dX10_castBlock_36 rfl hP
      · replace hP := hP.2 (by omega)
        refine E_bipush dX10_castBlock_19 (by decide) ?_
        exact E_retI dX10_castBlock_21 rfl hP
  · replace hP := hP.2 (by have := ite0 hc; omega)
    refine E_iconst dX10_castBlock_7 (rg_of rfl) ?_
    exact E_retI dX10_castBlock_8 rfl hP
theorem dX10_unfold_0 : decode prog_1_method_70_code 0 = .ok (.aload_n 1, 1) := by decide +kernel
theorem dX10_unfold_1 : decode prog_1_method_70_code 1 = .ok (.invokevirtual 310, 3) := by decide +kernel
theorem dX10_unfold_4 : decode prog_1_method_70_code 4 = .ok (.ifCond .ne 6, 3) := by decide +kernel
theorem dX10_unfold_7 : decode prog_1_method_70_code 7 = .ok (.bipush (-7), 2) := by decide +kernel
theorem dX10_unfold_9 : decode prog_1_method_70_code 9 = .ok (.ireturn, 1) := by decide +kernel
theorem dX10_unfold_10 : decode prog_1_method_70_code 10 = .ok (.aload_n 1, 1) := by decide +kernel
theorem dX10_unfold_11 : decode prog_1_method_70_code 11 = .ok (.iload_n 2, 1) := by decide +kernel
theorem dX10_unfold_12 : decode prog_1_method_70_code 12 = .ok (.invokevirtual 357, 3) := by decide +kernel
theorem dX10_unfold_15 : decode prog_1_method_70_code 15 = .ok (.ifCond .ne 6, 3) := by decide +kernel
theorem dX10_unfold_18 : decode prog_1_method_70_code 18 = .ok (.bipush (-5), 2) := by decide +kernel
theorem dX10_unfold_20 : decode prog_1_method_70_code 20 = .ok (.ireturn, 1) := by decide +kernel
theorem dX10_unfold_21 : decode prog_1_method_70_code 21 = .ok (.aload_n 0, 1) := by decide +kernel
theorem dX10_unfold_22 : decode prog_1_method_70_code 22 = .ok (.getfield 16, 3) := by decide +kernel
theorem dX10_unfold_25 : decode prog_1_method_70_code 25 = .ok (.iload_n 2, 1) := by decide +kernel
theorem dX10_unfold_26 : decode prog_1_method_70_code 26 = .ok (.invokevirtual 105, 3) := by decide +kernel
theorem dX10_unfold_29 : decode prog_1_method_70_code 29 = .ok (.aload_n 1, 1) := by decide +kernel
theorem dX10_unfold_30 : decode prog_1_method_70_code 30 = .ok (.aload_n 0, 1) := by decide +kernel
theorem dX10_unfold_31 : decode prog_1_method_70_code 31 = .ok (.getfield 16, 3) := by decide +kernel
theorem dX10_unfold_34 : decode prog_1_method_70_code 34 = .ok (.invokevirtual 360, 3) := by decide +kernel
theorem dX10_unfold_37 : decode prog_1_method_70_code 37 = .ok (.aload_n 0, 1) := by decide +kernel
theorem dX10_unfold_38 : decode prog_1_method_70_code 38 = .ok (.getfield 16, 3) := by decide +kernel
theorem dX10_unfold_41 : decode prog_1_method_70_code 41 = .ok (.getfield 101, 3) := by decide +kernel
theorem dX10_unfold_44 : decode prog_1_method_70_code 44 = .ok (.ireturn, 1) := by decide +kernel
theorem sX10_unfold {Q : Int → Hp → Prop} {h : Hp} {b1 l2 : Int}
    (hP : (sA b1) ∧
    (((h b1 0) ≠ (-1)) →
     (sA b1) ∧
     CI 0 mX6_fits [vr b1, vi l2] h (fun r4 h3 =>
      ((r4 ≠ 0) →
       (nA 16 ∧ sA b1) ∧
       CV 5 mX6_pushOnto [vr b1, vr 16] (up (up h3 16 0 l2) 16 1 0) (fun h7 =>
        Q (h7 16 1) h7)) ∧
      ((r4 = 0) →
       Q (-5) h3))) ∧
    (((h b1 0) = (-1)) →
     Q (-7) h)) :
    CI 6 mX10_unfold [vr 68, vr b1, vi l2] h Q := by
  refine CI_of_E fX10_unfold.1 rfl (Nat.le_of_ble_eq_true rfl) ?_
  show E 6 mX10_unfold 0 [(0, vr 68), (1, vr b1), (2, vi l2)] [] h (qi Q)
  obtain ⟨v1_0, hP⟩ := hP
  refine E_aload_n 1 1 dX10_unfold_0 rfl rfl ?_
  refine E_invVI [] dX10_unfold_1 fX6_isTaken lX10_310 (icS v1_0) rfl (by decide) rfl rfl (Nat.le_of_ble_eq_true rfl) (sX6_isTaken (h := h) (b0 := b1) ⟨v1_0, ?_⟩)
  refine E_if_ne 10 dX10_unfold_4 rfl (fun hc => ?_) (fun hc => ?_)
  · replace hP := hP.1 (by have := ite1' hc; omega)
    obtain ⟨v2_0, hP⟩ := hP
    refine E_aload_n 1 1 dX10_unfold_10 rfl rfl ?_
    refine E_iload_n 2 2 dX10_unfold_11 rfl rfl ?_
    refine E_invVI [vi l2] dX10_unfold_12 fX6_fits lX10_357 (icS v2_0) rfl (by decide) rfl rfl (Nat.le_of_ble_eq_true rfl) (CI_mono hP (fun r4 h3 hP => ?_))
    refine E_if_ne 21 dX10_unfold_15 rfl (fun hc => ?_) (fun hc => ?_)
    · replace hP := hP.1 (hc)
      obtain ⟨⟨v6_0, v6_1⟩, hP⟩ := hP
      refine E_aload_n 0 0 dX10_unfold_21 rfl rfl ?_
      refine E_gR 16 1 dX10_unfold_22 FX10_16 ic_68 (by decide) ?_
      refine E_iload_n 2 2 dX10_unfold_25 rfl rfl ?_
      refine E_invVV [vi l2] dX10_unfold_26 fX3_restart lX10_105 ic_16 rfl (by decide) rfl rfl (Nat.le_of_ble_eq_true rfl) (sX3_restart (h := h3) (a0 := 16) (l1 := l2) ⟨v6_0, ?_⟩)
      refine E_aload_n 1 1 dX10_unfold_29 rfl rfl ?_
      refine E_aload_n 0 0 dX10_unfold_30 rfl rfl ?_
      refine E_gR 16 1 dX10_unfold_31 FX10_16 ic_68 (by decide) ?_
      refine E_invVV [vr 16] dX10_unfold_34 fX6_pushOnto lX10_360 (icS v6_1) rfl (by decide) rfl rfl (Nat.le_of_ble_eq_true rfl) (CV_mono hP (fun h7 hP => ?_))
      refine E_aload_n 0 0 dX10_unfold_37 rfl rfl ?_
      refine E_gR 16 1 dX10_unfold_38 FX10_16 ic_68 (by decide) ?_
      refine E_gI 1 1 dX10_unfold_41 FX10_101 ic_16 rfl ?_
      exact E_retI dX10_unfold_44 rfl hP
    · replace hP := hP.2 (by omega)
      refine E_bipush dX10_unfold_18 (by decide) ?_
      exact E_retI dX10_unfold_20 rfl hP
  · replace hP := hP.2 (by have := ite0 hc; omega)
    refine E_bipush dX10_unfold_7 (by decide) ?_
    exact E_retI dX10_unfold_9 rfl hP
theorem dX10_blockSize_0 : decode prog_1_method_47_code 0 = .ok (.iload_n 1, 1) := by decide +kernel
theorem dX10_blockSize_1 : decode prog_1_method_47_code 1 = .ok (.invokestatic 296, 3) := by decide +kernel
theorem dX10_blockSize_4 : decode prog_1_method_47_code 4 = .ok (.ifCond .ne 5, 3) := by decide +kernel
theorem dX10_blockSize_7 : decode prog_1_method_47_code 7 = .ok (.iconst (-1), 1) := by decide +kernel
theorem dX10_blockSize_8 : decode prog_1_method_47_code 8 = .ok (.ireturn, 1) := by decide +kernel
theorem dX10_blockSize_9 : decode prog_1_method_47_code 9 = .ok (.iload_n 2, 1) := by decide +kernel
theorem dX10_blockSize_10 : decode prog_1_method_47_code 10 = .ok (.invokestatic 94, 3) := by decide +kernel
theorem dX10_blockSize_13 : decode prog_1_method_47_code 13 = .ok (.ifCond .ne 6, 3) := by decide +kernel
theorem dX10_blockSize_16 : decode prog_1_method_47_code 16 = .ok (.bipush (-2), 2) := by decide +kernel
theorem dX10_blockSize_18 : decode prog_1_method_47_code 18 = .ok (.ireturn, 1) := by decide +kernel
theorem dX10_blockSize_19 : decode prog_1_method_47_code 19 = .ok (.aload_n 0, 1) := by decide +kernel
theorem dX10_blockSize_20 : decode prog_1_method_47_code 20 = .ok (.aload_n 0, 1) := by decide +kernel
theorem dX10_blockSize_21 : decode prog_1_method_47_code 21 = .ok (.getfield 47, 3) := by decide +kernel
theorem dX10_blockSize_24 : decode prog_1_method_47_code 24 = .ok (.iload_n 1, 1) := by decide +kernel
theorem dX10_blockSize_25 : decode prog_1_method_47_code 25 = .ok (.aaload, 1) := by decide +kernel
theorem dX10_blockSize_26 : decode prog_1_method_47_code 26 = .ok (.iload_n 2, 1) := by decide +kernel
theorem dX10_blockSize_27 : decode prog_1_method_47_code 27 = .ok (.invokevirtual 322, 3) := by decide +kernel
theorem dX10_blockSize_30 : decode prog_1_method_47_code 30 = .ok (.ireturn, 1) := by decide +kernel
theorem sX10_blockSize {Q : Int → Hp → Prop} {h : Hp} {l1 l2 : Int}
    (hP : ((l1 ≥ 0 ∧ l1 < 3) →
     ((l2 ≥ 2 ∧ l2 ≤ 8) →
      (ix l1 3) ∧
      CI 6 mX10_unfold [vr 68, vr (80 + l1), vi l2] h (fun r5 h4 =>
       Q r5 h4)) ∧
     ((l2 < 2 ∨ l2 > 8) →
      Q (-2) h)) ∧
    ((l1 < 0 ∨ l1 ≥ 3) →
     Q (-1) h)) :
    CI 7 mX10_blockSize [vr 68, vi l1, vi l2] h Q := by
  refine CI_of_E fX10_blockSize.1 rfl (Nat.le_of_ble_eq_true rfl) ?_
  show E 7 mX10_blockSize 0 [(0, vr 68), (1, vi l1), (2, vi l2)] [] h (qi Q)
  refine E_iload_n 1 1 dX10_blockSize_0 rfl rfl ?_
  refine E_invSI [vi l1] dX10_blockSize_1 fX10_isShelf lX10_296 (by decide) rfl rfl (Nat.le_of_ble_eq_true rfl) (sX10_isShelf (h := h) (l0 := l1) ?_)
  refine E_if_ne 9 dX10_blockSize_4 rfl (fun hc => ?_) (fun hc => ?_)
  · replace hP := hP.1 (by have := ite1' hc; omega)
    refine E_iload_n 2 2 dX10_blockSize_9 rfl rfl ?_
    refine E_invSI [vi l2] dX10_blockSize_10 fX10_isWireCount lX10_94 (by decide) rfl rfl (Nat.le_of_ble_eq_true rfl) (sX10_isWireCount (h := h) (l0 := l2) ?_)
    refine E_if_ne 19 dX10_blockSize_13 rfl (fun hc => ?_) (fun hc => ?_)
    · replace hP := hP.1 (by have := ite1' hc; omega)
      obtain ⟨v3_0, hP⟩ := hP
      refine E_aload_n 0 0 dX10_blockSize_19 rfl rfl ?_
      refine E_aload_n 0 0 dX10_blockSize_20 rfl rfl ?_
      refine E_gR 79 6 dX10_blockSize_21 FX10_47 ic_68 (by decide) ?_
      refine E_iload_n 1 1 dX10_blockSize_24 rfl rfl ?_
      refine E_aaloadS dX10_blockSize_25 ic_79 v3_0.1 v3_0.2 (rf_shelves ⟨v3_0.1, v3_0.2⟩) ?_
      refine E_iload_n 2 2 dX10_blockSize_26 rfl rfl ?_
      refine E_invVI [vr (80 + l1), vi l2] dX10_blockSize_27 fX10_unfold lX10_322 ic_68 rfl (by decide) rfl rfl (Nat.le_of_ble_eq_true rfl) (CI_mono hP (fun r5 h4 hP => ?_))
      exact E_retI dX10_blockSize_30 rfl hP
    · replace hP := hP.2 (by have := ite0 hc; omega)
      refine E_bipush dX10_blockSize_16 (by decide) ?_
      exact E_retI dX10_blockSize_18 rfl hP
  · replace hP := hP.2 (by have := ite0 hc; omega)
    refine E_iconst dX10_blockSize_7 (rg_of rfl) ?_
    exact E_retI dX10_blockSize_8 rfl hP
theorem dX10_applyBlock_0 : decode prog_1_method_48_code 0 = .ok (.iload_n 1, 1) := by decide +kernel
theorem dX10_applyBlock_1 : decode prog_1_method_48_code 1 = .ok (.invokestatic 296, 3) := by decide +kernel
theorem dX10_applyBlock_4 : decode prog_1_method_48_code 4 = .ok (.ifCond .eq 10, 3) := by decide +kernel
theorem dX10_applyBlock_7 : decode prog_1_method_48_code 7 = .ok (.iload_n 2, 1) := by decide +kernel
theorem dX10_applyBlock_8 : decode prog_1_method_48_code 8 = .ok (.invokestatic 90, 3) := by decide +kernel
theorem dX10_applyBlock_11 : decode prog_1_method_48_code 11 = .ok (.ifCond .ne 5, 3) := by decide +kernel
theorem dX10_applyBlock_14 : decode prog_1_method_48_code 14 = .ok (.iconst (-1), 1) := by decide +kernel
theorem dX10_applyBlock_15 : decode prog_1_method_48_code 15 = .ok (.ireturn, 1) := by decide +kernel
theorem dX10_applyBlock_16 : decode prog_1_method_48_code 16 = .ok (.aload_n 0, 1) := by decide +kernel
theorem dX10_applyBlock_17 : decode prog_1_method_48_code 17 = .ok (.getfield 11, 3) := by decide +kernel
theorem dX10_applyBlock_20 : decode prog_1_method_48_code 20 = .ok (.iload_n 2, 1) := by decide +kernel
theorem dX10_applyBlock_21 : decode prog_1_method_48_code 21 = .ok (.aaload, 1) := by decide +kernel
theorem dX10_applyBlock_22 : decode prog_1_method_48_code 22 = .ok (.astore_n 3, 1) := by decide +kernel
theorem dX10_applyBlock_23 : decode prog_1_method_48_code 23 = .ok (.aload_n 0, 1) := by decide +kernel
theorem dX10_applyBlock_24 : decode prog_1_method_48_code 24 = .ok (.aload_n 0, 1) := by decide +kernel
theorem dX10_applyBlock_25 : decode prog_1_method_48_code 25 = .ok (.getfield 47, 3) := by decide +kernel
theorem dX10_applyBlock_28 : decode prog_1_method_48_code 28 = .ok (.iload_n 1, 1) := by decide +kernel
theorem dX10_applyBlock_29 : decode prog_1_method_48_code 29 = .ok (.aaload, 1) := by decide +kernel
theorem dX10_applyBlock_30 : decode prog_1_method_48_code 30 = .ok (.aload_n 3, 1) := by decide +kernel
theorem dX10_applyBlock_31 : decode prog_1_method_48_code 31 = .ok (.getfield 108, 3) := by decide +kernel
theorem dX10_applyBlock_34 : decode prog_1_method_48_code 34 = .ok (.invokevirtual 322, 3) := by decide +kernel
theorem dX10_applyBlock_37 : decode prog_1_method_48_code 37 = .ok (.istore 4, 2) := by decide +kernel
theorem dX10_applyBlock_39 : decode prog_1_method_48_code 39 = .ok (.iload 4, 2) := by decide +kernel
theorem dX10_applyBlock_41 : decode prog_1_method_48_code 41 = .ok (.ifCond .ge 6, 3) := by decide +kernel
theorem dX10_applyBlock_44 : decode prog_1_method_48_code 44 = .ok (.iload 4, 2) := by decide +kernel
theorem dX10_applyBlock_46 : decode prog_1_method_48_code 46 = .ok (.ireturn, 1) := by decide +kernel
theorem dX10_applyBlock_47 : decode prog_1_method_48_code 47 = .ok (.aload_n 3, 1) := by decide +kernel
theorem dX10_applyBlock_48 : decode prog_1_method_48_code 48 = .ok (.getfield 101, 3) := by decide +kernel
theorem dX10_applyBlock_51 : decode prog_1_method_48_code 51 = .ok (.iload 4, 2) := by decide +kernel
theorem dX10_applyBlock_53 : decode prog_1_method_48_code 53 = .ok (.iadd, 1) := by decide +kernel
theorem dX10_applyBlock_54 : decode prog_1_method_48_code 54 = .ok (.bipush 40, 2) := by decide +kernel
theorem dX10_applyBlock_56 : decode prog_1_method_48_code 56 = .ok (.if_icmp .le 6, 3) := by decide +kernel
theorem dX10_applyBlock_59 : decode prog_1_method_48_code 59 = .ok (.bipush (-3), 2) := by decide +kernel
theorem dX10_applyBlock_61 : decode prog_1_method_48_code 61 = .ok (.ireturn, 1) := by decide +kernel
theorem dX10_applyBlock_62 : decode prog_1_method_48_code 62 = .ok (.aload_n 0, 1) := by decide +kernel
theorem dX10_applyBlock_63 : decode prog_1_method_48_code 63 = .ok (.iload_n 2, 1) := by decide +kernel
theorem dX10_applyBlock_64 : decode prog_1_method_48_code 64 = .ok (.invokevirtual 97, 3) := by decide +kernel
theorem dX10_applyBlock_67 : decode prog_1_method_48_code 67 = .ok (.aload_n 3, 1) := by decide +kernel
theorem dX10_applyBlock_68 : decode prog_1_method_48_code 68 = .ok (.aload_n 0, 1) := by decide +kernel
theorem dX10_applyBlock_69 : decode prog_1_method_48_code 69 = .ok (.getfield 16, 3) := by decide +kernel
theorem dX10_applyBlock_72 : decode prog_1_method_48_code 72 = .ok (.iconst 0, 1) := by decide +kernel
theorem dX10_applyBlock_73 : decode prog_1_method_48_code 73 = .ok (.invokevirtual 289, 3) := by decide +kernel
theorem dX10_applyBlock_76 : decode prog_1_method_48_code 76 = .ok (.iload 4, 2) := by decide +kernel
theorem dX10_applyBlock_78 : decode prog_1_method_48_code 78 = .ok (.ireturn, 1) := by decide +kernel
theorem sX10_applyBlock {Q : Int → Hp → Prop} {h : Hp} {l1 l2 : Int}
    (hP : ((l1 < 0 ∨ l1 ≥ 3) →
     Q (-1) h) ∧
    ((l1 ≥ 0 ∧ l1 < 3) →
     ((l2 ≥ 0 ∧ l2 < 4) →
      (ix l2 4 ∧ ix l1 3 ∧ nA (4 * l2)) ∧
      CI 6 mX10_unfold [vr 68, vr (80 + l1), vi (h (4 * l2) 0)] h (fun r6 h5 =>
       ((r6 ≥ 0) →
        (nA (4 * l2) ∧ rj ((h5 (4 * l2) 1) + r6)) ∧
        ((((h5 (4 * l2) 1) + r6) ≤ 40) →
         CV 5 mX10_remember [vr 68, vi l2] h5 (fun h10 =>
          (nA (4 * l2)) ∧
          CV 3 mX3_pushAll [vr (4 * l2), vr 16, vi 0] h10 (fun h12 =>
           Q r6 h12))) ∧
        ((((h5 (4 * l2) 1) + r6) > 40) →
         Q (-3) h5)) ∧
       ((r6 < 0) →
        Q r6 h5))) ∧
     ((l2 < 0 ∨ l2 ≥ 4) →
      Q (-1) h))) :
    CI 7 mX10_applyBlock [vr 68, vi l1, vi l2] h Q := by
  refine CI_of_E fX10_applyBlock.1 rfl (Nat.le_of_ble_eq_true rfl) ?_
  show E 7 mX10_applyBlock 0 [(0, vr 68), (1, vi l1), (2, vi l2)] [] h (qi Q)
  refine E_iload_n 1 1 dX10_applyBlock_0 rfl rfl ?_
  refine E_invSI [vi l1] dX10_applyBlock_1 fX10_isShelf lX10_296 (by decide) rfl rfl (Nat.le_of_ble_eq_true rfl) (sX10_isShelf (h := h) (l0 := l1) ?_)
  refine E_if_eq 14 dX10_applyBlock_4 rfl (fun hc => ?_) (fun hc => ?_)
  · replace hP := hP.1 (by have := ite0 hc; omega)
    refine E_iconst dX10_applyBlock_14 (rg_of rfl) ?_
    exact E_retI dX10_applyBlock_15 rfl hP
  · replace hP := hP.2 (by have := ite1 hc; omega)
    refine E_iload_n 2 2 dX10_applyBlock_7 rfl rfl ?_
    refine E_invSI [vi l2] dX10_applyBlock_8 fX10_isNetwork lX10_90 (by decide) rfl rfl (Nat.le_of_ble_eq_true rfl) (sX10_isNetwork (h := h) (l0 := l2) ?_)
    refine E_if_ne 16 dX10_applyBlock_11 rfl (fun hc => ?_) (fun hc => ?_)
    · replace hP := hP.1 (by have := ite1' hc; omega)
      obtain ⟨⟨v4_0, v4_1, v4_2⟩, hP⟩ := hP
      refine E_aload_n 0 0 dX10_applyBlock_16 rfl rfl ?_
      refine E_gR 69 0 dX10_applyBlock_17 FX10_11 ic_68 (by decide) ?_
      refine E_iload_n 2 2 dX10_applyBlock_20 rfl rfl ?_
      refine E_aaloadN dX10_applyBlock_21 ic_69 v4_0.1 v4_0.2 (rf_nets ⟨v4_0.1, v4_0.2⟩) ?_
      refine E_astore_n dX10_applyBlock_22 rfl (by decide) rfl ?_
      refine E_aload_n 1 0 dX10_applyBlock_23 rfl rfl ?_
      refine E_aload_n 1 0 dX10_applyBlock_24 rfl rfl ?_
      refine E_gR 79 6 dX10_applyBlock_25 FX10_47 ic_68 (by decide) ?_
      refine E_iload_n 2 1 dX10_applyBlock_28 rfl rfl ?_
      refine E_aaloadS dX10_applyBlock_29 ic_79 v4_1.1 v4_1.2 (rf_shelves ⟨v4_1.1, v4_1.2⟩) ?_
      refine E_aload_n 0 3 dX10_applyBlock_30 rfl rfl ?_
      refine E_gI 0 0 dX10_applyBlock_31 FX10_108 (icN0 v4_2) rfl ?_
      refine E_invVI [vr (80 + l1), vi (h (4 * l2) 0)] dX10_applyBlock_34 fX10_unfold lX10_322 ic_68 rfl (by decide) rfl rfl (Nat.le_of_ble_eq_true rfl) (CI_mono hP (fun r6 h5 hP => ?_))
      refine E_istore dX10_applyBlock_37 (by decide) rfl ?_
      refine E_iload 0 dX10_applyBlock_39 rfl ?_
      refine E_if_ge 47 dX10_applyBlock_41 rfl (fun hc => ?_) (fun hc => ?_)
      · replace hP := hP.1 (hc)
        obtain ⟨⟨v8_0, v8_1⟩, hP⟩ := hP
        refine E_aload_n 1 3 dX10_applyBlock_47 rfl rfl ?_
        refine E_gI 1 1 dX10_applyBlock_48 FX10_101 (icN0 v8_0) rfl ?_
        refine E_iload 0 dX10_applyBlock_51 rfl ?_
        refine E_iadd dX10_applyBlock_53 (rgI v8_1) ?_
        refine E_bipush dX10_applyBlock_54 (by decide) ?_
        refine E_icmp_le 62 dX10_applyBlock_56 rfl (fun hc => ?_) (fun hc => ?_)
        · replace hP := hP.1 (hc)
          refine E_aload_n 2 0 dX10_applyBlock_62 rfl rfl ?_
          refine E_iload_n 4 2 dX10_applyBlock_63 rfl rfl ?_
          refine E_invVV [vi l2] dX10_applyBlock_64 fX10_remember lX10_97 ic_68 rfl (by decide) rfl rfl (Nat.le_of_ble_eq_true rfl) (CV_mono hP (fun h10 hP => ?_))
          obtain ⟨v11_0, hP⟩ := hP
          refine E_aload_n 1 3 dX10_applyBlock_67 rfl rfl ?_
          refine E_aload_n 2 0 dX10_applyBlock_68 rfl rfl ?_
          refine E_gR 16 1 dX10_applyBlock_69 FX10_16 ic_68 (by decide) ?_
          refine E_iconst dX10_applyBlock_72 (rg_of rfl) ?_
          refine E_invVV [vr 16, vi 0] dX10_applyBlock_73 fX3_pushAll lX10_289 (icN0 v11_0) rfl (by decide) rfl rfl (Nat.le_of_ble_eq_true rfl) (CV_mono hP (fun h12 hP => ?_))
          refine E_iload 0 dX10_applyBlock_76 rfl ?_
          exact E_retI dX10_applyBlock_78 rfl hP
        · replace hP := hP.2 (by omega)
          refine E_bipush dX10_applyBlock_59 (by decide) ?_
          exact E_retI dX10_applyBlock_61 rfl hP
      · replace hP := hP.2 (by omega)
        refine E_iload 0 dX10_applyBlock_44 rfl ?_
        exact E_retI dX10_applyBlock_46 rfl hP
    · replace hP := hP.2 (by have := ite0 hc; omega)
      refine E_iconst dX10_applyBlock_14 (rg_of rfl) ?_
      exact E_retI dX10_applyBlock_15 rfl hP
