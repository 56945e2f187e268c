theorem dX11_isStable_0 : decode prog_13_method_30_code 0 = .ok (.aload_n 0, 1) := by decide +kernel
theorem dX11_isStable_1 : decode prog_13_method_30_code 1 = .ok (.getfield 146, 3) := by decide +kernel
theorem dX11_isStable_4 : decode prog_13_method_30_code 4 = .ok (.ifCond .ne 6, 3) := by decide +kernel
theorem dX11_isStable_7 : decode prog_13_method_30_code 7 = .ok (.bipush (-5), 2) := by decide +kernel
theorem dX11_isStable_9 : decode prog_13_method_30_code 9 = .ok (.ireturn, 1) := by decide +kernel
theorem dX11_isStable_10 : decode prog_13_method_30_code 10 = .ok (.iconst 0, 1) := by decide +kernel
theorem dX11_isStable_11 : decode prog_13_method_30_code 11 = .ok (.istore_n 1, 1) := by decide +kernel
theorem dX11_isStable_12 : decode prog_13_method_30_code 12 = .ok (.iload_n 1, 1) := by decide +kernel
theorem dX11_isStable_13 : decode prog_13_method_30_code 13 = .ok (.aload_n 0, 1) := by decide +kernel
theorem dX11_isStable_14 : decode prog_13_method_30_code 14 = .ok (.getfield 146, 3) := by decide +kernel
theorem dX11_isStable_17 : decode prog_13_method_30_code 17 = .ok (.if_icmp .ge 54, 3) := by decide +kernel
theorem dX11_isStable_20 : decode prog_13_method_30_code 20 = .ok (.iconst 0, 1) := by decide +kernel
theorem dX11_isStable_21 : decode prog_13_method_30_code 21 = .ok (.istore_n 2, 1) := by decide +kernel
theorem dX11_isStable_22 : decode prog_13_method_30_code 22 = .ok (.iload_n 2, 1) := by decide +kernel
theorem dX11_isStable_23 : decode prog_13_method_30_code 23 = .ok (.iload_n 1, 1) := by decide +kernel
theorem dX11_isStable_24 : decode prog_13_method_30_code 24 = .ok (.if_icmp .ge 41, 3) := by decide +kernel
theorem dX11_isStable_27 : decode prog_13_method_30_code 27 = .ok (.aload_n 0, 1) := by decide +kernel
theorem dX11_isStable_28 : decode prog_13_method_30_code 28 = .ok (.getfield 25, 3) := by decide +kernel
theorem dX11_isStable_31 : decode prog_13_method_30_code 31 = .ok (.iload_n 2, 1) := by decide +kernel
theorem dX11_isStable_32 : decode prog_13_method_30_code 32 = .ok (.iaload, 1) := by decide +kernel
theorem dX11_isStable_33 : decode prog_13_method_30_code 33 = .ok (.aload_n 0, 1) := by decide +kernel
theorem dX11_isStable_34 : decode prog_13_method_30_code 34 = .ok (.getfield 25, 3) := by decide +kernel
theorem dX11_isStable_37 : decode prog_13_method_30_code 37 = .ok (.iload_n 1, 1) := by decide +kernel
theorem dX11_isStable_38 : decode prog_13_method_30_code 38 = .ok (.iaload, 1) := by decide +kernel
theorem dX11_isStable_39 : decode prog_13_method_30_code 39 = .ok (.if_icmp .ne 20, 3) := by decide +kernel
theorem dX11_isStable_42 : decode prog_13_method_30_code 42 = .ok (.aload_n 0, 1) := by decide +kernel
theorem dX11_isStable_43 : decode prog_13_method_30_code 43 = .ok (.getfield 28, 3) := by decide +kernel
theorem dX11_isStable_46 : decode prog_13_method_30_code 46 = .ok (.iload_n 2, 1) := by decide +kernel
theorem dX11_isStable_47 : decode prog_13_method_30_code 47 = .ok (.iaload, 1) := by decide +kernel
theorem dX11_isStable_48 : decode prog_13_method_30_code 48 = .ok (.aload_n 0, 1) := by decide +kernel
theorem dX11_isStable_49 : decode prog_13_method_30_code 49 = .ok (.getfield 28, 3) := by decide +kernel
theorem dX11_isStable_52 : decode prog_13_method_30_code 52 = .ok (.iload_n 1, 1) := by decide +kernel
theorem dX11_isStable_53 : decode prog_13_method_30_code 53 = .ok (.iaload, 1) := by decide +kernel
theorem dX11_isStable_54 : decode prog_13_method_30_code 54 = .ok (.if_icmp .le 5, 3) := by decide +kernel
theorem dX11_isStable_57 : decode prog_13_method_30_code 57 = .ok (.iconst 0, 1) := by decide +kernel
theorem dX11_isStable_58 : decode prog_13_method_30_code 58 = .ok (.ireturn, 1) := by decide +kernel
theorem dX11_isStable_59 : decode prog_13_method_30_code 59 = .ok (.iinc 2 1, 3) := by decide +kernel
theorem dX11_isStable_62 : decode prog_13_method_30_code 62 = .ok (.goto (-40), 3) := by decide +kernel
theorem dX11_isStable_65 : decode prog_13_method_30_code 65 = .ok (.iinc 1 1, 3) := by decide +kernel
theorem dX11_isStable_68 : decode prog_13_method_30_code 68 = .ok (.goto (-56), 3) := by decide +kernel
theorem dX11_isStable_71 : decode prog_13_method_30_code 71 = .ok (.iconst 1, 1) := by decide +kernel
theorem dX11_isStable_72 : decode prog_13_method_30_code 72 = .ok (.ireturn, 1) := by decide +kernel
theorem sX11_isStable_22 {Q : Int → Hp → Prop} {h : Hp} {l1 l2 : Int}
    (hP : ((l2 ≥ l1) →
     (rj (l1 + 1)) ∧
     E 0 mX11_isStable 12 [(0, vr 103), (1, vi (l1 + 1))] [] h (qi Q)) ∧
    ((l2 < l1) →
     (ix l2 8 ∧ ix l1 8) ∧
     (((h 109 l2) ≠ (h 109 l1)) →
      (rj (l2 + 1)) ∧
      E 0 mX11_isStable 22 [(0, vr 103), (1, vi l1), (2, vi (l2 + 1))] [] h (qi Q)) ∧
     (((h 109 l2) = (h 109 l1)) →
      (ix l2 8 ∧ ix l1 8) ∧
      (((h 110 l2) ≤ (h 110 l1)) →
       (rj (l2 + 1)) ∧
       E 0 mX11_isStable 22 [(0, vr 103), (1, vi l1), (2, vi (l2 + 1))] [] h (qi Q)) ∧
      (((h 110 l2) > (h 110 l1)) →
       Q 0 h)))) :
    E 0 mX11_isStable 22 [(0, vr 103), (1, vi l1), (2, vi l2)] [] h (qi Q) := by
  refine E_iload_n 2 2 dX11_isStable_22 rfl rfl ?_
  refine E_iload_n 1 1 dX11_isStable_23 rfl rfl ?_
  refine E_icmp_ge 65 dX11_isStable_24 rfl (fun hc => ?_) (fun hc => ?_)
  · replace hP := hP.1 (hc)
    obtain ⟨v2_0, hP⟩ := hP
    refine E_iinc 1 dX11_isStable_65 rfl (rgI v2_0) (by decide) rfl ?_
    refine E_goto 12 dX11_isStable_68 rfl ?_
    exact E_sub [1, 0] rfl hP
  · replace hP := hP.2 (by omega)
    obtain ⟨⟨v3_0, v3_1⟩, hP⟩ := hP
    refine E_aload_n 0 0 dX11_isStable_27 rfl rfl ?_
    refine E_gR 109 5 dX11_isStable_28 FX11_25 ic_103 (by decide) ?_
    refine E_iload_n 2 2 dX11_isStable_31 rfl rfl ?_
    refine E_iaload dX11_isStable_32 ic_109 v3_0.1 v3_0.2 ?_
    refine E_aload_n 0 0 dX11_isStable_33 rfl rfl ?_
    refine E_gR 109 5 dX11_isStable_34 FX11_25 ic_103 (by decide) ?_
    refine E_iload_n 1 1 dX11_isStable_37 rfl rfl ?_
    refine E_iaload dX11_isStable_38 ic_109 v3_1.1 v3_1.2 ?_
    refine E_icmp_ne 59 dX11_isStable_39 rfl (fun hc => ?_) (fun hc => ?_)
    · replace hP := hP.1 (hc)
      obtain ⟨v4_0, hP⟩ := hP
      refine E_iinc 2 dX11_isStable_59 rfl (rgI v4_0) (by decide) rfl ?_
      refine E_goto 22 dX11_isStable_62 rfl ?_
      exact E_sub [1, 2, 0] rfl hP
    · replace hP := hP.2 (by omega)
      obtain ⟨⟨v5_0, v5_1⟩, hP⟩ := hP
      refine E_aload_n 0 0 dX11_isStable_42 rfl rfl ?_
      refine E_gR 110 6 dX11_isStable_43 FX11_28 ic_103 (by decide) ?_
      refine E_iload_n 2 2 dX11_isStable_46 rfl rfl ?_
      refine E_iaload dX11_isStable_47 ic_110 v5_0.1 v5_0.2 ?_
      refine E_aload_n 0 0 dX11_isStable_48 rfl rfl ?_
      refine E_gR 110 6 dX11_isStable_49 FX11_28 ic_103 (by decide) ?_
      refine E_iload_n 1 1 dX11_isStable_52 rfl rfl ?_
      refine E_iaload dX11_isStable_53 ic_110 v5_1.1 v5_1.2 ?_
      refine E_icmp_le 59 dX11_isStable_54 rfl (fun hc => ?_) (fun hc => ?_)
      · replace hP := hP.1 (hc)
        obtain ⟨v6_0, hP⟩ := hP
        refine E_iinc 2 dX11_isStable_59 rfl (rgI v6_0) (by decide) rfl ?_
        refine E_goto 22 dX11_isStable_62 rfl ?_
        exact E_sub [1, 2, 0] rfl hP
      · replace hP := hP.2 (by omega)
        refine E_iconst dX11_isStable_57 (rg_of rfl) ?_
        exact E_retI dX11_isStable_58 rfl hP
theorem sX11_isStable_12 {Q : Int → Hp → Prop} {h : Hp} {l1 : Int}
    (hP : ((l1 ≥ (h 103 7)) →
     Q 1 h) ∧
    ((l1 < (h 103 7)) →
     E 0 mX11_isStable 22 [(0, vr 103), (1, vi l1), (2, vi 0)] [] h (qi Q))) :
    E 0 mX11_isStable 12 [(0, vr 103), (1, vi l1)] [] h (qi Q) := by
  refine E_iload_n 1 1 dX11_isStable_12 rfl rfl ?_
  refine E_aload_n 0 0 dX11_isStable_13 rfl rfl ?_
  refine E_gI 7 7 dX11_isStable_14 FX11_146 ic_103 rfl ?_
  refine E_icmp_ge 71 dX11_isStable_17 rfl (fun hc => ?_) (fun hc => ?_)
  · replace hP := hP.1 (hc)
    refine E_iconst dX11_isStable_71 (rg_of rfl) ?_
    exact E_retI dX11_isStable_72 rfl hP
  · replace hP := hP.2 (by omega)
    refine E_iconst dX11_isStable_20 (rg_of rfl) ?_
    refine E_istore_n dX11_isStable_21 rfl (by decide) rfl ?_
    exact E_sub [1, 2, 0] rfl hP
theorem sX11_isStable {Q : Int → Hp → Prop} {h : Hp}
    (hP : (((h 103 7) ≠ 0) →
     E 0 mX11_isStable 12 [(0, vr 103), (1, vi 0)] [] h (qi Q)) ∧
    (((h 103 7) = 0) →
     Q (-5) h)) :
    CI 0 mX11_isStable [vr 103] h Q := by
  refine CI_of_E fX11_isStable.1 rfl (Nat.le_of_ble_eq_true rfl) ?_
  show E 0 mX11_isStable 0 [(0, vr 103)] [] h (qi Q)
  refine E_aload_n 0 0 dX11_isStable_0 rfl rfl ?_
  refine E_gI 7 7 dX11_isStable_1 FX11_146 ic_103 rfl ?_
  refine E_if_ne 10 dX11_isStable_4 rfl (fun hc => ?_) (fun hc => ?_)
  · replace hP := hP.1 (hc)
    refine E_iconst dX11_isStable_10 (rg_of rfl) ?_
    refine E_istore_n dX11_isStable_11 rfl (by decide) rfl ?_
    exact E_sub [1, 0] rfl hP
  · replace hP := hP.2 (by omega)
    refine E_bipush dX11_isStable_7 (by decide) ?_
    exact E_retI dX11_isStable_9 rfl hP
theorem dX11_makes_0 : decode prog_13_method_31_code 0 = .ok (.iload_n 2, 1) := by decide +kernel
theorem dX11_makes_1 : decode prog_13_method_31_code 1 = .ok (.istore 4, 2) := by decide +kernel
theorem dX11_makes_3 : decode prog_13_method_31_code 3 = .ok (.iconst 0, 1) := by decide +kernel
theorem dX11_makes_4 : decode prog_13_method_31_code 4 = .ok (.istore 5, 2) := by decide +kernel
theorem dX11_makes_6 : decode prog_13_method_31_code 6 = .ok (.iload 5, 2) := by decide +kernel
theorem dX11_makes_8 : decode prog_13_method_31_code 8 = .ok (.aload_n 0, 1) := by decide +kernel
theorem dX11_makes_9 : decode prog_13_method_31_code 9 = .ok (.getfield 13, 3) := by decide +kernel
theorem dX11_makes_12 : decode prog_13_method_31_code 12 = .ok (.iload_n 1, 1) := by decide +kernel
theorem dX11_makes_13 : decode prog_13_method_31_code 13 = .ok (.iaload, 1) := by decide +kernel
theorem dX11_makes_14 : decode prog_13_method_31_code 14 = .ok (.if_icmp .ge 74, 3) := by decide +kernel
theorem dX11_makes_17 : decode prog_13_method_31_code 17 = .ok (.aload_n 0, 1) := by decide +kernel
theorem dX11_makes_18 : decode prog_13_method_31_code 18 = .ok (.getfield 16, 3) := by decide +kernel
theorem dX11_makes_21 : decode prog_13_method_31_code 21 = .ok (.bipush 40, 2) := by decide +kernel
theorem dX11_makes_23 : decode prog_13_method_31_code 23 = .ok (.iload_n 1, 1) := by decide +kernel
theorem dX11_makes_24 : decode prog_13_method_31_code 24 = .ok (.imul, 1) := by decide +kernel
theorem dX11_makes_25 : decode prog_13_method_31_code 25 = .ok (.iload 5, 2) := by decide +kernel
theorem dX11_makes_27 : decode prog_13_method_31_code 27 = .ok (.iadd, 1) := by decide +kernel
theorem dX11_makes_28 : decode prog_13_method_31_code 28 = .ok (.iaload, 1) := by decide +kernel
theorem dX11_makes_29 : decode prog_13_method_31_code 29 = .ok (.istore 6, 2) := by decide +kernel
theorem dX11_makes_31 : decode prog_13_method_31_code 31 = .ok (.aload_n 0, 1) := by decide +kernel
theorem dX11_makes_32 : decode prog_13_method_31_code 32 = .ok (.getfield 19, 3) := by decide +kernel
theorem dX11_makes_35 : decode prog_13_method_31_code 35 = .ok (.bipush 40, 2) := by decide +kernel
theorem dX11_makes_37 : decode prog_13_method_31_code 37 = .ok (.iload_n 1, 1) := by decide +kernel
theorem dX11_makes_38 : decode prog_13_method_31_code 38 = .ok (.imul, 1) := by decide +kernel
theorem dX11_makes_39 : decode prog_13_method_31_code 39 = .ok (.iload 5, 2) := by decide +kernel
theorem dX11_makes_41 : decode prog_13_method_31_code 41 = .ok (.iadd, 1) := by decide +kernel
theorem dX11_makes_42 : decode prog_13_method_31_code 42 = .ok (.iaload, 1) := by decide +kernel
theorem dX11_makes_43 : decode prog_13_method_31_code 43 = .ok (.istore 7, 2) := by decide +kernel
theorem dX11_makes_45 : decode prog_13_method_31_code 45 = .ok (.iload 5, 2) := by decide +kernel
theorem dX11_makes_47 : decode prog_13_method_31_code 47 = .ok (.iload_n 3, 1) := by decide +kernel
theorem dX11_makes_48 : decode prog_13_method_31_code 48 = .ok (.if_icmp .eq 34, 3) := by decide +kernel
theorem dX11_makes_51 : decode prog_13_method_31_code 51 = .ok (.iload 4, 2) := by decide +kernel
theorem dX11_makes_53 : decode prog_13_method_31_code 53 = .ok (.iload 6, 2) := by decide +kernel
theorem dX11_makes_55 : decode prog_13_method_31_code 55 = .ok (.ishr, 1) := by decide +kernel
theorem dX11_makes_56 : decode prog_13_method_31_code 56 = .ok (.iconst 1, 1) := by decide +kernel
theorem dX11_makes_57 : decode prog_13_method_31_code 57 = .ok (.iand, 1) := by decide +kernel
theorem dX11_makes_58 : decode prog_13_method_31_code 58 = .ok (.iload 4, 2) := by decide +kernel
theorem dX11_makes_60 : decode prog_13_method_31_code 60 = .ok (.iload 7, 2) := by decide +kernel
theorem dX11_makes_62 : decode prog_13_method_31_code 62 = .ok (.ishr, 1) := by decide +kernel
theorem dX11_makes_63 : decode prog_13_method_31_code 63 = .ok (.iconst 1, 1) := by decide +kernel
theorem dX11_makes_64 : decode prog_13_method_31_code 64 = .ok (.iand, 1) := by decide +kernel
theorem dX11_makes_65 : decode prog_13_method_31_code 65 = .ok (.if_icmp .le 17, 3) := by decide +kernel
theorem dX11_makes_68 : decode prog_13_method_31_code 68 = .ok (.iload 4, 2) := by decide +kernel
theorem dX11_makes_70 : decode prog_13_method_31_code 70 = .ok (.iconst 1, 1) := by decide +kernel
theorem dX11_makes_71 : decode prog_13_method_31_code 71 = .ok (.iload 6, 2) := by decide +kernel
theorem dX11_makes_73 : decode prog_13_method_31_code 73 = .ok (.ishl, 1) := by decide +kernel
theorem dX11_makes_74 : decode prog_13_method_31_code 74 = .ok (.iconst 1, 1) := by decide +kernel
theorem dX11_makes_75 : decode prog_13_method_31_code 75 = .ok (.iload 7, 2) := by decide +kernel
theorem dX11_makes_77 : decode prog_13_method_31_code 77 = .ok (.ishl, 1) := by decide +kernel
theorem dX11_makes_78 : decode prog_13_method_31_code 78 = .ok (.ior, 1) := by decide +kernel
theorem dX11_makes_79 : decode prog_13_method_31_code 79 = .ok (.ixor, 1) := by decide +kernel
theorem dX11_makes_80 : decode prog_13_method_31_code 80 = .ok (.istore 4, 2) := by decide +kernel
theorem dX11_makes_82 : decode prog_13_method_31_code 82 = .ok (.iinc 5 1, 3) := by decide +kernel
theorem dX11_makes_85 : decode prog_13_method_31_code 85 = .ok (.goto (-79), 3) := by decide +kernel
theorem dX11_makes_88 : decode prog_13_method_31_code 88 = .ok (.iload 4, 2) := by decide +kernel
theorem dX11_makes_90 : decode prog_13_method_31_code 90 = .ok (.ireturn, 1) := by decide +kernel
theorem sX11_makes_6 {Q : Int → Hp → Prop} {h : Hp} {l1 l3 l4 l5 : Int}
    (hP : (ix l1 4) ∧
    ((l5 ≥ (h 105 l1)) →
     Q l4 h) ∧
    ((l5 < (h 105 l1)) →
     (rj (40 * l1) ∧ rj ((40 * l1) + l5) ∧ ix ((40 * l1) + l5) 160) ∧
     ((l5 = l3) →
      (rj (l5 + 1)) ∧
      E 0 mX11_makes 6 [(0, vr 103), (1, vi l1), (3, vi l3), (4, vi l4), (5, vi (l5 + 1))] [] h (qi Q)) ∧
     ((l5 ≠ l3) →
      (((j_iand (j_ishr l4 (h 106 ((40 * l1) + l5))) 1) ≤ (j_iand (j_ishr l4 (h 107 ((40 * l1) + l5))) 1)) →
       (rj (l5 + 1)) ∧
       E 0 mX11_makes 6 [(0, vr 103), (1, vi l1), (3, vi l3), (4, vi l4), (5, vi (l5 + 1))] [] h (qi Q)) ∧
      (((j_iand (j_ishr l4 (h 106 ((40 * l1) + l5))) 1) > (j_iand (j_ishr l4 (h 107 ((40 * l1) + l5))) 1)) →
       (∀ x8 : Int, x8 = (j_ixor l4 (j_ior (j_ishl 1 (h 106 ((40 * l1) + l5))) (j_ishl 1 (h 107 ((40 * l1) + l5))))) →
       (rj (l5 + 1)) ∧
       E 0 mX11_makes 6 [(0, vr 103), (1, vi l1), (3, vi l3), (4, vi x8), (5, vi (l5 + 1))] [] h (qi Q)))))) :
    E 0 mX11_makes 6 [(0, vr 103), (1, vi l1), (3, vi l3), (4, vi l4), (5, vi l5)] [] h (qi Q) := by
  obtain ⟨v1_0, hP⟩ := hP
  refine E_iload 4 dX11_makes_6 rfl ?_
  refine E_aload_n 0 0 dX11_makes_8 rfl rfl ?_
  refine E_gR 105 1 dX11_makes_9 FX11_13 ic_103 (by decide) ?_
  refine E_iload_n 1 1 dX11_makes_12 rfl rfl ?_
  refine E_iaload dX11_makes_13 ic_105 v1_0.1 v1_0.2 ?_
  refine E_icmp_ge 88 dX11_makes_14 rfl (fun hc => ?_) (fun hc => ?_)
  · replace hP := hP.1 (hc)
    refine E_iload 3 dX11_makes_88 rfl ?_
    exact E_retI dX11_makes_90 rfl hP
  · replace hP := hP.2 (by omega)
    obtain ⟨⟨v3_0, v3_1, v3_2⟩, hP⟩ := hP
    refine E_aload_n 0 0 dX11_makes_17 rfl rfl ?_
    refine E_gR 106 2 dX11_makes_18 FX11_16 ic_103 (by decide) ?_
    refine E_bipush dX11_makes_21 (by decide) ?_
    refine E_iload_n 1 1 dX11_makes_23 rfl rfl ?_
    refine E_imul dX11_makes_24 (rgI v3_0) ?_
    refine E_iload 4 dX11_makes_25 rfl ?_
    refine E_iadd dX11_makes_27 (rgI v3_1) ?_
    refine E_iaload dX11_makes_28 ic_106 v3_2.1 v3_2.2 ?_
    refine E_istore dX11_makes_29 (by decide) rfl ?_
    refine E_aload_n 1 0 dX11_makes_31 rfl rfl ?_
    refine E_gR 107 3 dX11_makes_32 FX11_19 ic_103 (by decide) ?_
    refine E_bipush dX11_makes_35 (by decide) ?_
    refine E_iload_n 2 1 dX11_makes_37 rfl rfl ?_
    refine E_imul dX11_makes_38 (rgI v3_0) ?_
    refine E_iload 5 dX11_makes_39 rfl ?_
    refine E_iadd dX11_makes_41 (rgI v3_1) ?_
    refine E_iaload dX11_makes_42 ic_107 v3_2.1 v3_2.2 ?_
    refine E_istore dX11_makes_43 (by decide) rfl ?_
    refine E_iload 6 dX11_makes_45 rfl ?_
    refine E_iload_n 4 3 dX11_makes_47 rfl rfl ?_
    refine E_icmp_eq 82 dX11_makes_48 rfl (fun hc => ?_) (fun hc => ?_)
    · replace hP := hP.1 (hc)
      obtain ⟨v4_0, hP⟩ := hP
      refine E_iinc 6 dX11_makes_82 rfl (rgI v4_0) (by decide) rfl ?_
      refine E_goto 6 dX11_makes_85 rfl ?_
      exact E_sub [3, 4, 5, 6, 0] rfl hP
    · replace hP := hP.2 (by omega)
      refine E_iload 5 dX11_makes_51 rfl ?_
      refine E_iload 1 dX11_makes_53 rfl ?_
      refine E_ishr dX11_makes_55 ?_
      refine E_iconst dX11_makes_56 (rg_of rfl) ?_
      refine E_iand dX11_makes_57 ?_
      refine E_iload 5 dX11_makes_58 rfl ?_
      refine E_iload 0 dX11_makes_60 rfl ?_
      refine E_ishr dX11_makes_62 ?_
      refine E_iconst dX11_makes_63 (rg_of rfl) ?_
      refine E_iand dX11_makes_64 ?_
      refine E_icmp_le 82 dX11_makes_65 rfl (fun hc => ?_) (fun hc => ?_)
      · replace hP := hP.1 (hc)
        obtain ⟨v6_0, hP⟩ := hP
        refine E_iinc 6 dX11_makes_82 rfl (rgI v6_0) (by decide) rfl ?_
        refine E_goto 6 dX11_makes_85 rfl ?_
        exact E_sub [3, 4, 5, 6, 0] rfl hP
      · replace hP := hP.2 (by omega)
        refine E_iload 5 dX11_makes_68 rfl ?_
        refine E_iconst dX11_makes_70 (rg_of rfl) ?_
        refine E_iload 1 dX11_makes_71 rfl ?_
        refine E_ishl dX11_makes_73 ?_
        refine E_iconst dX11_makes_74 (rg_of rfl) ?_
        refine E_iload 0 dX11_makes_75 rfl ?_
        refine E_ishl dX11_makes_77 ?_
        refine E_ior dX11_makes_78 ?_
        refine E_ixor dX11_makes_79 ?_
        obtain ⟨x8, hx8⟩ : ∃ x : Int, x = (j_ixor l4 (j_ior (j_ishl 1 (h 106 ((40 * l1) + l5))) (j_ishl 1 (h 107 ((40 * l1) + l5))))) := ⟨_, rfl⟩
        refine E_top hx8.symm ?_
        replace hP := hP x8 hx8
        refine E_istore dX11_makes_80 (by decide) rfl ?_
        obtain ⟨v9_0, hP⟩ := hP
        refine E_iinc 6 dX11_makes_82 rfl (rgI v9_0) (by decide) rfl ?_
        refine E_goto 6 dX11_makes_85 rfl ?_
        exact E_sub [4, 5, 6, 1, 0] rfl hP
theorem sX11_makes {Q : Int → Hp → Prop} {h : Hp} {l1 l2 l3 : Int}
    (hP : E 0 mX11_makes 6 [(0, vr 103), (1, vi l1), (3, vi l3), (4, vi l2), (5, vi 0)] [] h (qi Q)) :
    CI 0 mX11_makes [vr 103, vi l1, vi l2, vi l3] h Q := by
  refine CI_of_E fX11_makes.1 rfl (Nat.le_of_ble_eq_true rfl) ?_
  show E 0 mX11_makes 0 [(0, vr 103), (1, vi l1), (2, vi l2), (3, vi l3)] [] h (qi Q)
  refine E_iload_n 2 2 dX11_makes_0 rfl rfl ?_
  refine E_istore dX11_makes_1 (by decide) rfl ?_
  refine E_iconst dX11_makes_3 (rg_of rfl) ?_
  refine E_istore dX11_makes_4 (by decide) rfl ?_
  exact E_sub [2, 3, 5, 1, 0] rfl hP
theorem dX11_isSorted_0 : decode prog_13_method_32_code 0 = .ok (.iconst 0, 1) := by decide +kernel
theorem dX11_isSorted_1 : decode prog_13_method_32_code 1 = .ok (.istore_n 2, 1) := by decide +kernel
theorem dX11_isSorted_2 : decode prog_13_method_32_code 2 = .ok (.iconst 0, 1) := by decide +kernel
theorem dX11_isSorted_3 : decode prog_13_method_32_code 3 = .ok (.istore_n 3, 1) := by decide +kernel
theorem dX11_isSorted_4 : decode prog_13_method_32_code 4 = .ok (.iload_n 3, 1) := by decide +kernel
theorem dX11_isSorted_5 : decode prog_13_method_32_code 5 = .ok (.iload_n 0, 1) := by decide +kernel
theorem dX11_isSorted_6 : decode prog_13_method_32_code 6 = .ok (.if_icmp .ge 27, 3) := by decide +kernel
theorem dX11_isSorted_9 : decode prog_13_method_32_code 9 = .ok (.iload_n 1, 1) := by decide +kernel
theorem dX11_isSorted_10 : decode prog_13_method_32_code 10 = .ok (.iload_n 3, 1) := by decide +kernel
theorem dX11_isSorted_11 : decode prog_13_method_32_code 11 = .ok (.ishr, 1) := by decide +kernel
theorem dX11_isSorted_12 : decode prog_13_method_32_code 12 = .ok (.iconst 1, 1) := by decide +kernel
theorem dX11_isSorted_13 : decode prog_13_method_32_code 13 = .ok (.iand, 1) := by decide +kernel
theorem dX11_isSorted_14 : decode prog_13_method_32_code 14 = .ok (.istore 4, 2) := by decide +kernel
theorem dX11_isSorted_16 : decode prog_13_method_32_code 16 = .ok (.iload 4, 2) := by decide +kernel
theorem dX11_isSorted_18 : decode prog_13_method_32_code 18 = .ok (.iload_n 2, 1) := by decide +kernel
theorem dX11_isSorted_19 : decode prog_13_method_32_code 19 = .ok (.if_icmp .ge 5, 3) := by decide +kernel
theorem dX11_isSorted_22 : decode prog_13_method_32_code 22 = .ok (.iconst 0, 1) := by decide +kernel
theorem dX11_isSorted_23 : decode prog_13_method_32_code 23 = .ok (.ireturn, 1) := by decide +kernel
theorem dX11_isSorted_24 : decode prog_13_method_32_code 24 = .ok (.iload 4, 2) := by decide +kernel
theorem dX11_isSorted_26 : decode prog_13_method_32_code 26 = .ok (.istore_n 2, 1) := by decide +kernel
theorem dX11_isSorted_27 : decode prog_13_method_32_code 27 = .ok (.iinc 3 1, 3) := by decide +kernel
theorem dX11_isSorted_30 : decode prog_13_method_32_code 30 = .ok (.goto (-26), 3) := by decide +kernel
theorem dX11_isSorted_33 : decode prog_13_method_32_code 33 = .ok (.iconst 1, 1) := by decide +kernel
theorem dX11_isSorted_34 : decode prog_13_method_32_code 34 = .ok (.ireturn, 1) := by decide +kernel
theorem sX11_isSorted_4 {Q : Int → Hp → Prop} {h : Hp} {l0 l1 l2 l3 : Int}
    (hP : ((l3 ≥ l0) →
     Q 1 h) ∧
    ((l3 < l0) →
     (∀ x4 : Int, x4 = (j_iand (j_ishr l1 l3) 1) →
     ((x4 ≥ l2) →
      (rj (l3 + 1)) ∧
      E 0 mX11_isSorted 4 [(0, vi l0), (1, vi l1), (2, vi x4), (3, vi (l3 + 1))] [] h (qi Q)) ∧
     ((x4 < l2) →
      Q 0 h)))) :
    E 0 mX11_isSorted 4 [(0, vi l0), (1, vi l1), (2, vi l2), (3, vi l3)] [] h (qi Q) := by
  refine E_iload_n 3 3 dX11_isSorted_4 rfl rfl ?_
  refine E_iload_n 0 0 dX11_isSorted_5 rfl rfl ?_
  refine E_icmp_ge 33 dX11_isSorted_6 rfl (fun hc => ?_) (fun hc => ?_)
  · replace hP := hP.1 (hc)
    refine E_iconst dX11_isSorted_33 (rg_of rfl) ?_
    exact E_retZ dX11_isSorted_34 rfl (Or.inr rfl) hP
  · replace hP := hP.2 (by omega)
    refine E_iload_n 1 1 dX11_isSorted_9 rfl rfl ?_
    refine E_iload_n 3 3 dX11_isSorted_10 rfl rfl ?_
    refine E_ishr dX11_isSorted_11 ?_
    refine E_iconst dX11_isSorted_12 (rg_of rfl) ?_
    refine E_iand dX11_isSorted_13 ?_
    obtain ⟨x4, hx4⟩ : ∃ x : Int, x = (j_iand (j_ishr l1 l3) 1) := ⟨_, rfl⟩
    refine E_top hx4.symm ?_
    replace hP := hP x4 hx4
    refine E_istore dX11_isSorted_14 (by decide) rfl ?_
    refine E_iload 0 dX11_isSorted_16 rfl ?_
    refine E_iload_n 3 2 dX11_isSorted_18 rfl rfl ?_
    refine E_icmp_ge 24 dX11_isSorted_19 rfl (fun hc => ?_) (fun hc => ?_)
    · replace hP := hP.1 (hc)
      obtain ⟨v6_0, hP⟩ := hP
      refine E_iload 0 dX11_isSorted_24 rfl ?_
      refine E_istore_n dX11_isSorted_26 rfl (by decide) rfl ?_
      refine E_iinc 4 dX11_isSorted_27 rfl (rgI v6_0) (by decide) rfl ?_
      refine E_goto 4 dX11_isSorted_30 rfl ?_
      exact E_sub [3, 4, 1, 0] rfl hP
    · replace hP := hP.2 (by omega)
      refine E_iconst dX11_isSorted_22 (rg_of rfl) ?_
      exact E_retZ dX11_isSorted_23 rfl (Or.inl rfl) hP
theorem sX11_isSorted {Q : Int → Hp → Prop} {h : Hp} {l0 l1 : Int}
    (hP : E 0 mX11_isSorted 4 [(0, vi l0), (1, vi l1), (2, vi 0), (3, vi 0)] [] h (qi Q)) :
    CI 0 mX11_isSorted [vi l0, vi l1] h Q := by
  refine CI_of_E fX11_isSorted.1 rfl (Nat.le_of_ble_eq_true rfl) ?_
  show E 0 mX11_isSorted 0 [(0, vi l0), (1, vi l1)] [] h (qi Q)
  refine E_iconst dX11_isSorted_0 (rg_of rfl) ?_
  refine E_istore_n dX11_isSorted_1 rfl (by decide) rfl ?_
  refine E_iconst dX11_isSorted_2 (rg_of rfl) ?_
  refine E_istore_n dX11_isSorted_3 rfl (by decide) rfl ?_
  exact E_sub [2, 3, 1, 0] rfl hP
theorem dX11_isSorter_0 : decode prog_13_method_33_code 0 = .ok (.iconst 0, 1) := by decide +kernel
theorem dX11_isSorter_1 : decode prog_13_method_33_code 1 = .ok (.istore_n 3, 1) := by decide +kernel
theorem dX11_isSorter_2 : decode prog_13_method_33_code 2 = .ok (.iload_n 3, 1) := by decide +kernel
theorem dX11_isSorter_3 : decode prog_13_method_33_code 3 = .ok (.iconst 1, 1) := by decide +kernel
theorem dX11_isSorter_4 : decode prog_13_method_33_code 4 = .ok (.aload_n 0, 1) := by decide +kernel
theorem dX11_isSorter_5 : decode prog_13_method_33_code 5 = .ok (.getfield 9, 3) := by decide +kernel
theorem dX11_isSorter_8 : decode prog_13_method_33_code 8 = .ok (.iload_n 1, 1) := by decide +kernel
theorem dX11_isSorter_9 : decode prog_13_method_33_code 9 = .ok (.iaload, 1) := by decide +kernel
theorem dX11_isSorter_10 : decode prog_13_method_33_code 10 = .ok (.ishl, 1) := by decide +kernel
theorem dX11_isSorter_11 : decode prog_13_method_33_code 11 = .ok (.if_icmp .ge 30, 3) := by decide +kernel
theorem dX11_isSorter_14 : decode prog_13_method_33_code 14 = .ok (.aload_n 0, 1) := by decide +kernel
theorem dX11_isSorter_15 : decode prog_13_method_33_code 15 = .ok (.getfield 9, 3) := by decide +kernel
theorem dX11_isSorter_18 : decode prog_13_method_33_code 18 = .ok (.iload_n 1, 1) := by decide +kernel
theorem dX11_isSorter_19 : decode prog_13_method_33_code 19 = .ok (.iaload, 1) := by decide +kernel
theorem dX11_isSorter_20 : decode prog_13_method_33_code 20 = .ok (.aload_n 0, 1) := by decide +kernel
theorem dX11_isSorter_21 : decode prog_13_method_33_code 21 = .ok (.iload_n 1, 1) := by decide +kernel
theorem dX11_isSorter_22 : decode prog_13_method_33_code 22 = .ok (.iload_n 3, 1) := by decide +kernel
theorem dX11_isSorter_23 : decode prog_13_method_33_code 23 = .ok (.iload_n 2, 1) := by decide +kernel
theorem dX11_isSorter_24 : decode prog_13_method_33_code 24 = .ok (.invokevirtual 149, 3) := by decide +kernel
theorem dX11_isSorter_27 : decode prog_13_method_33_code 27 = .ok (.invokestatic 153, 3) := by decide +kernel
theorem dX11_isSorter_30 : decode prog_13_method_33_code 30 = .ok (.ifCond .ne 5, 3) := by decide +kernel
theorem dX11_isSorter_33 : decode prog_13_method_33_code 33 = .ok (.iconst 0, 1) := by decide +kernel
theorem dX11_isSorter_34 : decode prog_13_method_33_code 34 = .ok (.ireturn, 1) := by decide +kernel
theorem dX11_isSorter_35 : decode prog_13_method_33_code 35 = .ok (.iinc 3 1, 3) := by decide +kernel
theorem dX11_isSorter_38 : decode prog_13_method_33_code 38 = .ok (.goto (-36), 3) := by decide +kernel
theorem dX11_isSorter_41 : decode prog_13_method_33_code 41 = .ok (.iconst 1, 1) := by decide +kernel
theorem dX11_isSorter_42 : decode prog_13_method_33_code 42 = .ok (.ireturn, 1) := by decide +kernel
theorem sX11_isSorter_2 {Q : Int → Hp → Prop} {h : Hp} {l1 l2 l3 : Int}
    (hP : (ix l1 4) ∧
    ((l3 ≥ (j_ishl 1 (h 104 l1))) →
     Q 1 h) ∧
    ((l3 < (j_ishl 1 (h 104 l1))) →
     (ix l1 4) ∧
     CI 0 mX11_makes [vr 103, vi l1, vi l3, vi l2] h (fun r5 h4 =>
      CI 0 mX11_isSorted [vi (h 104 l1), vi r5] h4 (fun r8 h7 =>
       ((r8 ≠ 0) →
        (rj (l3 + 1)) ∧
        E 1 mX11_isSorter 2 [(0, vr 103), (1, vi l1), (2, vi l2), (3, vi (l3 + 1))] [] h7 (qi Q)) ∧
       ((r8 = 0) →
        Q 0 h7))))) :
    E 1 mX11_isSorter 2 [(0, vr 103), (1, vi l1), (2, vi l2), (3, vi l3)] [] h (qi Q) := by
  obtain ⟨v1_0, hP⟩ := hP
  refine E_iload_n 3 3 dX11_isSorter_2 rfl rfl ?_
  refine E_iconst dX11_isSorter_3 (rg_of rfl) ?_
  refine E_aload_n 0 0 dX11_isSorter_4 rfl rfl ?_
  refine E_gR 104 0 dX11_isSorter_5 FX11_9 ic_103 (by decide) ?_
  refine E_iload_n 1 1 dX11_isSorter_8 rfl rfl ?_
  refine E_iaload dX11_isSorter_9 ic_104 v1_0.1 v1_0.2 ?_
  refine E_ishl dX11_isSorter_10 ?_
  refine E_icmp_ge 41 dX11_isSorter_11 rfl (fun hc => ?_) (fun hc => ?_)
  · replace hP := hP.1 (hc)
    refine E_iconst dX11_isSorter_41 (rg_of rfl) ?_
    exact E_retZ dX11_isSorter_42 rfl (Or.inr rfl) hP
  · replace hP := hP.2 (by omega)
    obtain ⟨v3_0, hP⟩ := hP
    refine E_aload_n 0 0 dX11_isSorter_14 rfl rfl ?_
    refine E_gR 104 0 dX11_isSorter_15 FX11_9 ic_103 (by decide) ?_
    refine E_iload_n 1 1 dX11_isSorter_18 rfl rfl ?_
    refine E_iaload dX11_isSorter_19 ic_104 v3_0.1 v3_0.2 ?_
    refine E_aload_n 0 0 dX11_isSorter_20 rfl rfl ?_
    refine E_iload_n 1 1 dX11_isSorter_21 rfl rfl ?_
    refine E_iload_n 3 3 dX11_isSorter_22 rfl rfl ?_
    refine E_iload_n 2 2 dX11_isSorter_23 rfl rfl ?_
    refine E_invVI [vi l1, vi l3, vi l2] dX11_isSorter_24 fX11_makes lX11_149 ic_103 rfl (by decide) rfl rfl (Nat.le_of_ble_eq_true rfl) (CI_mono hP (fun r5 h4 hP => ?_))
    refine E_invSI [vi (h 104 l1), vi r5] dX11_isSorter_27 fX11_isSorted lX11_153 (by decide) rfl rfl (Nat.le_of_ble_eq_true rfl) (CI_mono hP (fun r8 h7 hP => ?_))
    refine E_if_ne 35 dX11_isSorter_30 rfl (fun hc => ?_) (fun hc => ?_)
    · replace hP := hP.1 (hc)
      obtain ⟨v10_0, hP⟩ := hP
      refine E_iinc 3 dX11_isSorter_35 rfl (rgI v10_0) (by decide) rfl ?_
      refine E_goto 2 dX11_isSorter_38 rfl ?_
      exact E_sub [1, 2, 3, 0] rfl hP
    · replace hP := hP.2 (by omega)
      refine E_iconst dX11_isSorter_33 (rg_of rfl) ?_
      exact E_retZ dX11_isSorter_34 rfl (Or.inl rfl) hP
theorem sX11_isSorter {Q : Int → Hp → Prop} {h : Hp} {l1 l2 : Int}
    (hP : E 1 mX11_isSorter 2 [(0, vr 103), (1, vi l1), (2, vi l2), (3, vi 0)] [] h (qi Q)) :
    CI 1 mX11_isSorter [vr 103, vi l1, vi l2] h Q := by
  refine CI_of_E fX11_isSorter.1 rfl (Nat.le_of_ble_eq_true rfl) ?_
  show E 1 mX11_isSorter 0 [(0, vr 103), (1, vi l1), (2, vi l2)] [] h (qi Q)
  refine E_iconst dX11_isSorter_0 (rg_of rfl) ?_
  refine E_istore_n dX11_isSorter_1 rfl (by decide) rfl ?_
  exact E_sub [1, 2, 3, 0] rfl hP
theorem dX11_finds_0 : decode prog_13_method_34_code 0 = .ok (.iconst 0, 1) := by decide +kernel
theorem dX11_finds_1 : decode prog_13_method_34_code 1 = .ok (.istore_n 3, 1) := by decide +kernel
theorem dX11_finds_2 : decode prog_13_method_34_code 2 = .ok (.iload_n 3, 1) := by decide +kernel
theorem dX11_finds_3 : decode prog_13_method_34_code 3 = .ok (.sipush 256, 3) := by decide +kernel
theorem dX11_finds_6 : decode prog_13_method_34_code 6 = .ok (.if_icmp .ge 13, 3) := by decide +kernel
theorem dX11_finds_9 : decode prog_13_method_34_code 9 = .ok (.aload_n 2, 1) := by decide +kernel
theorem dX11_finds_10 : decode prog_13_method_34_code 10 = .ok (.iload_n 3, 1) := by decide +kernel
theorem dX11_finds_11 : decode prog_13_method_34_code 11 = .ok (.iconst 0, 1) := by decide +kernel
theorem dX11_finds_12 : decode prog_13_method_34_code 12 = .ok (.bastore, 1) := by decide +kernel
theorem dX11_finds_13 : decode prog_13_method_34_code 13 = .ok (.iinc 3 1, 3) := by decide +kernel
theorem dX11_finds_16 : decode prog_13_method_34_code 16 = .ok (.goto (-14), 3) := by decide +kernel
theorem dX11_finds_19 : decode prog_13_method_34_code 19 = .ok (.iconst 0, 1) := by decide +kernel
theorem dX11_finds_20 : decode prog_13_method_34_code 20 = .ok (.istore_n 3, 1) := by decide +kernel
theorem dX11_finds_21 : decode prog_13_method_34_code 21 = .ok (.iconst 0, 1) := by decide +kernel
theorem dX11_finds_22 : decode prog_13_method_34_code 22 = .ok (.istore 4, 2) := by decide +kernel
theorem dX11_finds_24 : decode prog_13_method_34_code 24 = .ok (.iload 4, 2) := by decide +kernel
theorem dX11_finds_26 : decode prog_13_method_34_code 26 = .ok (.iconst 1, 1) := by decide +kernel
theorem dX11_finds_27 : decode prog_13_method_34_code 27 = .ok (.aload_n 0, 1) := by decide +kernel
theorem dX11_finds_28 : decode prog_13_method_34_code 28 = .ok (.getfield 9, 3) := by decide +kernel
theorem dX11_finds_31 : decode prog_13_method_34_code 31 = .ok (.iload_n 1, 1) := by decide +kernel
theorem dX11_finds_32 : decode prog_13_method_34_code 32 = .ok (.iaload, 1) := by decide +kernel
theorem dX11_finds_33 : decode prog_13_method_34_code 33 = .ok (.ishl, 1) := by decide +kernel
theorem dX11_finds_34 : decode prog_13_method_34_code 34 = .ok (.if_icmp .ge 39, 3) := by decide +kernel
theorem dX11_finds_37 : decode prog_13_method_34_code 37 = .ok (.aload_n 0, 1) := by decide +kernel
theorem dX11_finds_38 : decode prog_13_method_34_code 38 = .ok (.iload_n 1, 1) := by decide +kernel
theorem dX11_finds_39 : decode prog_13_method_34_code 39 = .ok (.iload 4, 2) := by decide +kernel
theorem dX11_finds_41 : decode prog_13_method_34_code 41 = .ok (.iconst (-1), 1) := by decide +kernel
theorem dX11_finds_42 : decode prog_13_method_34_code 42 = .ok (.invokevirtual 149, 3) := by decide +kernel
theorem dX11_finds_45 : decode prog_13_method_34_code 45 = .ok (.istore 5, 2) := by decide +kernel
theorem dX11_finds_47 : decode prog_13_method_34_code 47 = .ok (.iload_n 3, 1) := by decide +kernel
theorem dX11_finds_48 : decode prog_13_method_34_code 48 = .ok (.aload_n 2, 1) := by decide +kernel
theorem dX11_finds_49 : decode prog_13_method_34_code 49 = .ok (.iload 5, 2) := by decide +kernel
theorem dX11_finds_51 : decode prog_13_method_34_code 51 = .ok (.baload, 1) := by decide +kernel
theorem dX11_finds_52 : decode prog_13_method_34_code 52 = .ok (.ifCond .eq 7, 3) := by decide +kernel
theorem dX11_finds_55 : decode prog_13_method_34_code 55 = .ok (.iconst 0, 1) := by decide +kernel
theorem dX11_finds_56 : decode prog_13_method_34_code 56 = .ok (.goto 4, 3) := by decide +kernel
theorem dX11_finds_59 : decode prog_13_method_34_code 59 = .ok (.iconst 1, 1) := by decide +kernel
theorem dX11_finds_60 : decode prog_13_method_34_code 60 = .ok (.iadd, 1) := by decide +kernel
theorem dX11_finds_61 : decode prog_13_method_34_code 61 = .ok (.istore_n 3, 1) := by decide +kernel
theorem dX11_finds_62 : decode prog_13_method_34_code 62 = .ok (.aload_n 2, 1) := by decide +kernel
theorem dX11_finds_63 : decode prog_13_method_34_code 63 = .ok (.iload 5, 2) := by decide +kernel
theorem dX11_finds_65 : decode prog_13_method_34_code 65 = .ok (.iconst 1, 1) := by decide +kernel
theorem dX11_finds_66 : decode prog_13_method_34_code 66 = .ok (.bastore, 1) := by decide +kernel
theorem dX11_finds_67 : decode prog_13_method_34_code 67 = .ok (.iinc 4 1, 3) := by decide +kernel
theorem dX11_finds_70 : decode prog_13_method_34_code 70 = .ok (.goto (-46), 3) := by decide +kernel
theorem dX11_finds_73 : decode prog_13_method_34_code 73 = .ok (.iload_n 3, 1) := by decide +kernel
theorem dX11_finds_74 : decode prog_13_method_34_code 74 = .ok (.ireturn, 1) := by decide +kernel
theorem sX11_finds_24 {Q : Int → Hp → Prop} {h : Hp} {l1 r2 l3 l4 : Int}
    (hP : (ix l1 4) ∧
    ((l4 ≥ (j_ishl 1 (h 104 l1))) →
     Q l3 h) ∧
    ((l4 < (j_ishl 1 (h 104 l1))) →
     CI 0 mX11_makes [vr 103, vi l1, vi l4, vi (-1)] h (fun r5 h4 =>
      (setA r2 ∧ ix r5 256) ∧
      (rj (l3 + (if (h4 r2 r5) = 0 then (1 : Int) else 0))) ∧
      (∀ x8 : Int, x8 = (l3 + (if (h4 r2 r5) = 0 then (1 : Int) else 0)) →
      (setA r2 ∧ ix r5 256 ∧ rj (l4 + 1)) ∧
      E 1 mX11_finds 24 [(0, vr 103), (1, vi l1), (2, vr r2), (3, vi x8), (4, vi (l4 + 1))] [] (up h4 r2 r5 1) (qi Q))))) :
    E 1 mX11_finds 24 [(0, vr 103), (1, vi l1), (2, vr r2), (3, vi l3), (4, vi l4)] [] h (qi Q) := by
  obtain ⟨v1_0, hP⟩ := hP
  refine E_iload 4 dX11_finds_24 rfl ?_
  refine E_iconst dX11_finds_26 (rg_of rfl) ?_
  refine E_aload_n 0 0 dX11_finds_27 rfl rfl ?_
  refine E_gR 104 0 dX11_finds_28 FX11_9 ic_103 (by decide) ?_
  refine E_iload_n 1 1 dX11_finds_31 rfl rfl ?_
  refine E_iaload dX11_finds_32 ic_104 v1_0.1 v1_0.2 ?_
  refine E_ishl dX11_finds_33 ?_
  refine E_icmp_ge 73 dX11_finds_34 rfl (fun hc => ?_) (fun hc => ?_)
  · replace hP := hP.1 (hc)
    refine E_iload_n 3 3 dX11_finds_73 rfl rfl ?_
    exact E_retI dX11_finds_74 rfl hP
  · replace hP := hP.2 (by omega)
    refine E_aload_n 0 0 dX11_finds_37 rfl rfl ?_
    refine E_iload_n 1 1 dX11_finds_38 rfl rfl ?_
    refine E_iload 4 dX11_finds_39 rfl ?_
    refine E_iconst dX11_finds_41 (rg_of rfl) ?_
    refine E_invVI [vi l1, vi l4, vi (-1)] dX11_finds_42 fX11_makes lX11_149 ic_103 rfl (by decide) rfl rfl (Nat.le_of_ble_eq_true rfl) (CI_mono hP (fun r5 h4 hP => ?_))
    obtain ⟨⟨v6_0, v6_1⟩, hP⟩ := hP
    refine E_istore dX11_finds_45 (by decide) rfl ?_
    refine E_iload_n 4 3 dX11_finds_47 rfl rfl ?_
    refine E_aload_n 3 2 dX11_finds_48 rfl rfl ?_
    refine E_iload 0 dX11_finds_49 rfl ?_
    refine E_baload dX11_finds_51 (icSet v6_0) v6_1.1 v6_1.2 ?_
    have hJ : E 1 mX11_finds 60 [(5, vi r5), (0, vr 103), (1, vi l1), (2, vr r2), (3, vi l3), (4, vi l4)] [vi (if (h4 r2 r5) = 0 then (1 : Int) else 0), vi l3] h4 (qi Q) := by
      obtain ⟨v7_0, hP⟩ := hP
      refine E_iadd dX11_finds_60 (rgI v7_0) ?_
      obtain ⟨x8, hx8⟩ : ∃ x : Int, x = (l3 + (if (h4 r2 r5) = 0 then (1 : Int) else 0)) := ⟨_, rfl⟩
      refine E_top hx8.symm ?_
      replace hP := hP x8 hx8
      refine E_istore_n dX11_finds_61 rfl (by decide) rfl ?_
      obtain ⟨⟨v9_0, v9_1, v9_2⟩, hP⟩ := hP
      refine E_aload_n 4 2 dX11_finds_62 rfl rfl ?_
      refine E_iload 1 dX11_finds_63 rfl ?_
      refine E_iconst dX11_finds_65 (rg_of rfl) ?_
      refine E_bastore dX11_finds_66 (icSet v9_0) v9_1.1 v9_1.2 (Or.inr rfl) ?_
      refine E_iinc 5 dX11_finds_67 rfl (rgI v9_2) (by decide) rfl ?_
      refine E_goto 24 dX11_finds_70 rfl ?_
      exact E_sub [3, 4, 5, 1, 0] rfl hP
    refine E_if_eq 59 dX11_finds_52 rfl (fun hc => ?_) (fun hc => ?_)
    · have hp52 := (hc : (h4 r2 r5) = 0)
      refine E_iconst dX11_finds_59 (rg_of rfl) ?_
      exact E_top (if_pos (by omega)).symm hJ
    · have hp52 := (by omega : (h4 r2 r5) ≠ 0)
      refine E_iconst dX11_finds_55 (rg_of rfl) ?_
      refine E_goto 60 dX11_finds_56 rfl ?_
      exact E_top (if_neg (by omega)).symm hJ
theorem sX11_finds_2 {Q : Int → Hp → Prop} {h : Hp} {l1 r2 l3 : Int}
    (hP : ((l3 ≥ 256) →
     E 1 mX11_finds 24 [(0, vr 103), (1, vi l1), (2, vr r2), (3, vi 0), (4, vi 0)] [] h (qi Q)) ∧
    ((l3 < 256) →
     (setA r2 ∧ ix l3 256 ∧ rj (l3 + 1)) ∧
     E 1 mX11_finds 2 [(0, vr 103), (1, vi l1), (2, vr r2), (3, vi (l3 + 1))] [] (up h r2 l3 0) (qi Q))) :
    E 1 mX11_finds 2 [(0, vr 103), (1, vi l1), (2, vr r2), (3, vi l3)] [] h (qi Q) := by
  refine E_iload_n 3 3 dX11_finds_2 rfl rfl ?_
  refine E_sipush dX11_finds_3 (by decide) ?_
  refine E_icmp_ge 19 dX11_finds_6 rfl (fun hc => ?_) (fun hc => ?_)
  · replace hP := hP.1 (hc)
    refine E_iconst dX11_finds_19 (rg_of rfl) ?_
    refine E_istore_n dX11_finds_20 rfl (by decide) rfl ?_
    refine E_iconst dX11_finds_21 (rg_of rfl) ?_
    refine E_istore dX11_finds_22 (by decide) rfl ?_
    exact E_sub [2, 3, 4, 1, 0] rfl hP
  · replace hP := hP.2 (by omega)
    obtain ⟨⟨v3_0, v3_1, v3_2⟩, hP⟩ := hP
    refine E_aload_n 2 2 dX11_finds_9 rfl rfl ?_
    refine E_iload_n 3 3 dX11_finds_10 rfl rfl ?_
    refine E_iconst dX11_finds_11 (rg_of rfl) ?_
    refine E_bastore dX11_finds_12 (icSet v3_0) v3_1.1 v3_1.2 (Or.inl rfl) ?_
    refine E_iinc 3 dX11_finds_13 rfl (rgI v3_2) (by decide) rfl ?_
    refine E_goto 2 dX11_finds_16 rfl ?_
    exact E_sub [1, 2, 3, 0] rfl hP
theorem sX11_finds {Q : Int → Hp → Prop} {h : Hp} {l1 r2 : Int}
    (hP : E 1 mX11_finds 2 [(0, vr 103), (1, vi l1), (2, vr r2), (3, vi 0)] [] h (qi Q)) :
    CI 1 mX11_finds [vr 103, vi l1, vr r2] h Q := by
  refine CI_of_E fX11_finds.1 rfl (Nat.le_of_ble_eq_true rfl) ?_
  show E 1 mX11_finds 0 [(0, vr 103), (1, vi l1), (2, vr r2)] [] h (qi Q)
  refine E_iconst dX11_finds_0 (rg_of rfl) ?_
  refine E_istore_n dX11_finds_1 rfl (by decide) rfl ?_
  exact E_sub [1, 2, 3, 0] rfl hP
theorem dX11_outputCount_0 : decode prog_13_method_35_code 0 = .ok (.iload_n 1, 1) := by decide +kernel
theorem dX11_outputCount_1 : decode prog_13_method_35_code 1 = .ok (.invokestatic 88, 3) := by decide +kernel
theorem dX11_outputCount_4 : decode prog_13_method_35_code 4 = .ok (.ifCond .eq 15, 3) := by decide +kernel
theorem dX11_outputCount_7 : decode prog_13_method_35_code 7 = .ok (.aload_n 0, 1) := by decide +kernel
theorem dX11_outputCount_8 : decode prog_13_method_35_code 8 = .ok (.iload_n 1, 1) := by decide +kernel
theorem dX11_outputCount_9 : decode prog_13_method_35_code 9 = .ok (.aload_n 0, 1) := by decide +kernel
theorem dX11_outputCount_10 : decode prog_13_method_35_code 10 = .ok (.getfield 55, 3) := by decide +kernel
theorem dX11_outputCount_13 : decode prog_13_method_35_code 13 = .ok (.invokevirtual 156, 3) := by decide +kernel
theorem dX11_outputCount_16 : decode prog_13_method_35_code 16 = .ok (.goto 4, 3) := by decide +kernel
theorem dX11_outputCount_19 : decode prog_13_method_35_code 19 = .ok (.iconst (-1), 1) := by decide +kernel
theorem dX11_outputCount_20 : decode prog_13_method_35_code 20 = .ok (.ireturn, 1) := by decide +kernel
theorem sX11_outputCount {Q : Int → Hp → Prop} {h : Hp} {l1 : Int}
    (hP : ((l1 < 0 ∨ l1 > 3) →
     Q (-1) h) ∧
    ((l1 ≥ 0 ∧ l1 ≤ 3) →
     CI 1 mX11_finds [vr 103, vi l1, vr 119] h (fun r5 h4 =>
      Q r5 h4))) :
    CI 2 mX11_outputCount [vr 103, vi l1] h Q := by
  refine CI_of_E fX11_outputCount.1 rfl (Nat.le_of_ble_eq_true rfl) ?_
  show E 2 mX11_outputCount 0 [(0, vr 103), (1, vi l1)] [] h (qi Q)
  refine E_iload_n 1 1 dX11_outputCount_0 rfl rfl ?_
  refine E_invSI [vi l1] dX11_outputCount_1 fX11_isNet lX11_88 (by decide) rfl rfl (Nat.le_of_ble_eq_true rfl) (sX11_isNet (h := h) (l0 := l1) ?_)
  refine E_if_eq 19 dX11_outputCount_4 rfl (fun hc => ?_) (fun hc => ?_)
  · replace hP := hP.1 (by have := ite0 hc; omega)
    refine E_iconst dX11_outputCount_19 (rg_of rfl) ?_
    exact E_retI dX11_outputCount_20 rfl hP
  · replace hP := hP.2 (by have := ite1 hc; omega)
    refine E_aload_n 0 0 dX11_outputCount_7 rfl rfl ?_
    refine E_iload_n 1 1 dX11_outputCount_8 rfl rfl ?_
    refine E_aload_n 0 0 dX11_outputCount_9 rfl rfl ?_
    refine E_gR 119 21 dX11_outputCount_10 FX11_55 ic_103 (by decide) ?_
    refine E_invVI [vi l1, vr 119] dX11_outputCount_13 fX11_finds lX11_156 ic_103 rfl (by decide) rfl rfl (Nat.le_of_ble_eq_true rfl) (CI_mono hP (fun r5 h4 hP => ?_))
    refine E_goto 20 dX11_outputCount_16 rfl ?_
    exact E_retI dX11_outputCount_20 rfl hP
theorem dX11_outputOf_0 : decode prog_13_method_36_code 0 = .ok (.iload_n 1, 1) := by decide +kernel
theorem dX11_outputOf_1 : decode prog_13_method_36_code 1 = .ok (.invokestatic 88, 3) := by decide +kernel
theorem dX11_outputOf_4 : decode prog_13_method_36_code 4 = .ok (.ifCond .ne 7, 3) := by decide +kernel
theorem dX11_outputOf_7 : decode prog_13_method_36_code 7 = .ok (.iconst (-1), 1) := by decide +kernel
theorem dX11_outputOf_8 : decode prog_13_method_36_code 8 = .ok (.goto 33, 3) := by decide +kernel
theorem dX11_outputOf_11 : decode prog_13_method_36_code 11 = .ok (.iload_n 2, 1) := by decide +kernel
theorem dX11_outputOf_12 : decode prog_13_method_36_code 12 = .ok (.iconst 0, 1) := by decide +kernel
theorem dX11_outputOf_13 : decode prog_13_method_36_code 13 = .ok (.iconst 1, 1) := by decide +kernel
theorem dX11_outputOf_14 : decode prog_13_method_36_code 14 = .ok (.aload_n 0, 1) := by decide +kernel
theorem dX11_outputOf_15 : decode prog_13_method_36_code 15 = .ok (.getfield 9, 3) := by decide +kernel
theorem dX11_outputOf_18 : decode prog_13_method_36_code 18 = .ok (.iload_n 1, 1) := by decide +kernel
theorem dX11_outputOf_19 : decode prog_13_method_36_code 19 = .ok (.iaload, 1) := by decide +kernel
theorem dX11_outputOf_20 : decode prog_13_method_36_code 20 = .ok (.ishl, 1) := by decide +kernel
theorem dX11_outputOf_21 : decode prog_13_method_36_code 21 = .ok (.iconst 1, 1) := by decide +kernel
theorem dX11_outputOf_22 : decode prog_13_method_36_code 22 = .ok (.isub, 1) := by decide +kernel
theorem dX11_outputOf_23 : decode prog_13_method_36_code 23 = .ok (.invokestatic 80, 3) := by decide +kernel
theorem dX11_outputOf_26 : decode prog_13_method_36_code 26 = .ok (.ifCond .eq 13, 3) := by decide +kernel
theorem dX11_outputOf_29 : decode prog_13_method_36_code 29 = .ok (.aload_n 0, 1) := by decide +kernel
theorem dX11_outputOf_30 : decode prog_13_method_36_code 30 = .ok (.iload_n 1, 1) := by decide +kernel
theorem dX11_outputOf_31 : decode prog_13_method_36_code 31 = .ok (.iload_n 2, 1) := by decide +kernel
theorem dX11_outputOf_32 : decode prog_13_method_36_code 32 = .ok (.iconst (-1), 1) := by decide +kernel
theorem dX11_outputOf_33 : decode prog_13_method_36_code 33 = .ok (.invokevirtual 149, 3) := by decide +kernel
theorem dX11_outputOf_36 : decode prog_13_method_36_code 36 = .ok (.goto 5, 3) := by decide +kernel
theorem dX11_outputOf_39 : decode prog_13_method_36_code 39 = .ok (.bipush (-2), 2) := by decide +kernel
theorem dX11_outputOf_41 : decode prog_13_method_36_code 41 = .ok (.ireturn, 1) := by decide +kernel
theorem sX11_outputOf {Q : Int → Hp → Prop} {h : Hp} {l1 l2 : Int}
    (hP : ((l1 ≥ 0 ∧ l1 ≤ 3) →
     (ix l1 4 ∧ rj ((j_ishl 1 (h 104 l1)) - 1)) ∧
     ((l2 < 0 ∨ l2 > ((j_ishl 1 (h 104 l1)) - 1)) →
      Q (-2) h) ∧
     ((l2 ≥ 0 ∧ l2 ≤ ((j_ishl 1 (h 104 l1)) - 1)) →
      CI 0 mX11_makes [vr 103, vi l1, vi l2, vi (-1)] h (fun r6 h5 =>
       Q r6 h5))) ∧
    ((l1 < 0 ∨ l1 > 3) →
     Q (-1) h)) :
    CI 2 mX11_outputOf [vr 103, vi l1, vi l2] h Q := by
  refine CI_of_E fX11_outputOf.1 rfl (Nat.le_of_ble_eq_true rfl) ?_
  show E 2 mX11_outputOf 0 [(0, vr 103), (1, vi l1), (2, vi l2)] [] h (qi Q)
  refine E_iload_n 1 1 dX11_outputOf_0 rfl rfl ?_
  refine E_invSI [vi l1] dX11_outputOf_1 fX11_isNet lX11_88 (by decide) rfl rfl (Nat.le_of_ble_eq_true rfl) (sX11_isNet (h := h) (l0 := l1) ?_)
  refine E_if_ne 11 dX11_outputOf_4 rfl (fun hc => ?_) (fun hc => ?_)
  · replace hP := hP.1 (by have := ite1' hc; omega)
    obtain ⟨⟨v2_0, v2_1⟩, hP⟩ := hP
    refine E_iload_n 2 2 dX11_outputOf_11 rfl rfl ?_
    refine E_iconst dX11_outputOf_12 (rg_of rfl) ?_
    refine E_iconst dX11_outputOf_13 (rg_of rfl) ?_
    refine E_aload_n 0 0 dX11_outputOf_14 rfl rfl ?_
    refine E_gR 104 0 dX11_outputOf_15 FX11_9 ic_103 (by decide) ?_
    refine E_iload_n 1 1 dX11_outputOf_18 rfl rfl ?_
    refine E_iaload dX11_outputOf_19 ic_104 v2_0.1 v2_0.2 ?_
    refine E_ishl dX11_outputOf_20 ?_
    refine E_iconst dX11_outputOf_21 (rg_of rfl) ?_
    refine E_isub dX11_outputOf_22 (rgI v2_1) ?_
    refine E_invSI [vi l2, vi 0, vi ((j_ishl 1 (h 104 l1)) - 1)] dX11_outputOf_23 fX11_isIn lX11_80 (by decide) rfl rfl (Nat.le_of_ble_eq_true rfl) (sX11_isIn (h := h) (l0 := l2) (l1 := 0) (l2 := ((j_ishl 1 (h 104 l1)) - 1)) ?_)
    refine E_if_eq 39 dX11_outputOf_26 rfl (fun hc => ?_) (fun hc => ?_)
    · replace hP := hP.1 (by have := ite0 hc; omega)
      refine E_bipush dX11_outputOf_39 (by decide) ?_
      exact E_retI dX11_outputOf_41 rfl hP
    · replace hP := hP.2 (by have := ite1 hc; omega)
      refine E_aload_n 0 0 dX11_outputOf_29 rfl rfl ?_
      refine E_iload_n 1 1 dX11_outputOf_30 rfl rfl ?_
      refine E_iload_n 2 2 dX11_outputOf_31 rfl rfl ?_
      refine E_iconst dX11_outputOf_32 (rg_of rfl) ?_
      refine E_invVI [vi l1, vi l2, vi (-1)] dX11_outputOf_33 fX11_makes lX11_149 ic_103 rfl (by decide) rfl rfl (Nat.le_of_ble_eq_true rfl) (CI_mono hP (fun r6 h5 hP => ?_))
      refine E_goto 41 dX11_outputOf_36 rfl ?_
      exact E_retI dX11_outputOf_41 rfl hP
  · replace hP := hP.2 (by have := ite0 hc; omega)
    refine E_iconst dX11_outputOf_7 (rg_of rfl) ?_
    refine E_goto 41 dX11_outputOf_8 rfl ?_
    exact E_retI dX11_outputOf_41 rfl hP
theorem dX11_isSorter__0 : decode prog_13_method_37_code 0 = .ok (.iload_n 1, 1) := by decide +kernel
theorem dX11_isSorter__1 : decode prog_13_method_37_code 1 = .ok (.invokestatic 88, 3) := by decide +kernel
theorem dX11_isSorter__4 : decode prog_13_method_37_code 4 = .ok (.ifCond .ne 7, 3) := by decide +kernel
theorem dX11_isSorter__7 : decode prog_13_method_37_code 7 = .ok (.iconst (-1), 1) := by decide +kernel
theorem dX11_isSorter__8 : decode prog_13_method_37_code 8 = .ok (.goto 17, 3) := by decide +kernel
theorem dX11_isSorter__11 : decode prog_13_method_37_code 11 = .ok (.aload_n 0, 1) := by decide +kernel
theorem dX11_isSorter__12 : decode prog_13_method_37_code 12 = .ok (.iload_n 1, 1) := by decide +kernel
theorem dX11_isSorter__13 : decode prog_13_method_37_code 13 = .ok (.iconst (-1), 1) := by decide +kernel
theorem dX11_isSorter__14 : decode prog_13_method_37_code 14 = .ok (.invokevirtual 160, 3) := by decide +kernel
theorem dX11_isSorter__17 : decode prog_13_method_37_code 17 = .ok (.ifCond .eq 7, 3) := by decide +kernel
theorem dX11_isSorter__20 : decode prog_13_method_37_code 20 = .ok (.iconst 1, 1) := by decide +kernel
theorem dX11_isSorter__21 : decode prog_13_method_37_code 21 = .ok (.goto 4, 3) := by decide +kernel
theorem dX11_isSorter__24 : decode prog_13_method_37_code 24 = .ok (.iconst 0, 1) := by decide +kernel
theorem dX11_isSorter__25 : decode prog_13_method_37_code 25 = .ok (.ireturn, 1) := by decide +kernel
theorem sX11_isSorter_ {Q : Int → Hp → Prop} {h : Hp} {l1 : Int}
    (hP : ((l1 ≥ 0 ∧ l1 ≤ 3) →
     CI 1 mX11_isSorter [vr 103, vi l1, vi (-1)] h (fun r4 h3 =>
      Q (if r4 ≠ 0 then (1 : Int) else 0) h3)) ∧
    ((l1 < 0 ∨ l1 > 3) →
     Q (-1) h)) :
    CI 2 mX11_isSorter_ [vr 103, vi l1] h Q := by
  refine CI_of_E fX11_isSorter_.1 rfl (Nat.le_of_ble_eq_true rfl) ?_
  show E 2 mX11_isSorter_ 0 [(0, vr 103), (1, vi l1)] [] h (qi Q)
  refine E_iload_n 1 1 dX11_isSorter__0 rfl rfl ?_
  refine E_invSI [vi l1] dX11_isSorter__1 fX11_isNet lX11_88 (by decide) rfl rfl (Nat.le_of_ble_eq_true rfl) (sX11_isNet (h := h) (l0 := l1) ?_)
  refine E_if_ne 11 dX11_isSorter__4 rfl (fun hc => ?_) (fun hc => ?_)
  · replace hP := hP.1 (by have := ite1' hc; omega)
    refine E_aload_n 0 0 dX11_isSorter__11 rfl rfl ?_
    refine E_iload_n 1 1 dX11_isSorter__12 rfl rfl ?_
    refine E_iconst dX11_isSorter__13 (rg_of rfl) ?_
    refine E_invVI [vi l1, vi (-1)] dX11_isSorter__14 fX11_isSorter lX11_160 ic_103 rfl (by decide) rfl rfl (Nat.le_of_ble_eq_true rfl) (CI_mono hP (fun r4 h3 hP => ?_))
    have hJ : E 2 mX11_isSorter_ 25 [(0, vr 103), (1, vi l1)] [vi (if r4 ≠ 0 then (1 : Int) else 0)] h3 (qi Q) := by
      exact E_retI dX11_isSorter__25 rfl hP
    refine E_if_eq 24 dX11_isSorter__17 rfl (fun hc => ?_) (fun hc => ?_)
    · have hp17 := (hc : r4 = 0)
      refine E_iconst dX11_isSorter__24 (rg_of rfl) ?_
      exact E_top (if_neg (by omega)).symm hJ
    · have hp17 := (by omega : r4 ≠ 0)
      refine E_iconst dX11_isSorter__20 (rg_of rfl) ?_
      refine E_goto 25 dX11_isSorter__21 rfl ?_
      exact E_top (if_pos (by omega)).symm hJ
  · replace hP := hP.2 (by have := ite0 hc; omega)
    refine E_iconst dX11_isSorter__7 (rg_of rfl) ?_
    refine E_goto 25 dX11_isSorter__8 rfl ?_
    exact E_retI dX11_isSorter__25 rfl hP
theorem dX11_firstFailure_0 : decode prog_13_method_38_code 0 = .ok (.iload_n 1, 1) := by decide +kernel
theorem dX11_firstFailure_1 : decode prog_13_method_38_code 1 = .ok (.invokestatic 88, 3) := by decide +kernel
theorem dX11_firstFailure_4 : decode prog_13_method_38_code 4 = .ok (.ifCond .ne 5, 3) := by decide +kernel
theorem dX11_firstFailure_7 : decode prog_13_method_38_code 7 = .ok (.iconst (-1), 1) := by decide +kernel
theorem dX11_firstFailure_8 : decode prog_13_method_38_code 8 = .ok (.ireturn, 1) := by decide +kernel
theorem dX11_firstFailure_9 : decode prog_13_method_38_code 9 = .ok (.iconst 0, 1) := by decide +kernel
theorem dX11_firstFailure_10 : decode prog_13_method_38_code 10 = .ok (.istore_n 2, 1) := by decide +kernel
theorem dX11_firstFailure_11 : decode prog_13_method_38_code 11 = .ok (.iload_n 2, 1) := by decide +kernel
theorem dX11_firstFailure_12 : decode prog_13_method_38_code 12 = .ok (.iconst 1, 1) := by decide +kernel
theorem dX11_firstFailure_13 : decode prog_13_method_38_code 13 = .ok (.aload_n 0, 1) := by decide +kernel
theorem dX11_firstFailure_14 : decode prog_13_method_38_code 14 = .ok (.getfield 9, 3) := by decide +kernel
theorem dX11_firstFailure_17 : decode prog_13_method_38_code 17 = .ok (.iload_n 1, 1) := by decide +kernel
theorem dX11_firstFailure_18 : decode prog_13_method_38_code 18 = .ok (.iaload, 1) := by decide +kernel
theorem dX11_firstFailure_19 : decode prog_13_method_38_code 19 = .ok (.ishl, 1) := by decide +kernel
theorem dX11_firstFailure_20 : decode prog_13_method_38_code 20 = .ok (.if_icmp .ge 30, 3) := by decide +kernel
theorem dX11_firstFailure_23 : decode prog_13_method_38_code 23 = .ok (.aload_n 0, 1) := by decide +kernel
theorem dX11_firstFailure_24 : decode prog_13_method_38_code 24 = .ok (.getfield 9, 3) := by decide +kernel
theorem dX11_firstFailure_27 : decode prog_13_method_38_code 27 = .ok (.iload_n 1, 1) := by decide +kernel
theorem dX11_firstFailure_28 : decode prog_13_method_38_code 28 = .ok (.iaload, 1) := by decide +kernel
theorem dX11_firstFailure_29 : decode prog_13_method_38_code 29 = .ok (.aload_n 0, 1) := by decide +kernel
theorem dX11_firstFailure_30 : decode prog_13_method_38_code 30 = .ok (.iload_n 1, 1) := by decide +kernel
theorem dX11_firstFailure_31 : decode prog_13_method_38_code 31 = .ok (.iload_n 2, 1) := by decide +kernel
theorem dX11_firstFailure_32 : decode prog_13_method_38_code 32 = .ok (.iconst (-1), 1) := by decide +kernel
theorem dX11_firstFailure_33 : decode prog_13_method_38_code 33 = .ok (.invokevirtual 149, 3) := by decide +kernel
theorem dX11_firstFailure_36 : decode prog_13_method_38_code 36 = .ok (.invokestatic 153, 3) := by decide +kernel
theorem dX11_firstFailure_39 : decode prog_13_method_38_code 39 = .ok (.ifCond .ne 5, 3) := by decide +kernel
theorem dX11_firstFailure_42 : decode prog_13_method_38_code 42 = .ok (.iload_n 2, 1) := by decide +kernel
theorem dX11_firstFailure_43 : decode prog_13_method_38_code 43 = .ok (.ireturn, 1) := by decide +kernel
theorem dX11_firstFailure_44 : decode prog_13_method_38_code 44 = .ok (.iinc 2 1, 3) := by decide +kernel
theorem dX11_firstFailure_47 : decode prog_13_method_38_code 47 = .ok (.goto (-36), 3) := by decide +kernel
theorem dX11_firstFailure_50 : decode prog_13_method_38_code 50 = .ok (.bipush (-4), 2) := by decide +kernel
theorem dX11_firstFailure_52 : decode prog_13_method_38_code 52 = .ok (.ireturn, 1) := by decide +kernel
theorem sX11_firstFailure_11 {Q : Int → Hp → Prop} {h : Hp} {l1 l2 : Int}
    (hP : (ix l1 4) ∧
    ((l2 ≥ (j_ishl 1 (h 104 l1))) →
     Q (-4) h) ∧
    ((l2 < (j_ishl 1 (h 104 l1))) →
     (ix l1 4) ∧
     CI 0 mX11_makes [vr 103, vi l1, vi l2, vi (-1)] h (fun r5 h4 =>
      CI 0 mX11_isSorted [vi (h 104 l1), vi r5] h4 (fun r8 h7 =>
       ((r8 ≠ 0) →
        (rj (l2 + 1)) ∧
        E 2 mX11_firstFailure 11 [(0, vr 103), (1, vi l1), (2, vi (l2 + 1))] [] h7 (qi Q)) ∧
       ((r8 = 0) →
        Q l2 h7))))) :
    E 2 mX11_firstFailure 11 [(0, vr 103), (1, vi l1), (2, vi l2)] [] h (qi Q) := by
  obtain ⟨v1_0, hP⟩ := hP
  refine E_iload_n 2 2 dX11_firstFailure_11 rfl rfl ?_
  refine E_iconst dX11_firstFailure_12 (rg_of rfl) ?_
  refine E_aload_n 0 0 dX11_firstFailure_13 rfl rfl ?_
  refine E_gR 104 0 dX11_firstFailure_14 FX11_9 ic_103 (by decide) ?_
  refine E_iload_n 1 1 dX11_firstFailure_17 rfl rfl ?_
  refine E_iaload dX11_firstFailure_18 ic_104 v1_0.1 v1_0.2 ?_
  refine E_ishl dX11_firstFailure_19 ?_
  refine E_icmp_ge 50 dX11_firstFailure_20 rfl (fun hc => ?_) (fun hc => ?_)
  · replace hP := hP.1 (hc)
    refine E_bipush dX11_firstFailure_50 (by decide) ?_
    exact E_retI dX11_firstFailure_52 rfl hP
  · replace hP := hP.2 (by omega)
    obtain ⟨v3_0, hP⟩ := hP
    refine E_aload_n 0 0 dX11_firstFailure_23 rfl rfl ?_
    refine E_gR 104 0 dX11_firstFailure_24 FX11_9 ic_103 (by decide) ?_
    refine E_iload_n 1 1 dX11_firstFailure_27 rfl rfl ?_
    refine E_iaload dX11_firstFailure_28 ic_104 v3_0.1 v3_0.2 ?_
    refine E_aload_n 0 0 dX11_firstFailure_29 rfl rfl ?_
    refine E_iload_n 1 1 dX11_firstFailure_30 rfl rfl ?_
    refine E_iload_n 2 2 dX11_firstFailure_31 rfl rfl ?_
    refine E_iconst dX11_firstFailure_32 (rg_of rfl) ?_
    refine E_invVI [vi l1, vi l2, vi (-1)] dX11_firstFailure_33 fX11_makes lX11_149 ic_103 rfl (by decide) rfl rfl (Nat.le_of_ble_eq_true rfl) (CI_mono hP (fun r5 h4 hP => ?_))
    refine E_invSI [vi (h 104 l1), vi r5] dX11_firstFailure_36 fX11_isSorted lX11_153 (by decide) rfl rfl (Nat.le_of_ble_eq_true rfl) (CI_mono hP (fun r8 h7 hP => ?_))
    refine E_if_ne 44 dX11_firstFailure_39 rfl (fun hc => ?_) (fun hc => ?_)
    · replace hP := hP.1 (hc)
      obtain ⟨v10_0, hP⟩ := hP
      refine E_iinc 2 dX11_firstFailure_44 rfl (rgI v10_0) (by decide) rfl ?_
      refine E_goto 11 dX11_firstFailure_47 rfl ?_
      exact E_sub [1, 2, 0] rfl hP
    · replace hP := hP.2 (by omega)
      refine E_iload_n 2 2 dX11_firstFailure_42 rfl rfl ?_
      exact E_retI dX11_firstFailure_43 rfl hP
theorem sX11_firstFailure {Q : Int → Hp → Prop} {h : Hp} {l1 : Int}
    (hP : ((l1 ≥ 0 ∧ l1 ≤ 3) →
     E 2 mX11_firstFailure 11 [(0, vr 103), (1, vi l1), (2, vi 0)] [] h (qi Q)) ∧
    ((l1 < 0 ∨ l1 > 3) →
     Q (-1) h)) :
    CI 2 mX11_firstFailure [vr 103, vi l1] h Q := by
  refine CI_of_E fX11_firstFailure.1 rfl (Nat.le_of_ble_eq_true rfl) ?_
  show E 2 mX11_firstFailure 0 [(0, vr 103), (1, vi l1)] [] h (qi Q)
  refine E_iload_n 1 1 dX11_firstFailure_0 rfl rfl ?_
  refine E_invSI [vi l1] dX11_firstFailure_1 fX11_isNet lX11_88 (by decide) rfl rfl (Nat.le_of_ble_eq_true rfl) (sX11_isNet (h := h) (l0 := l1) ?_)
  refine E_if_ne 9 dX11_firstFailure_4 rfl (fun hc => ?_) (fun hc => ?_)
  · replace hP := hP.1 (by have := ite1' hc; omega)
    refine E_iconst dX11_firstFailure_9 (rg_of rfl) ?_
    refine E_istore_n dX11_firstFailure_10 rfl (by decide) rfl ?_
    exact E_sub [1, 2, 0] rfl hP
  · replace hP := hP.2 (by have := ite0 hc; omega)
    refine E_iconst dX11_firstFailure_7 (rg_of rfl) ?_
    exact E_retI dX11_firstFailure_8 rfl hP
theorem dX11_ones_0 : decode prog_13_method_39_code 0 = .ok (.iconst 0, 1) := by decide +kernel
theorem dX11_ones_1 : decode prog_13_method_39_code 1 = .ok (.istore_n 1, 1) := by decide +kernel
theorem dX11_ones_2 : decode prog_13_method_39_code 2 = .ok (.iconst 0, 1) := by decide +kernel
theorem dX11_ones_3 : decode prog_13_method_39_code 3 = .ok (.istore_n 2, 1) := by decide +kernel
theorem dX11_ones_4 : decode prog_13_method_39_code 4 = .ok (.iload_n 2, 1) := by decide +kernel
theorem dX11_ones_5 : decode prog_13_method_39_code 5 = .ok (.bipush 8, 2) := by decide +kernel
theorem dX11_ones_7 : decode prog_13_method_39_code 7 = .ok (.if_icmp .ge 17, 3) := by decide +kernel
theorem dX11_ones_10 : decode prog_13_method_39_code 10 = .ok (.iload_n 1, 1) := by decide +kernel
theorem dX11_ones_11 : decode prog_13_method_39_code 11 = .ok (.iload_n 0, 1) := by decide +kernel
theorem dX11_ones_12 : decode prog_13_method_39_code 12 = .ok (.iload_n 2, 1) := by decide +kernel
theorem dX11_ones_13 : decode prog_13_method_39_code 13 = .ok (.ishr, 1) := by decide +kernel
theorem dX11_ones_14 : decode prog_13_method_39_code 14 = .ok (.iconst 1, 1) := by decide +kernel
theorem dX11_ones_15 : decode prog_13_method_39_code 15 = .ok (.iand, 1) := by decide +kernel
theorem dX11_ones_16 : decode prog_13_method_39_code 16 = .ok (.iadd, 1) := by decide +kernel
theorem dX11_ones_17 : decode prog_13_method_39_code 17 = .ok (.istore_n 1, 1) := by decide +kernel
theorem dX11_ones_18 : decode prog_13_method_39_code 18 = .ok (.iinc 2 1, 3) := by decide +kernel
theorem dX11_ones_21 : decode prog_13_method_39_code 21 = .ok (.goto (-17), 3) := by decide +kernel
theorem dX11_ones_24 : decode prog_13_method_39_code 24 = .ok (.iload_n 1, 1) := by decide +kernel
theorem dX11_ones_25 : decode prog_13_method_39_code 25 = .ok (.ireturn, 1) := by decide +kernel
theorem sX11_ones_4 {Q : Int → Hp → Prop} {h : Hp} {l0 l1 l2 : Int}
    (hP : ((l2 ≥ 8) →
     Q l1 h) ∧
    ((l2 < 8) →
     (rj (l1 + (j_iand (j_ishr l0 l2) 1))) ∧
     (∀ x4 : Int, x4 = (l1 + (j_iand (j_ishr l0 l2) 1)) →
     (rj (l2 + 1)) ∧
     E 0 mX11_ones 4 [(0, vi l0), (1, vi x4), (2, vi (l2 + 1))] [] h (qi Q)))) :
    E 0 mX11_ones 4 [(0, vi l0), (1, vi l1), (2, vi l2)] [] h (qi Q) := by
  refine E_iload_n 2 2 dX11_ones_4 rfl rfl ?_
  refine E_bipush dX11_ones_5 (by decide) ?_
  refine E_icmp_ge 24 dX11_ones_7 rfl (fun hc => ?_) (fun hc => ?_)
  · replace hP := hP.1 (hc)
    refine E_iload_n 1 1 dX11_ones_24 rfl rfl ?_
    exact E_retI dX11_ones_25 rfl hP
  · replace hP := hP.2 (by omega)
    obtain ⟨v3_0, hP⟩ := hP
    refine E_iload_n 1 1 dX11_ones_10 rfl rfl ?_
    refine E_iload_n 0 0 dX11_ones_11 rfl rfl ?_
    refine E_iload_n 2 2 dX11_ones_12 rfl rfl ?_
    refine E_ishr dX11_ones_13 ?_
    refine E_iconst dX11_ones_14 (rg_of rfl) ?_
    refine E_iand dX11_ones_15 ?_
    refine E_iadd dX11_ones_16 (rgI v3_0) ?_
    obtain ⟨x4, hx4⟩ : ∃ x : Int, x = (l1 + (j_iand (j_ishr l0 l2) 1)) := ⟨_, rfl⟩
    refine E_top hx4.symm ?_
    replace hP := hP x4 hx4
    refine E_istore_n dX11_ones_17 rfl (by decide) rfl ?_
    obtain ⟨v5_0, hP⟩ := hP
    refine E_iinc 2 dX11_ones_18 rfl (rgI v5_0) (by decide) rfl ?_
    refine E_goto 4 dX11_ones_21 rfl ?_
    exact E_sub [2, 1, 0] rfl hP
theorem sX11_ones {Q : Int → Hp → Prop} {h : Hp} {l0 : Int}
    (hP : E 0 mX11_ones 4 [(0, vi l0), (1, vi 0), (2, vi 0)] [] h (qi Q)) :
    CI 0 mX11_ones [vi l0] h Q := by
  refine CI_of_E fX11_ones.1 rfl (Nat.le_of_ble_eq_true rfl) ?_
  show E 0 mX11_ones 0 [(0, vi l0)] [] h (qi Q)
  refine E_iconst dX11_ones_0 (rg_of rfl) ?_
  refine E_istore_n dX11_ones_1 rfl (by decide) rfl ?_
  refine E_iconst dX11_ones_2 (rg_of rfl) ?_
  refine E_istore_n dX11_ones_3 rfl (by decide) rfl ?_
  exact E_sub [2, 1, 0] rfl hP
theorem dX11_isSelector_0 : decode prog_13_method_40_code 0 = .ok (.iload_n 1, 1) := by decide +kernel
theorem dX11_isSelector_1 : decode prog_13_method_40_code 1 = .ok (.invokestatic 88, 3) := by decide +kernel
theorem dX11_isSelector_4 : decode prog_13_method_40_code 4 = .ok (.ifCond .eq 12, 3) := by decide +kernel
theorem dX11_isSelector_7 : decode prog_13_method_40_code 7 = .ok (.aload_n 0, 1) := by decide +kernel
theorem dX11_isSelector_8 : decode prog_13_method_40_code 8 = .ok (.iload_n 1, 1) := by decide +kernel
theorem dX11_isSelector_9 : decode prog_13_method_40_code 9 = .ok (.iload_n 2, 1) := by decide +kernel
theorem dX11_isSelector_10 : decode prog_13_method_40_code 10 = .ok (.invokevirtual 103, 3) := by decide +kernel
theorem dX11_isSelector_13 : decode prog_13_method_40_code 13 = .ok (.ifCond .ne 5, 3) := by decide +kernel
theorem dX11_isSelector_16 : decode prog_13_method_40_code 16 = .ok (.iconst (-1), 1) := by decide +kernel
theorem dX11_isSelector_17 : decode prog_13_method_40_code 17 = .ok (.ireturn, 1) := by decide +kernel
theorem dX11_isSelector_18 : decode prog_13_method_40_code 18 = .ok (.iconst 0, 1) := by decide +kernel
theorem dX11_isSelector_19 : decode prog_13_method_40_code 19 = .ok (.istore_n 3, 1) := by decide +kernel
theorem dX11_isSelector_20 : decode prog_13_method_40_code 20 = .ok (.iload_n 3, 1) := by decide +kernel
theorem dX11_isSelector_21 : decode prog_13_method_40_code 21 = .ok (.iconst 1, 1) := by decide +kernel
theorem dX11_isSelector_22 : decode prog_13_method_40_code 22 = .ok (.aload_n 0, 1) := by decide +kernel
theorem dX11_isSelector_23 : decode prog_13_method_40_code 23 = .ok (.getfield 9, 3) := by decide +kernel
theorem dX11_isSelector_26 : decode prog_13_method_40_code 26 = .ok (.iload_n 1, 1) := by decide +kernel
theorem dX11_isSelector_27 : decode prog_13_method_40_code 27 = .ok (.iaload, 1) := by decide +kernel
theorem dX11_isSelector_28 : decode prog_13_method_40_code 28 = .ok (.ishl, 1) := by decide +kernel
theorem dX11_isSelector_29 : decode prog_13_method_40_code 29 = .ok (.if_icmp .ge 49, 3) := by decide +kernel
theorem dX11_isSelector_32 : decode prog_13_method_40_code 32 = .ok (.iload_n 2, 1) := by decide +kernel
theorem dX11_isSelector_33 : decode prog_13_method_40_code 33 = .ok (.aload_n 0, 1) := by decide +kernel
theorem dX11_isSelector_34 : decode prog_13_method_40_code 34 = .ok (.getfield 9, 3) := by decide +kernel
theorem dX11_isSelector_37 : decode prog_13_method_40_code 37 = .ok (.iload_n 1, 1) := by decide +kernel
theorem dX11_isSelector_38 : decode prog_13_method_40_code 38 = .ok (.iaload, 1) := by decide +kernel
theorem dX11_isSelector_39 : decode prog_13_method_40_code 39 = .ok (.iload_n 3, 1) := by decide +kernel
theorem dX11_isSelector_40 : decode prog_13_method_40_code 40 = .ok (.invokestatic 163, 3) := by decide +kernel
theorem dX11_isSelector_43 : decode prog_13_method_40_code 43 = .ok (.isub, 1) := by decide +kernel
theorem dX11_isSelector_44 : decode prog_13_method_40_code 44 = .ok (.if_icmp .lt 7, 3) := by decide +kernel
theorem dX11_isSelector_47 : decode prog_13_method_40_code 47 = .ok (.iconst 1, 1) := by decide +kernel
theorem dX11_isSelector_48 : decode prog_13_method_40_code 48 = .ok (.goto 4, 3) := by decide +kernel
theorem dX11_isSelector_51 : decode prog_13_method_40_code 51 = .ok (.iconst 0, 1) := by decide +kernel
theorem dX11_isSelector_52 : decode prog_13_method_40_code 52 = .ok (.istore 4, 2) := by decide +kernel
theorem dX11_isSelector_54 : decode prog_13_method_40_code 54 = .ok (.aload_n 0, 1) := by decide +kernel
theorem dX11_isSelector_55 : decode prog_13_method_40_code 55 = .ok (.iload_n 1, 1) := by decide +kernel
theorem dX11_isSelector_56 : decode prog_13_method_40_code 56 = .ok (.iload_n 3, 1) := by decide +kernel
theorem dX11_isSelector_57 : decode prog_13_method_40_code 57 = .ok (.iconst (-1), 1) := by decide +kernel
theorem dX11_isSelector_58 : decode prog_13_method_40_code 58 = .ok (.invokevirtual 149, 3) := by decide +kernel
theorem dX11_isSelector_61 : decode prog_13_method_40_code 61 = .ok (.iload_n 2, 1) := by decide +kernel
theorem dX11_isSelector_62 : decode prog_13_method_40_code 62 = .ok (.ishr, 1) := by decide +kernel
theorem dX11_isSelector_63 : decode prog_13_method_40_code 63 = .ok (.iconst 1, 1) := by decide +kernel
theorem dX11_isSelector_64 : decode prog_13_method_40_code 64 = .ok (.iand, 1) := by decide +kernel
theorem dX11_isSelector_65 : decode prog_13_method_40_code 65 = .ok (.iload 4, 2) := by decide +kernel
theorem dX11_isSelector_67 : decode prog_13_method_40_code 67 = .ok (.if_icmp .eq 5, 3) := by decide +kernel
theorem dX11_isSelector_70 : decode prog_13_method_40_code 70 = .ok (.iconst 0, 1) := by decide +kernel
theorem dX11_isSelector_71 : decode prog_13_method_40_code 71 = .ok (.ireturn, 1) := by decide +kernel
theorem dX11_isSelector_72 : decode prog_13_method_40_code 72 = .ok (.iinc 3 1, 3) := by decide +kernel
theorem dX11_isSelector_75 : decode prog_13_method_40_code 75 = .ok (.goto (-55), 3) := by decide +kernel
theorem dX11_isSelector_78 : decode prog_13_method_40_code 78 = .ok (.iconst 1, 1) := by decide +kernel
theorem dX11_isSelector_79 : decode prog_13_method_40_code 79 = .ok (.ireturn, 1) := by decide +kernel
theorem sX11_isSelector_20 {Q : Int → Hp → Prop} {h : Hp} {l1 l2 l3 : Int}
    (hP : (ix l1 4) ∧
    ((l3 ≥ (j_ishl 1 (h 104 l1))) →
     Q 1 h) ∧
    ((l3 < (j_ishl 1 (h 104 l1))) →
     (ix l1 4) ∧
     CI 0 mX11_ones [vi l3] h (fun r5 h4 =>
      (rj ((h 104 l1) - r5)) ∧
      CI 0 mX11_makes [vr 103, vi l1, vi l3, vi (-1)] h4 (fun r9 h8 =>
       (((j_iand (j_ishr r9 l2) 1) = (if l2 ≥ ((h 104 l1) - r5) then (1 : Int) else 0)) →
        (rj (l3 + 1)) ∧
        E 2 mX11_isSelector 20 [(0, vr 103), (1, vi l1), (2, vi l2), (3, vi (l3 + 1))] [] h8 (qi Q)) ∧
       (((j_iand (j_ishr r9 l2) 1) ≠ (if l2 ≥ ((h 104 l1) - r5) then (1 : Int) else 0)) →
        Q 0 h8))))) :
    E 2 mX11_isSelector 20 [(0, vr 103), (1, vi l1), (2, vi l2), (3, vi l3)] [] h (qi Q) := by
  obtain ⟨v1_0, hP⟩ := hP
  refine E_iload_n 3 3 dX11_isSelector_20 rfl rfl ?_
  refine E_iconst dX11_isSelector_21 (rg_of rfl) ?_
  refine E_aload_n 0 0 dX11_isSelector_22 rfl rfl ?_
  refine E_gR 104 0 dX11_isSelector_23 FX11_9 ic_103 (by decide) ?_
  refine E_iload_n 1 1 dX11_isSelector_26 rfl rfl ?_
  refine E_iaload dX11_isSelector_27 ic_104 v1_0.1 v1_0.2 ?_
  refine E_ishl dX11_isSelector_28 ?_
  refine E_icmp_ge 78 dX11_isSelector_29 rfl (fun hc => ?_) (fun hc => ?_)
  · replace hP := hP.1 (hc)
    refine E_iconst dX11_isSelector_78 (rg_of rfl) ?_
    exact E_retI dX11_isSelector_79 rfl hP
  · replace hP := hP.2 (by omega)
    obtain ⟨v3_0, hP⟩ := hP
    refine E_iload_n 2 2 dX11_isSelector_32 rfl rfl ?_
    refine E_aload_n 0 0 dX11_isSelector_33 rfl rfl ?_
    refine E_gR 104 0 dX11_isSelector_34 FX11_9 ic_103 (by decide) ?_
    refine E_iload_n 1 1 dX11_isSelector_37 rfl rfl ?_
    refine E_iaload dX11_isSelector_38 ic_104 v3_0.1 v3_0.2 ?_
    refine E_iload_n 3 3 dX11_isSelector_39 rfl rfl ?_
    refine E_invSI [vi l3] dX11_isSelector_40 fX11_ones lX11_163 (by decide) rfl rfl (Nat.le_of_ble_eq_true rfl) (CI_mono hP (fun r5 h4 hP => ?_))
    obtain ⟨v6_0, hP⟩ := hP
    refine E_isub dX11_isSelector_43 (rgI v6_0) ?_
    have hJ : E 2 mX11_isSelector 52 [(0, vr 103), (1, vi l1), (2, vi l2), (3, vi l3)] [vi (if l2 ≥ ((h 104 l1) - r5) then (1 : Int) else 0)] h4 (qi Q) := by
      refine E_istore dX11_isSelector_52 (by decide) rfl ?_
      refine E_aload_n 1 0 dX11_isSelector_54 rfl rfl ?_
      refine E_iload_n 2 1 dX11_isSelector_55 rfl rfl ?_
      refine E_iload_n 4 3 dX11_isSelector_56 rfl rfl ?_
      refine E_iconst dX11_isSelector_57 (rg_of rfl) ?_
      refine E_invVI [vi l1, vi l3, vi (-1)] dX11_isSelector_58 fX11_makes lX11_149 ic_103 rfl (by decide) rfl rfl (Nat.le_of_ble_eq_true rfl) (CI_mono hP (fun r9 h8 hP => ?_))
      refine E_iload_n 3 2 dX11_isSelector_61 rfl rfl ?_
      refine E_ishr dX11_isSelector_62 ?_
      refine E_iconst dX11_isSelector_63 (rg_of rfl) ?_
      refine E_iand dX11_isSelector_64 ?_
      refine E_iload 0 dX11_isSelector_65 rfl ?_
      refine E_icmp_eq 72 dX11_isSelector_67 rfl (fun hc => ?_) (fun hc => ?_)
      · replace hP := hP.1 (hc)
        obtain ⟨v11_0, hP⟩ := hP
        refine E_iinc 4 dX11_isSelector_72 rfl (rgI v11_0) (by decide) rfl ?_
        refine E_goto 20 dX11_isSelector_75 rfl ?_
        exact E_sub [2, 3, 4, 0] rfl hP
      · replace hP := hP.2 (by omega)
        refine E_iconst dX11_isSelector_70 (rg_of rfl) ?_
        exact E_retI dX11_isSelector_71 rfl hP
    refine E_icmp_lt 51 dX11_isSelector_44 rfl (fun hc => ?_) (fun hc => ?_)
    · have hp44 := (hc : l2 < ((h 104 l1) - r5))
      refine E_iconst dX11_isSelector_51 (rg_of rfl) ?_
      exact E_top (if_neg (by omega)).symm hJ
    · have hp44 := (by omega : l2 ≥ ((h 104 l1) - r5))
      refine E_iconst dX11_isSelector_47 (rg_of rfl) ?_
      refine E_goto 52 dX11_isSelector_48 rfl ?_
      exact E_top (if_pos (by omega)).symm hJ
theorem sX11_isSelector {Q : Int → Hp → Prop} {h : Hp} {l1 l2 : Int}
    (hP : ((l1 < 0 ∨ l1 > 3) →
     Q (-1) h) ∧
    ((l1 ≥ 0 ∧ l1 ≤ 3) →
     (ix l1 4 ∧ rj ((h 104 l1) - 1)) ∧
     ((l2 ≥ 0 ∧ l2 ≤ ((h 104 l1) - 1)) →
      E 2 mX11_isSelector 20 [(0, vr 103), (1, vi l1), (2, vi l2), (3, vi 0)] [] h (qi Q)) ∧
     ((l2 < 0 ∨ l2 > ((h 104 l1) - 1)) →
      Q (-1) h))) :
    CI 2 mX11_isSelector [vr 103, vi l1, vi l2] h Q := by
  refine CI_of_E fX11_isSelector.1 rfl (Nat.le_of_ble_eq_true rfl) ?_
  show E 2 mX11_isSelector 0 [(0, vr 103), (1, vi l1), (2, vi l2)] [] h (qi Q)
  refine E_iload_n 1 1 dX11_isSelector_0 rfl rfl ?_
  refine E_invSI [vi l1] dX11_isSelector_1 fX11_isNet lX11_88 (by decide) rfl rfl (Nat.le_of_ble_eq_true rfl) (sX11_isNet (h := h) (l0 := l1) ?_)
  refine E_if_eq 16 dX11_isSelector_4 rfl (fun hc => ?_) (fun hc => ?_)
  · replace hP := hP.1 (by have := ite0 hc; omega)
    refine E_iconst dX11_isSelector_16 (rg_of rfl) ?_
    exact E_retI dX11_isSelector_17 rfl hP
  · replace hP := hP.2 (by have := ite1 hc; omega)
    obtain ⟨⟨v3_0, v3_1⟩, hP⟩ := hP
    refine E_aload_n 0 0 dX11_isSelector_7 rfl rfl ?_
    refine E_iload_n 1 1 dX11_isSelector_8 rfl rfl ?_
    refine E_iload_n 2 2 dX11_isSelector_9 rfl rfl ?_
    refine E_invVI [vi l1, vi l2] dX11_isSelector_10 fX11_isWire lX11_103 ic_103 rfl (by decide) rfl rfl (Nat.le_of_ble_eq_true rfl) (sX11_isWire (h := h) (l1 := l1) (l2 := l2) ⟨⟨v3_0, v3_1⟩, ?_⟩)
    refine E_if_ne 18 dX11_isSelector_13 rfl (fun hc => ?_) (fun hc => ?_)
    · replace hP := hP.1 (by have := ite1' hc; omega)
      refine E_iconst dX11_isSelector_18 (rg_of rfl) ?_
      refine E_istore_n dX11_isSelector_19 rfl (by decide) rfl ?_
      exact E_sub [1, 2, 3, 0] rfl hP
    · replace hP := hP.2 (by have := ite0 hc; omega)
      refine E_iconst dX11_isSelector_16 (rg_of rfl) ?_
      exact E_retI dX11_isSelector_17 rfl hP
theorem dX11_changes_0 : decode prog_13_method_42_code 0 = .ok (.aload_n 0, 1) := by decide +kernel
theorem dX11_changes_1 : decode prog_13_method_42_code 1 = .ok (.getfield 62, 3) := by decide +kernel
theorem dX11_changes_4 : decode prog_13_method_42_code 4 = .ok (.iload_n 1, 1) := by decide +kernel
theorem dX11_changes_5 : decode prog_13_method_42_code 5 = .ok (.iaload, 1) := by decide +kernel
theorem dX11_changes_6 : decode prog_13_method_42_code 6 = .ok (.istore_n 3, 1) := by decide +kernel
theorem dX11_changes_7 : decode prog_13_method_42_code 7 = .ok (.aload_n 0, 1) := by decide +kernel
theorem dX11_changes_8 : decode prog_13_method_42_code 8 = .ok (.getfield 62, 3) := by decide +kernel
theorem dX11_changes_11 : decode prog_13_method_42_code 11 = .ok (.iload_n 1, 1) := by decide +kernel
theorem dX11_changes_12 : decode prog_13_method_42_code 12 = .ok (.aload_n 0, 1) := by decide +kernel
theorem dX11_changes_13 : decode prog_13_method_42_code 13 = .ok (.getfield 62, 3) := by decide +kernel
theorem dX11_changes_16 : decode prog_13_method_42_code 16 = .ok (.iload_n 2, 1) := by decide +kernel
theorem dX11_changes_17 : decode prog_13_method_42_code 17 = .ok (.iaload, 1) := by decide +kernel
theorem dX11_changes_18 : decode prog_13_method_42_code 18 = .ok (.iastore, 1) := by decide +kernel
theorem dX11_changes_19 : decode prog_13_method_42_code 19 = .ok (.aload_n 0, 1) := by decide +kernel
theorem dX11_changes_20 : decode prog_13_method_42_code 20 = .ok (.getfield 62, 3) := by decide +kernel
theorem dX11_changes_23 : decode prog_13_method_42_code 23 = .ok (.iload_n 2, 1) := by decide +kernel
theorem dX11_changes_24 : decode prog_13_method_42_code 24 = .ok (.iload_n 3, 1) := by decide +kernel
theorem dX11_changes_25 : decode prog_13_method_42_code 25 = .ok (.iastore, 1) := by decide +kernel
theorem dX11_changes_26 : decode prog_13_method_42_code 26 = .ok (.return_, 1) := by decide +kernel
theorem sX11_changes {Q : Hp → Prop} {h : Hp} {l1 l2 : Int}
    (hP : (ix l1 8 ∧ ix l2 8) ∧
    Q (up (up h 121 l1 (h 121 l2)) 121 l2 (h 121 l1))) :
    CV 0 mX11_changes [vr 103, vi l1, vi l2] h Q := by
  refine CV_of_E fX11_changes.1 rfl (Nat.le_of_ble_eq_true rfl) ?_
  show E 0 mX11_changes 0 [(0, vr 103), (1, vi l1), (2, vi l2)] [] h (qv Q)
  obtain ⟨⟨v1_0, v1_1⟩, hP⟩ := hP
  refine E_aload_n 0 0 dX11_changes_0 rfl rfl ?_
  refine E_gR 121 23 dX11_changes_1 FX11_62 ic_103 (by decide) ?_
  refine E_iload_n 1 1 dX11_changes_4 rfl rfl ?_
  refine E_iaload dX11_changes_5 ic_121 v1_0.1 v1_0.2 ?_
  refine E_istore_n dX11_changes_6 rfl (by decide) rfl ?_
  refine E_aload_n 1 0 dX11_changes_7 rfl rfl ?_
  refine E_gR 121 23 dX11_changes_8 FX11_62 ic_103 (by decide) ?_
  refine E_iload_n 2 1 dX11_changes_11 rfl rfl ?_
  refine E_aload_n 1 0 dX11_changes_12 rfl rfl ?_
  refine E_gR 121 23 dX11_changes_13 FX11_62 ic_103 (by decide) ?_
  refine E_iload_n 3 2 dX11_changes_16 rfl rfl ?_
  refine E_iaload dX11_changes_17 ic_121 v1_1.1 v1_1.2 ?_
  refine E_iastore dX11_changes_18 ic_121 v1_0.1 v1_0.2 ?_
  refine E_aload_n 1 0 dX11_changes_19 rfl rfl ?_
  refine E_gR 121 23 dX11_changes_20 FX11_62 ic_103 (by decide) ?_
  refine E_iload_n 3 2 dX11_changes_23 rfl rfl ?_
  refine E_iload_n 0 3 dX11_changes_24 rfl rfl ?_
  refine E_iastore dX11_changes_25 ic_121 v1_1.1 v1_1.2 ?_
  exact E_retV dX11_changes_26 rfl hP
theorem dX11_isNext_0 : decode prog_13_method_41_code 0 = .ok (.iload_n 1, 1) := by decide +kernel
theorem dX11_isNext_1 : decode prog_13_method_41_code 1 = .ok (.iconst 2, 1) := by decide +kernel
theorem dX11_isNext_2 : decode prog_13_method_41_code 2 = .ok (.isub, 1) := by decide +kernel
theorem dX11_isNext_3 : decode prog_13_method_41_code 3 = .ok (.istore_n 2, 1) := by decide +kernel
theorem dX11_isNext_4 : decode prog_13_method_41_code 4 = .ok (.iload_n 2, 1) := by decide +kernel
theorem dX11_isNext_5 : decode prog_13_method_41_code 5 = .ok (.ifCond .lt 26, 3) := by decide +kernel
theorem dX11_isNext_8 : decode prog_13_method_41_code 8 = .ok (.aload_n 0, 1) := by decide +kernel
theorem dX11_isNext_9 : decode prog_13_method_41_code 9 = .ok (.getfield 62, 3) := by decide +kernel
theorem dX11_isNext_12 : decode prog_13_method_41_code 12 = .ok (.iload_n 2, 1) := by decide +kernel
theorem dX11_isNext_13 : decode prog_13_method_41_code 13 = .ok (.iaload, 1) := by decide +kernel
theorem dX11_isNext_14 : decode prog_13_method_41_code 14 = .ok (.aload_n 0, 1) := by decide +kernel
theorem dX11_isNext_15 : decode prog_13_method_41_code 15 = .ok (.getfield 62, 3) := by decide +kernel
theorem dX11_isNext_18 : decode prog_13_method_41_code 18 = .ok (.iload_n 2, 1) := by decide +kernel
theorem dX11_isNext_19 : decode prog_13_method_41_code 19 = .ok (.iconst 1, 1) := by decide +kernel
theorem dX11_isNext_20 : decode prog_13_method_41_code 20 = .ok (.iadd, 1) := by decide +kernel
theorem dX11_isNext_21 : decode prog_13_method_41_code 21 = .ok (.iaload, 1) := by decide +kernel
theorem dX11_isNext_22 : decode prog_13_method_41_code 22 = .ok (.if_icmp .le 9, 3) := by decide +kernel
theorem dX11_isNext_25 : decode prog_13_method_41_code 25 = .ok (.iinc 2 (-1), 3) := by decide +kernel
theorem dX11_isNext_28 : decode prog_13_method_41_code 28 = .ok (.goto (-24), 3) := by decide +kernel
theorem dX11_isNext_31 : decode prog_13_method_41_code 31 = .ok (.iload_n 2, 1) := by decide +kernel
theorem dX11_isNext_32 : decode prog_13_method_41_code 32 = .ok (.ifCond .ge 5, 3) := by decide +kernel
theorem dX11_isNext_35 : decode prog_13_method_41_code 35 = .ok (.iconst 0, 1) := by decide +kernel
theorem dX11_isNext_36 : decode prog_13_method_41_code 36 = .ok (.ireturn, 1) := by decide +kernel
theorem dX11_isNext_37 : decode prog_13_method_41_code 37 = .ok (.iload_n 1, 1) := by decide +kernel
theorem dX11_isNext_38 : decode prog_13_method_41_code 38 = .ok (.iconst 1, 1) := by decide +kernel
theorem dX11_isNext_39 : decode prog_13_method_41_code 39 = .ok (.isub, 1) := by decide +kernel
theorem dX11_isNext_40 : decode prog_13_method_41_code 40 = .ok (.istore_n 3, 1) := by decide +kernel
theorem dX11_isNext_41 : decode prog_13_method_41_code 41 = .ok (.aload_n 0, 1) := by decide +kernel
theorem dX11_isNext_42 : decode prog_13_method_41_code 42 = .ok (.getfield 62, 3) := by decide +kernel
theorem dX11_isNext_45 : decode prog_13_method_41_code 45 = .ok (.iload_n 3, 1) := by decide +kernel
theorem dX11_isNext_46 : decode prog_13_method_41_code 46 = .ok (.iaload, 1) := by decide +kernel
theorem dX11_isNext_47 : decode prog_13_method_41_code 47 = .ok (.aload_n 0, 1) := by decide +kernel
theorem dX11_isNext_48 : decode prog_13_method_41_code 48 = .ok (.getfield 62, 3) := by decide +kernel
theorem dX11_isNext_51 : decode prog_13_method_41_code 51 = .ok (.iload_n 2, 1) := by decide +kernel
theorem dX11_isNext_52 : decode prog_13_method_41_code 52 = .ok (.iaload, 1) := by decide +kernel
theorem dX11_isNext_53 : decode prog_13_method_41_code 53 = .ok (.if_icmp .ge 9, 3) := by decide +kernel
theorem dX11_isNext_56 : decode prog_13_method_41_code 56 = .ok (.iinc 3 (-1), 3) := by decide +kernel
theorem dX11_isNext_59 : decode prog_13_method_41_code 59 = .ok (.goto (-18), 3) := by decide +kernel
theorem dX11_isNext_62 : decode prog_13_method_41_code 62 = .ok (.aload_n 0, 1) := by decide +kernel
theorem dX11_isNext_63 : decode prog_13_method_41_code 63 = .ok (.iload_n 2, 1) := by decide +kernel
theorem dX11_isNext_64 : decode prog_13_method_41_code 64 = .ok (.iload_n 3, 1) := by decide +kernel
theorem dX11_isNext_65 : decode prog_13_method_41_code 65 = .ok (.invokevirtual 166, 3) := by decide +kernel
theorem dX11_isNext_68 : decode prog_13_method_41_code 68 = .ok (.iload_n 2, 1) := by decide +kernel
theorem dX11_isNext_69 : decode prog_13_method_41_code 69 = .ok (.iconst 1, 1) := by decide +kernel
theorem dX11_isNext_70 : decode prog_13_method_41_code 70 = .ok (.iadd, 1) := by decide +kernel
theorem dX11_isNext_71 : decode prog_13_method_41_code 71 = .ok (.istore 4, 2) := by decide +kernel
theorem dX11_isNext_73 : decode prog_13_method_41_code 73 = .ok (.iload_n 1, 1) := by decide +kernel
theorem dX11_isNext_74 : decode prog_13_method_41_code 74 = .ok (.iconst 1, 1) := by decide +kernel
theorem dX11_isNext_75 : decode prog_13_method_41_code 75 = .ok (.isub, 1) := by decide +kernel
theorem dX11_isNext_76 : decode prog_13_method_41_code 76 = .ok (.istore 5, 2) := by decide +kernel
theorem dX11_isNext_78 : decode prog_13_method_41_code 78 = .ok (.iload 4, 2) := by decide +kernel
theorem dX11_isNext_80 : decode prog_13_method_41_code 80 = .ok (.iload 5, 2) := by decide +kernel
theorem dX11_isNext_82 : decode prog_13_method_41_code 82 = .ok (.if_icmp .ge 20, 3) := by decide +kernel
theorem dX11_isNext_85 : decode prog_13_method_41_code 85 = .ok (.aload_n 0, 1) := by decide +kernel
theorem dX11_isNext_86 : decode prog_13_method_41_code 86 = .ok (.iload 4, 2) := by decide +kernel
theorem dX11_isNext_88 : decode prog_13_method_41_code 88 = .ok (.iload 5, 2) := by decide +kernel
theorem dX11_isNext_90 : decode prog_13_method_41_code 90 = .ok (.invokevirtual 166, 3) := by decide +kernel
theorem dX11_isNext_93 : decode prog_13_method_41_code 93 = .ok (.iinc 4 1, 3) := by decide +kernel
theorem dX11_isNext_96 : decode prog_13_method_41_code 96 = .ok (.iinc 5 (-1), 3) := by decide +kernel
theorem dX11_isNext_99 : decode prog_13_method_41_code 99 = .ok (.goto (-21), 3) := by decide +kernel
theorem dX11_isNext_102 : decode prog_13_method_41_code 102 = .ok (.iconst 1, 1) := by decide +kernel
theorem dX11_isNext_103 : decode prog_13_method_41_code 103 = .ok (.ireturn, 1) := by decide +kernel
theorem sX11_isNext_78 {Q : Int → Hp → Prop} {h : Hp} {l4 l5 : Int}
    (hP : ((l4 ≥ l5) →
     Q 1 h) ∧
    ((l4 < l5) →
     (ix l4 8 ∧ ix l5 8 ∧ rj (l4 + 1) ∧ rj (l5 + (-1))) ∧
     E 1 mX11_isNext 78 [(0, vr 103), (4, vi (l4 + 1)), (5, vi (l5 + (-1)))] [] (up (up h 121 l4 (h 121 l5)) 121 l5 (h 121 l4)) (qi Q))) :
    E 1 mX11_isNext 78 [(0, vr 103), (4, vi l4), (5, vi l5)] [] h (qi Q) := by
  refine E_iload 1 dX11_isNext_78 rfl ?_
  refine E_iload 2 dX11_isNext_80 rfl ?_
  refine E_icmp_ge 102 dX11_isNext_82 rfl (fun hc => ?_) (fun hc => ?_)
  · replace hP := hP.1 (hc)
    refine E_iconst dX11_isNext_102 (rg_of rfl) ?_
    exact E_retZ dX11_isNext_103 rfl (Or.inr rfl) hP
  · replace hP := hP.2 (by omega)
    obtain ⟨⟨v3_0, v3_1, v3_2, v3_3⟩, hP⟩ := hP
    refine E_aload_n 0 0 dX11_isNext_85 rfl rfl ?_
    refine E_iload 1 dX11_isNext_86 rfl ?_
    refine E_iload 2 dX11_isNext_88 rfl ?_
    refine E_invVV [vi l4, vi l5] dX11_isNext_90 fX11_changes lX11_166 ic_103 rfl (by decide) rfl rfl (Nat.le_of_ble_eq_true rfl) (sX11_changes (h := h) (l1 := l4) (l2 := l5) ⟨⟨v3_0, v3_1⟩, ?_⟩)
    refine E_iinc 1 dX11_isNext_93 rfl (rgI v3_2) (by decide) rfl ?_
    refine E_iinc 2 dX11_isNext_96 rfl (rgI v3_3) (by decide) rfl ?_
    refine E_goto 78 dX11_isNext_99 rfl ?_
    exact E_sub [2, 1, 0] rfl hP
theorem sX11_isNext_41 {Q : Int → Hp → Prop} {h : Hp} {l1 l2 l3 : Int}
    (hP : (ix l3 8 ∧ ix l2 8) ∧
    (((h 121 l3) ≥ (h 121 l2)) →
     (ix l2 8 ∧ ix l3 8 ∧ rj (l2 + 1) ∧ rj (l1 - 1)) ∧
     E 1 mX11_isNext 78 [(0, vr 103), (4, vi (l2 + 1)), (5, vi (l1 - 1))] [] (up (up h 121 l2 (h 121 l3)) 121 l3 (h 121 l2)) (qi Q)) ∧
    (((h 121 l3) < (h 121 l2)) →
     (rj (l3 + (-1))) ∧
     E 1 mX11_isNext 41 [(0, vr 103), (1, vi l1), (2, vi l2), (3, vi (l3 + (-1)))] [] h (qi Q))) :
    E 1 mX11_isNext 41 [(0, vr 103), (1, vi l1), (2, vi l2), (3, vi l3)] [] h (qi Q) := by
  obtain ⟨⟨v1_0, v1_1⟩, hP⟩ := hP
  refine E_aload_n 0 0 dX11_isNext_41 rfl rfl ?_
  refine E_gR 121 23 dX11_isNext_42 FX11_62 ic_103 (by decide) ?_
  refine E_iload_n 3 3 dX11_isNext_45 rfl rfl ?_
  refine E_iaload dX11_isNext_46 ic_121 v1_0.1 v1_0.2 ?_
  refine E_aload_n 0 0 dX11_isNext_47 rfl rfl ?_
  refine E_gR 121 23 dX11_isNext_48 FX11_62 ic_103 (by decide) ?_
  refine E_iload_n 2 2 dX11_isNext_51 rfl rfl ?_
  refine E_iaload dX11_isNext_52 ic_121 v1_1.1 v1_1.2 ?_
  refine E_icmp_ge 62 dX11_isNext_53 rfl (fun hc => ?_) (fun hc => ?_)
  · replace hP := hP.1 (hc)
    obtain ⟨⟨v2_0, v2_1, v2_2, v2_3⟩, hP⟩ := hP
    refine E_aload_n 0 0 dX11_isNext_62 rfl rfl ?_
    refine E_iload_n 2 2 dX11_isNext_63 rfl rfl ?_
    refine E_iload_n 3 3 dX11_isNext_64 rfl rfl ?_
    refine E_invVV [vi l2, vi l3] dX11_isNext_65 fX11_changes lX11_166 ic_103 rfl (by decide) rfl rfl (Nat.le_of_ble_eq_true rfl) (sX11_changes (h := h) (l1 := l2) (l2 := l3) ⟨⟨v2_0, v2_1⟩, ?_⟩)
    refine E_iload_n 2 2 dX11_isNext_68 rfl rfl ?_
    refine E_iconst dX11_isNext_69 (rg_of rfl) ?_
    refine E_iadd dX11_isNext_70 (rgI v2_2) ?_
    refine E_istore dX11_isNext_71 (by decide) rfl ?_
    refine E_iload_n 2 1 dX11_isNext_73 rfl rfl ?_
    refine E_iconst dX11_isNext_74 (rg_of rfl) ?_
    refine E_isub dX11_isNext_75 (rgI v2_3) ?_
    refine E_istore dX11_isNext_76 (by decide) rfl ?_
    exact E_sub [2, 1, 0] rfl hP
  · replace hP := hP.2 (by omega)
    obtain ⟨v3_0, hP⟩ := hP
    refine E_iinc 3 dX11_isNext_56 rfl (rgI v3_0) (by decide) rfl ?_
    refine E_goto 41 dX11_isNext_59 rfl ?_
    exact E_sub [1, 2, 3, 0] rfl hP
theorem sX11_isNext_4 {Q : Int → Hp → Prop} {h : Hp} {l1 l2 : Int}
    (hP : ((l2 < 0) →
     ((l2 ≥ 0) →
      (rj (l1 - 1)) ∧
      E 1 mX11_isNext 41 [(0, vr 103), (1, vi l1), (2, vi l2), (3, vi (l1 - 1))] [] h (qi Q)) ∧
     ((l2 < 0) →
      Q 0 h)) ∧
    ((l2 ≥ 0) →
     (ix l2 8 ∧ rj (l2 + 1) ∧ ix (l2 + 1) 8) ∧
     (((h 121 l2) ≤ (h 121 (l2 + 1))) →
      ((l2 ≥ 0) →
       (rj (l1 - 1)) ∧
       E 1 mX11_isNext 41 [(0, vr 103), (1, vi l1), (2, vi l2), (3, vi (l1 - 1))] [] h (qi Q)) ∧
      ((l2 < 0) →
       Q 0 h)) ∧
     (((h 121 l2) > (h 121 (l2 + 1))) →
      (rj (l2 + (-1))) ∧
      E 1 mX11_isNext 4 [(0, vr 103), (1, vi l1), (2, vi (l2 + (-1)))] [] h (qi Q)))) :
    E 1 mX11_isNext 4 [(0, vr 103), (1, vi l1), (2, vi l2)] [] h (qi Q) := by
  refine E_iload_n 2 2 dX11_isNext_4 rfl rfl ?_
  refine E_if_lt 31 dX11_isNext_5 rfl (fun hc => ?_) (fun hc => ?_)
  · replace hP := hP.1 (hc)
    refine E_iload_n 2 2 dX11_isNext_31 rfl rfl ?_
    refine E_if_ge 37 dX11_isNext_32 rfl (fun hc => ?_) (fun hc => ?_)
    · replace hP := hP.1 (hc)
      obtain ⟨v3_0, hP⟩ := hP
      refine E_iload_n 1 1 dX11_isNext_37 rfl rfl ?_
      refine E_iconst dX11_isNext_38 (rg_of rfl) ?_
      refine E_isub dX11_isNext_39 (rgI v3_0) ?_
      refine E_istore_n dX11_isNext_40 rfl (by decide) rfl ?_
      exact E_sub [1, 2, 3, 0] rfl hP
    · replace hP := hP.2 (by omega)
      refine E_iconst dX11_isNext_35 (rg_of rfl) ?_
      exact E_retZ dX11_isNext_36 rfl (Or.inl rfl) hP
  · replace hP := hP.2 (by omega)
    obtain ⟨⟨v5_0, v5_1, v5_2⟩, hP⟩ := hP
    refine E_aload_n 0 0 dX11_isNext_8 rfl rfl ?_
    refine E_gR 121 23 dX11_isNext_9 FX11_62 ic_103 (by decide) ?_
    refine E_iload_n 2 2 dX11_isNext_12 rfl rfl ?_
    refine E_iaload dX11_isNext_13 ic_121 v5_0.1 v5_0.2 ?_
    refine E_aload_n 0 0 dX11_isNext_14 rfl rfl ?_
    refine E_gR 121 23 dX11_isNext_15 FX11_62 ic_103 (by decide) ?_
    refine E_iload_n 2 2 dX11_isNext_18 rfl rfl ?_
    refine E_iconst dX11_isNext_19 (rg_of rfl) ?_
    refine E_iadd dX11_isNext_20 (rgI v5_1) ?_
    refine E_iaload dX11_isNext_21 ic_121 v5_2.1 v5_2.2 ?_
    refine E_icmp_le 31 dX11_isNext_22 rfl (fun hc => ?_) (fun hc => ?_)
    · replace hP := hP.1 (hc)
      refine E_iload_n 2 2 dX11_isNext_31 rfl rfl ?_
      refine E_if_ge 37 dX11_isNext_32 rfl (fun hc => ?_) (fun hc => ?_)
      · replace hP := hP.1 (hc)
        obtain ⟨v7_0, hP⟩ := hP
        refine E_iload_n 1 1 dX11_isNext_37 rfl rfl ?_
        refine E_iconst dX11_isNext_38 (rg_of rfl) ?_
        refine E_isub dX11_isNext_39 (rgI v7_0) ?_
        refine E_istore_n dX11_isNext_40 rfl (by decide) rfl ?_
        exact E_sub [1, 2, 3, 0] rfl hP
      · replace hP := hP.2 (by omega)
        refine E_iconst dX11_isNext_35 (rg_of rfl) ?_
        exact E_retZ dX11_isNext_36 rfl (Or.inl rfl) hP
    · replace hP := hP.2 (by omega)
      obtain ⟨v9_0, hP⟩ := hP
      refine E_iinc 2 dX11_isNext_25 rfl (rgI v9_0) (by decide) rfl ?_
      refine E_goto 4 dX11_isNext_28 rfl ?_
      exact E_sub [1, 2, 0] rfl hP
theorem sX11_isNext {Q : Int → Hp → Prop} {h : Hp} {l1 : Int}
    (hP : (rj (l1 - 2)) ∧
    E 1 mX11_isNext 4 [(0, vr 103), (1, vi l1), (2, vi (l1 - 2))] [] h (qi Q)) :
    CI 1 mX11_isNext [vr 103, vi l1] h Q := by
  refine CI_of_E fX11_isNext.1 rfl (Nat.le_of_ble_eq_true rfl) ?_
  show E 1 mX11_isNext 0 [(0, vr 103), (1, vi l1)] [] h (qi Q)
  obtain ⟨v1_0, hP⟩ := hP
  refine E_iload_n 1 1 dX11_isNext_0 rfl rfl ?_
  refine E_iconst dX11_isNext_1 (rg_of rfl) ?_
  refine E_isub dX11_isNext_2 (rgI v1_0) ?_
  refine E_istore_n dX11_isNext_3 rfl (by decide) rfl ?_
  exact E_sub [1, 2, 0] rfl hP
theorem dX11_begins_0 : decode prog_13_method_43_code 0 = .ok (.iconst 0, 1) := by decide +kernel
theorem dX11_begins_1 : decode prog_13_method_43_code 1 = .ok (.istore_n 1, 1) := by decide +kernel
theorem dX11_begins_2 : decode prog_13_method_43_code 2 = .ok (.iload_n 1, 1) := by decide +kernel
theorem dX11_begins_3 : decode prog_13_method_43_code 3 = .ok (.bipush 8, 2) := by decide +kernel
theorem dX11_begins_5 : decode prog_13_method_43_code 5 = .ok (.if_icmp .ge 16, 3) := by decide +kernel
theorem dX11_begins_8 : decode prog_13_method_43_code 8 = .ok (.aload_n 0, 1) := by decide +kernel
theorem dX11_begins_9 : decode prog_13_method_43_code 9 = .ok (.getfield 62, 3) := by decide +kernel
theorem dX11_begins_12 : decode prog_13_method_43_code 12 = .ok (.iload_n 1, 1) := by decide +kernel
theorem dX11_begins_13 : decode prog_13_method_43_code 13 = .ok (.iload_n 1, 1) := by decide +kernel
theorem dX11_begins_14 : decode prog_13_method_43_code 14 = .ok (.iastore, 1) := by decide +kernel
theorem dX11_begins_15 : decode prog_13_method_43_code 15 = .ok (.iinc 1 1, 3) := by decide +kernel
theorem dX11_begins_18 : decode prog_13_method_43_code 18 = .ok (.goto (-16), 3) := by decide +kernel
theorem dX11_begins_21 : decode prog_13_method_43_code 21 = .ok (.return_, 1) := by decide +kernel
theorem sX11_begins_2 {Q : Hp → Prop} {h : Hp} {l1 : Int}
    (hP : ((l1 ≥ 8) →
     Q h) ∧
    ((l1 < 8) →
     (ix l1 8 ∧ rj (l1 + 1)) ∧
     E 0 mX11_begins 2 [(0, vr 103), (1, vi (l1 + 1))] [] (up h 121 l1 l1) (qv Q))) :
    E 0 mX11_begins 2 [(0, vr 103), (1, vi l1)] [] h (qv Q) := by
  refine E_iload_n 1 1 dX11_begins_2 rfl rfl ?_
  refine E_bipush dX11_begins_3 (by decide) ?_
  refine E_icmp_ge 21 dX11_begins_5 rfl (fun hc => ?_) (fun hc => ?_)
  · replace hP := hP.1 (hc)
    exact E_retV dX11_begins_21 rfl hP
  · replace hP := hP.2 (by omega)
    obtain ⟨⟨v3_0, v3_1⟩, hP⟩ := hP
    refine E_aload_n 0 0 dX11_begins_8 rfl rfl ?_
    refine E_gR 121 23 dX11_begins_9 FX11_62 ic_103 (by decide) ?_
    refine E_iload_n 1 1 dX11_begins_12 rfl rfl ?_
    refine E_iload_n 1 1 dX11_begins_13 rfl rfl ?_
    refine E_iastore dX11_begins_14 ic_121 v3_0.1 v3_0.2 ?_
    refine E_iinc 1 dX11_begins_15 rfl (rgI v3_1) (by decide) rfl ?_
    refine E_goto 2 dX11_begins_18 rfl ?_
    exact E_sub [1, 0] rfl hP
theorem sX11_begins {Q : Hp → Prop} {h : Hp}
    (hP : E 0 mX11_begins 2 [(0, vr 103), (1, vi 0)] [] h (qv Q)) :
    CV 0 mX11_begins [vr 103] h Q := by
  refine CV_of_E fX11_begins.1 rfl (Nat.le_of_ble_eq_true rfl) ?_
  show E 0 mX11_begins 0 [(0, vr 103)] [] h (qv Q)
  refine E_iconst dX11_begins_0 (rg_of rfl) ?_
  refine E_istore_n dX11_begins_1 rfl (by decide) rfl ?_
  exact E_sub [1, 0] rfl hP
theorem dX11_carries_0 : decode prog_13_method_44_code 0 = .ok (.iconst 0, 1) := by decide +kernel
theorem dX11_carries_1 : decode prog_13_method_44_code 1 = .ok (.istore_n 2, 1) := by decide +kernel
theorem dX11_carries_2 : decode prog_13_method_44_code 2 = .ok (.iconst 0, 1) := by decide +kernel
theorem dX11_carries_3 : decode prog_13_method_44_code 3 = .ok (.istore_n 3, 1) := by decide +kernel
theorem dX11_carries_4 : decode prog_13_method_44_code 4 = .ok (.iload_n 3, 1) := by decide +kernel
theorem dX11_carries_5 : decode prog_13_method_44_code 5 = .ok (.aload_n 0, 1) := by decide +kernel
theorem dX11_carries_6 : decode prog_13_method_44_code 6 = .ok (.getfield 9, 3) := by decide +kernel
theorem dX11_carries_9 : decode prog_13_method_44_code 9 = .ok (.iload_n 1, 1) := by decide +kernel
theorem dX11_carries_10 : decode prog_13_method_44_code 10 = .ok (.iaload, 1) := by decide +kernel
theorem dX11_carries_11 : decode prog_13_method_44_code 11 = .ok (.if_icmp .ge 21, 3) := by decide +kernel
theorem dX11_carries_14 : decode prog_13_method_44_code 14 = .ok (.aload_n 0, 1) := by decide +kernel
theorem dX11_carries_15 : decode prog_13_method_44_code 15 = .ok (.getfield 65, 3) := by decide +kernel
theorem dX11_carries_18 : decode prog_13_method_44_code 18 = .ok (.iload_n 3, 1) := by decide +kernel
theorem dX11_carries_19 : decode prog_13_method_44_code 19 = .ok (.aload_n 0, 1) := by decide +kernel
theorem dX11_carries_20 : decode prog_13_method_44_code 20 = .ok (.getfield 62, 3) := by decide +kernel
theorem dX11_carries_23 : decode prog_13_method_44_code 23 = .ok (.iload_n 3, 1) := by decide +kernel
theorem dX11_carries_24 : decode prog_13_method_44_code 24 = .ok (.iaload, 1) := by decide +kernel
theorem dX11_carries_25 : decode prog_13_method_44_code 25 = .ok (.iastore, 1) := by decide +kernel
theorem dX11_carries_26 : decode prog_13_method_44_code 26 = .ok (.iinc 3 1, 3) := by decide +kernel
theorem dX11_carries_29 : decode prog_13_method_44_code 29 = .ok (.goto (-25), 3) := by decide +kernel
theorem dX11_carries_32 : decode prog_13_method_44_code 32 = .ok (.iconst 0, 1) := by decide +kernel
theorem dX11_carries_33 : decode prog_13_method_44_code 33 = .ok (.istore_n 3, 1) := by decide +kernel
theorem dX11_carries_34 : decode prog_13_method_44_code 34 = .ok (.iload_n 3, 1) := by decide +kernel
theorem dX11_carries_35 : decode prog_13_method_44_code 35 = .ok (.aload_n 0, 1) := by decide +kernel
theorem dX11_carries_36 : decode prog_13_method_44_code 36 = .ok (.getfield 13, 3) := by decide +kernel
theorem dX11_carries_39 : decode prog_13_method_44_code 39 = .ok (.iload_n 1, 1) := by decide +kernel
theorem dX11_carries_40 : decode prog_13_method_44_code 40 = .ok (.iaload, 1) := by decide +kernel
theorem dX11_carries_41 : decode prog_13_method_44_code 41 = .ok (.if_icmp .ge 90, 3) := by decide +kernel
theorem dX11_carries_44 : decode prog_13_method_44_code 44 = .ok (.aload_n 0, 1) := by decide +kernel
theorem dX11_carries_45 : decode prog_13_method_44_code 45 = .ok (.getfield 16, 3) := by decide +kernel
theorem dX11_carries_48 : decode prog_13_method_44_code 48 = .ok (.bipush 40, 2) := by decide +kernel
theorem dX11_carries_50 : decode prog_13_method_44_code 50 = .ok (.iload_n 1, 1) := by decide +kernel
theorem dX11_carries_51 : decode prog_13_method_44_code 51 = .ok (.imul, 1) := by decide +kernel
theorem dX11_carries_52 : decode prog_13_method_44_code 52 = .ok (.iload_n 3, 1) := by decide +kernel
theorem dX11_carries_53 : decode prog_13_method_44_code 53 = .ok (.iadd, 1) := by decide +kernel
theorem dX11_carries_54 : decode prog_13_method_44_code 54 = .ok (.iaload, 1) := by decide +kernel
theorem dX11_carries_55 : decode prog_13_method_44_code 55 = .ok (.istore 4, 2) := by decide +kernel
theorem dX11_carries_57 : decode prog_13_method_44_code 57 = .ok (.aload_n 0, 1) := by decide +kernel
theorem dX11_carries_58 : decode prog_13_method_44_code 58 = .ok (.getfield 19, 3) := by decide +kernel
theorem dX11_carries_61 : decode prog_13_method_44_code 61 = .ok (.bipush 40, 2) := by decide +kernel
theorem dX11_carries_63 : decode prog_13_method_44_code 63 = .ok (.iload_n 1, 1) := by decide +kernel
theorem dX11_carries_64 : decode prog_13_method_44_code 64 = .ok (.imul, 1) := by decide +kernel
theorem dX11_carries_65 : decode prog_13_method_44_code 65 = .ok (.iload_n 3, 1) := by decide +kernel
theorem dX11_carries_66 : decode prog_13_method_44_code 66 = .ok (.iadd, 1) := by decide +kernel
theorem dX11_carries_67 : decode prog_13_method_44_code 67 = .ok (.iaload, 1) := by decide +kernel
theorem dX11_carries_68 : decode prog_13_method_44_code 68 = .ok (.istore 5, 2) := by decide +kernel
theorem dX11_carries_70 : decode prog_13_method_44_code 70 = .ok (.aload_n 0, 1) := by decide +kernel
theorem dX11_carries_71 : decode prog_13_method_44_code 71 = .ok (.getfield 65, 3) := by decide +kernel
theorem dX11_carries_74 : decode prog_13_method_44_code 74 = .ok (.iload 4, 2) := by decide +kernel
theorem dX11_carries_76 : decode prog_13_method_44_code 76 = .ok (.iaload, 1) := by decide +kernel
theorem dX11_carries_77 : decode prog_13_method_44_code 77 = .ok (.aload_n 0, 1) := by decide +kernel
theorem dX11_carries_78 : decode prog_13_method_44_code 78 = .ok (.getfield 65, 3) := by decide +kernel
theorem dX11_carries_81 : decode prog_13_method_44_code 81 = .ok (.iload 5, 2) := by decide +kernel
theorem dX11_carries_83 : decode prog_13_method_44_code 83 = .ok (.iaload, 1) := by decide +kernel
theorem dX11_carries_84 : decode prog_13_method_44_code 84 = .ok (.if_icmp .gt 6, 3) := by decide +kernel
theorem dX11_carries_87 : decode prog_13_method_44_code 87 = .ok (.goto 38, 3) := by decide +kernel
theorem dX11_carries_90 : decode prog_13_method_44_code 90 = .ok (.aload_n 0, 1) := by decide +kernel
theorem dX11_carries_91 : decode prog_13_method_44_code 91 = .ok (.getfield 65, 3) := by decide +kernel
theorem dX11_carries_94 : decode prog_13_method_44_code 94 = .ok (.iload 4, 2) := by decide +kernel
theorem dX11_carries_96 : decode prog_13_method_44_code 96 = .ok (.iaload, 1) := by decide +kernel
theorem dX11_carries_97 : decode prog_13_method_44_code 97 = .ok (.istore 6, 2) := by decide +kernel
theorem dX11_carries_99 : decode prog_13_method_44_code 99 = .ok (.aload_n 0, 1) := by decide +kernel
theorem dX11_carries_100 : decode prog_13_method_44_code 100 = .ok (.getfield 65, 3) := by decide +kernel
theorem dX11_carries_103 : decode prog_13_method_44_code 103 = .ok (.iload 4, 2) := by decide +kernel
theorem dX11_carries_105 : decode prog_13_method_44_code 105 = .ok (.aload_n 0, 1) := by decide +kernel
theorem dX11_carries_106 : decode prog_13_method_44_code 106 = .ok (.getfield 65, 3) := by decide +kernel
theorem dX11_carries_109 : decode prog_13_method_44_code 109 = .ok (.iload 5, 2) := by decide +kernel
theorem dX11_carries_111 : decode prog_13_method_44_code 111 = .ok (.iaload, 1) := by decide +kernel
theorem dX11_carries_112 : decode prog_13_method_44_code 112 = .ok (.iastore, 1) := by decide +kernel
theorem dX11_carries_113 : decode prog_13_method_44_code 113 = .ok (.aload_n 0, 1) := by decide +kernel
theorem dX11_carries_114 : decode prog_13_method_44_code 114 = .ok (.getfield 65, 3) := by decide +kernel
theorem dX11_carries_117 : decode prog_13_method_44_code 117 = .ok (.iload 5, 2) := by decide +kernel
theorem dX11_carries_119 : decode prog_13_method_44_code 119 = .ok (.iload 6, 2) := by decide +kernel
theorem dX11_carries_121 : decode prog_13_method_44_code 121 = .ok (.iastore, 1) := by decide +kernel
theorem dX11_carries_122 : decode prog_13_method_44_code 122 = .ok (.iinc 2 1, 3) := by decide +kernel
theorem dX11_carries_125 : decode prog_13_method_44_code 125 = .ok (.iinc 3 1, 3) := by decide +kernel
theorem dX11_carries_128 : decode prog_13_method_44_code 128 = .ok (.goto (-94), 3) := by decide +kernel
theorem dX11_carries_131 : decode prog_13_method_44_code 131 = .ok (.iload_n 2, 1) := by decide +kernel
theorem dX11_carries_132 : decode prog_13_method_44_code 132 = .ok (.ireturn, 1) := by decide +kernel
theorem sX11_carries_34 {Q : Int → Hp → Prop} {h : Hp} {l1 l2 l3 : Int}
    (hP : (ix l1 4) ∧
    ((l3 ≥ (h 105 l1)) →
     Q l2 h) ∧
    ((l3 < (h 105 l1)) →
     (rj (40 * l1) ∧ rj ((40 * l1) + l3) ∧ ix ((40 * l1) + l3) 160 ∧ ix (h 106 ((40 * l1) + l3)) 8 ∧ ix (h 107 ((40 * l1) + l3)) 8) ∧
     (((h 122 (h 106 ((40 * l1) + l3))) > (h 122 (h 107 ((40 * l1) + l3)))) →
      (ix (h 106 ((40 * l1) + l3)) 8) ∧
      (∀ x5 : Int, x5 = (h 122 (h 106 ((40 * l1) + l3))) →
      (ix (h 107 ((40 * l1) + l3)) 8 ∧ ix (h 106 ((40 * l1) + l3)) 8 ∧ rj (l2 + 1) ∧ rj (l3 + 1)) ∧
      E 0 mX11_carries 34 [(0, vr 103), (1, vi l1), (2, vi (l2 + 1)), (3, vi (l3 + 1))] [] (up (up h 122 (h 106 ((40 * l1) + l3)) (h 122 (h 107 ((40 * l1) + l3)))) 122 (h 107 ((40 * l1) + l3)) x5) (qi Q))) ∧
     (((h 122 (h 106 ((40 * l1) + l3))) ≤ (h 122 (h 107 ((40 * l1) + l3)))) →
      (rj (l3 + 1)) ∧
      E 0 mX11_carries 34 [(0, vr 103), (1, vi l1), (2, vi l2), (3, vi (l3 + 1))] [] h (qi Q)))) :
    E 0 mX11_carries 34 [(0, vr 103), (1, vi l1), (2, vi l2), (3, vi l3)] [] h (qi Q) := by
  obtain ⟨v1_0, hP⟩ := hP
  refine E_iload_n 3 3 dX11_carries_34 rfl rfl ?_
  refine E_aload_n 0 0 dX11_carries_35 rfl rfl ?_
  refine E_gR 105 1 dX11_carries_36 FX11_13 ic_103 (by decide) ?_
  refine E_iload_n 1 1 dX11_carries_39 rfl rfl ?_
  refine E_iaload dX11_carries_40 ic_105 v1_0.1 v1_0.2 ?_
  refine E_icmp_ge 131 dX11_carries_41 rfl (fun hc => ?_) (fun hc => ?_)
  · replace hP := hP.1 (hc)
    refine E_iload_n 2 2 dX11_carries_131 rfl rfl ?_
    exact E_retI dX11_carries_132 rfl hP
  · replace hP := hP.2 (by omega)
    obtain ⟨⟨v3_0, v3_1, v3_2, v3_3, v3_4⟩, hP⟩ := hP
    refine E_aload_n 0 0 dX11_carries_44 rfl rfl ?_
    refine E_gR 106 2 dX11_carries_45 FX11_16 ic_103 (by decide) ?_
    refine E_bipush dX11_carries_48 (by decide) ?_
    refine E_iload_n 1 1 dX11_carries_50 rfl rfl ?_
    refine E_imul dX11_carries_51 (rgI v3_0) ?_
    refine E_iload_n 3 3 dX11_carries_52 rfl rfl ?_
    refine E_iadd dX11_carries_53 (rgI v3_1) ?_
    refine E_iaload dX11_carries_54 ic_106 v3_2.1 v3_2.2 ?_
    refine E_istore dX11_carries_55 (by decide) rfl ?_
    refine E_aload_n 1 0 dX11_carries_57 rfl rfl ?_
    refine E_gR 107 3 dX11_carries_58 FX11_19 ic_103 (by decide) ?_
    refine E_bipush dX11_carries_61 (by decide) ?_
    refine E_iload_n 2 1 dX11_carries_63 rfl rfl ?_
    refine E_imul dX11_carries_64 (rgI v3_0) ?_
    refine E_iload_n 4 3 dX11_carries_65 rfl rfl ?_
    refine E_iadd dX11_carries_66 (rgI v3_1) ?_
    refine E_iaload dX11_carries_67 ic_107 v3_2.1 v3_2.2 ?_
    refine E_istore dX11_carries_68 (by decide) rfl ?_
    refine E_aload_n 2 0 dX11_carries_70 rfl rfl ?_
    refine E_gR 122 24 dX11_carries_71 FX11_65 ic_103 (by decide) ?_
    refine E_iload 1 dX11_carries_74 rfl ?_
    refine E_iaload dX11_carries_76 ic_122 v3_3.1 v3_3.2 ?_
    refine E_aload_n 2 0 dX11_carries_77 rfl rfl ?_
    refine E_gR 122 24 dX11_carries_78 FX11_65 ic_103 (by decide) ?_
    refine E_iload 0 dX11_carries_81 rfl ?_
    refine E_iaload dX11_carries_83 ic_122 v3_4.1 v3_4.2 ?_
    refine E_icmp_gt 90 dX11_carries_84 rfl (fun hc => ?_) (fun hc => ?_)
    · replace hP := hP.1 (hc)
      obtain ⟨v4_0, hP⟩ := hP
      refine E_aload_n 2 0 dX11_carries_90 rfl rfl ?_
      refine E_gR 122 24 dX11_carries_91 FX11_65 ic_103 (by decide) ?_
      refine E_iload 1 dX11_carries_94 rfl ?_
      refine E_iaload dX11_carries_96 ic_122 v4_0.1 v4_0.2 ?_
      obtain ⟨x5, hx5⟩ : ∃ x : Int, x = (h 122 (h 106 ((40 * l1) + l3))) := ⟨_, rfl⟩
      refine E_top hx5.symm ?_
      replace hP := hP x5 hx5
      refine E_istore dX11_carries_97 (by decide) rfl ?_
      obtain ⟨⟨v6_0, v6_1, v6_2, v6_3⟩, hP⟩ := hP
      refine E_aload_n 3 0 dX11_carries_99 rfl rfl ?_
      refine E_gR 122 24 dX11_carries_100 FX11_65 ic_103 (by decide) ?_
      refine E_iload 2 dX11_carries_103 rfl ?_
      refine E_aload_n 3 0 dX11_carries_105 rfl rfl ?_
      refine E_gR 122 24 dX11_carries_106 FX11_65 ic_103 (by decide) ?_
      refine E_iload 1 dX11_carries_109 rfl ?_
      refine E_iaload dX11_carries_111 ic_122 v6_0.1 v6_0.2 ?_
      refine E_iastore dX11_carries_112 ic_122 v6_1.1 v6_1.2 ?_
      refine E_aload_n 3 0 dX11_carries_113 rfl rfl ?_
      refine E_gR 122 24 dX11_carries_114 FX11_65 ic_103 (by decide) ?_
      refine E_iload 1 dX11_carries_117 rfl ?_
      refine E_iload 0 dX11_carries_119 rfl ?_
      refine E_iastore dX11_carries_121 ic_122 v6_0.1 v6_0.2 ?_
      refine E_iinc 5 dX11_carries_122 rfl (rgI v6_2) (by decide) rfl ?_
      refine E_iinc 6 dX11_carries_125 rfl (rgI v6_3) (by decide) rfl ?_
      refine E_goto 34 dX11_carries_128 rfl ?_
      exact E_sub [5, 6, 1, 0] rfl hP
    · replace hP := hP.2 (by omega)
      obtain ⟨v7_0, hP⟩ := hP
      refine E_goto 125 dX11_carries_87 rfl ?_
      refine E_iinc 5 dX11_carries_125 rfl (rgI v7_0) (by decide) rfl ?_
      refine E_goto 34 dX11_carries_128 rfl ?_
      exact E_sub [3, 4, 5, 0] rfl hP
theorem sX11_carries_4 {Q : Int → Hp → Prop} {h : Hp} {l1 l2 l3 : Int}
    (hP : (ix l1 4) ∧
    ((l3 ≥ (h 104 l1)) →
     E 0 mX11_carries 34 [(0, vr 103), (1, vi l1), (2, vi l2), (3, vi 0)] [] h (qi Q)) ∧
    ((l3 < (h 104 l1)) →
     (ix l3 8 ∧ rj (l3 + 1)) ∧
     E 0 mX11_carries 4 [(0, vr 103), (1, vi l1), (2, vi l2), (3, vi (l3 + 1))] [] (up h 122 l3 (h 121 l3)) (qi Q))) :
    E 0 mX11_carries 4 [(0, vr 103), (1, vi l1), (2, vi l2), (3, vi l3)] [] h (qi Q) := by
  obtain ⟨v1_0, hP⟩ := hP
  refine E_iload_n 3 3 dX11_carries_4 rfl rfl ?_
  refine E_aload_n 0 0 dX11_carries_5 rfl rfl ?_
  refine E_gR 104 0 dX11_carries_6 FX11_9 ic_103 (by decide) ?_
  refine E_iload_n 1 1 dX11_carries_9 rfl rfl ?_
  refine E_iaload dX11_carries_10 ic_104 v1_0.1 v1_0.2 ?_
  refine E_icmp_ge 32 dX11_carries_11 rfl (fun hc => ?_) (fun hc => ?_)
  · replace hP := hP.1 (hc)
    refine E_iconst dX11_carries_32 (rg_of rfl) ?_
    refine E_istore_n dX11_carries_33 rfl (by decide) rfl ?_
    exact E_sub [1, 2, 3, 0] rfl hP
  · replace hP := hP.2 (by omega)
    obtain ⟨⟨v3_0, v3_1⟩, hP⟩ := hP
    refine E_aload_n 0 0 dX11_carries_14 rfl rfl ?_
    refine E_gR 122 24 dX11_carries_15 FX11_65 ic_103 (by decide) ?_
    refine E_iload_n 3 3 dX11_carries_18 rfl rfl ?_
    refine E_aload_n 0 0 dX11_carries_19 rfl rfl ?_
    refine E_gR 121 23 dX11_carries_20 FX11_62 ic_103 (by decide) ?_
    refine E_iload_n 3 3 dX11_carries_23 rfl rfl ?_
    refine E_iaload dX11_carries_24 ic_121 v3_0.1 v3_0.2 ?_
    refine E_iastore dX11_carries_25 ic_122 v3_0.1 v3_0.2 ?_
    refine E_iinc 3 dX11_carries_26 rfl (rgI v3_1) (by decide) rfl ?_
    refine E_goto 4 dX11_carries_29 rfl ?_
    exact E_sub [1, 2, 3, 0] rfl hP
theorem sX11_carries {Q : Int → Hp → Prop} {h : Hp} {l1 : Int}
    (hP : E 0 mX11_carries 4 [(0, vr 103), (1, vi l1), (2, vi 0), (3, vi 0)] [] h (qi Q)) :
    CI 0 mX11_carries [vr 103, vi l1] h Q := by
  refine CI_of_E fX11_carries.1 rfl (Nat.le_of_ble_eq_true rfl) ?_
  show E 0 mX11_carries 0 [(0, vr 103), (1, vi l1)] [] h (qi Q)
  refine E_iconst dX11_carries_0 (rg_of rfl) ?_
  refine E_istore_n dX11_carries_1 rfl (by decide) rfl ?_
  refine E_iconst dX11_carries_2 (rg_of rfl) ?_
  refine E_istore_n dX11_carries_3 rfl (by decide) rfl ?_
  exact E_sub [2, 3, 1, 0] rfl hP
theorem dX11_looks_0 : decode prog_13_method_45_code 0 = .ok (.aload_n 0, 1) := by decide +kernel
theorem dX11_looks_1 : decode prog_13_method_45_code 1 = .ok (.iconst 0, 1) := by decide +kernel
theorem dX11_looks_2 : decode prog_13_method_45_code 2 = .ok (.putfield 168, 3) := by decide +kernel
theorem dX11_looks_5 : decode prog_13_method_45_code 5 = .ok (.aload_n 0, 1) := by decide +kernel
theorem dX11_looks_6 : decode prog_13_method_45_code 6 = .ok (.bipush (-4), 2) := by decide +kernel
theorem dX11_looks_8 : decode prog_13_method_45_code 8 = .ok (.putfield 171, 3) := by decide +kernel
theorem dX11_looks_11 : decode prog_13_method_45_code 11 = .ok (.aload_n 0, 1) := by decide +kernel
theorem dX11_looks_12 : decode prog_13_method_45_code 12 = .ok (.iconst 0, 1) := by decide +kernel
theorem dX11_looks_13 : decode prog_13_method_45_code 13 = .ok (.putfield 174, 3) := by decide +kernel
theorem dX11_looks_16 : decode prog_13_method_45_code 16 = .ok (.aload_n 0, 1) := by decide +kernel
theorem dX11_looks_17 : decode prog_13_method_45_code 17 = .ok (.lconst 0, 1) := by decide +kernel
theorem dX11_looks_18 : decode prog_13_method_45_code 18 = .ok (.putfield 177, 3) := by decide +kernel
theorem dX11_looks_21 : decode prog_13_method_45_code 21 = .ok (.aload_n 0, 1) := by decide +kernel
theorem dX11_looks_22 : decode prog_13_method_45_code 22 = .ok (.invokevirtual 181, 3) := by decide +kernel
theorem dX11_looks_25 : decode prog_13_method_45_code 25 = .ok (.iconst 1, 1) := by decide +kernel
theorem dX11_looks_26 : decode prog_13_method_45_code 26 = .ok (.istore_n 2, 1) := by decide +kernel
theorem dX11_looks_27 : decode prog_13_method_45_code 27 = .ok (.iload_n 2, 1) := by decide +kernel
theorem dX11_looks_28 : decode prog_13_method_45_code 28 = .ok (.ifCond .eq 163, 3) := by decide +kernel
theorem dX11_looks_31 : decode prog_13_method_45_code 31 = .ok (.aload_n 0, 1) := by decide +kernel
theorem dX11_looks_32 : decode prog_13_method_45_code 32 = .ok (.iload_n 1, 1) := by decide +kernel
theorem dX11_looks_33 : decode prog_13_method_45_code 33 = .ok (.invokevirtual 184, 3) := by decide +kernel
theorem dX11_looks_36 : decode prog_13_method_45_code 36 = .ok (.istore_n 3, 1) := by decide +kernel
theorem dX11_looks_37 : decode prog_13_method_45_code 37 = .ok (.iconst 1, 1) := by decide +kernel
theorem dX11_looks_38 : decode prog_13_method_45_code 38 = .ok (.istore 4, 2) := by decide +kernel
theorem dX11_looks_40 : decode prog_13_method_45_code 40 = .ok (.iconst 0, 1) := by decide +kernel
theorem dX11_looks_41 : decode prog_13_method_45_code 41 = .ok (.istore 5, 2) := by decide +kernel
theorem dX11_looks_43 : decode prog_13_method_45_code 43 = .ok (.iconst 0, 1) := by decide +kernel
theorem dX11_looks_44 : decode prog_13_method_45_code 44 = .ok (.istore 6, 2) := by decide +kernel
theorem dX11_looks_46 : decode prog_13_method_45_code 46 = .ok (.iload 6, 2) := by decide +kernel
theorem dX11_looks_48 : decode prog_13_method_45_code 48 = .ok (.aload_n 0, 1) := by decide +kernel
theorem dX11_looks_49 : decode prog_13_method_45_code 49 = .ok (.getfield 9, 3) := by decide +kernel
theorem dX11_looks_52 : decode prog_13_method_45_code 52 = .ok (.iload_n 1, 1) := by decide +kernel
theorem dX11_looks_53 : decode prog_13_method_45_code 53 = .ok (.iaload, 1) := by decide +kernel
theorem dX11_looks_54 : decode prog_13_method_45_code 54 = .ok (.if_icmp .ge 46, 3) := by decide +kernel
theorem dX11_looks_57 : decode prog_13_method_45_code 57 = .ok (.iload 4, 2) := by decide +kernel
theorem dX11_looks_59 : decode prog_13_method_45_code 59 = .ok (.aload_n 0, 1) := by decide +kernel
theorem dX11_looks_60 : decode prog_13_method_45_code 60 = .ok (.getfield 65, 3) := by decide +kernel
theorem dX11_looks_63 : decode prog_13_method_45_code 63 = .ok (.iload 6, 2) := by decide +kernel
theorem dX11_looks_65 : decode prog_13_method_45_code 65 = .ok (.iaload, 1) := by decide +kernel
theorem dX11_looks_66 : decode prog_13_method_45_code 66 = .ok (.iload 6, 2) := by decide +kernel
theorem dX11_looks_68 : decode prog_13_method_45_code 68 = .ok (.if_icmp .ne 7, 3) := by decide +kernel
theorem dX11_looks_71 : decode prog_13_method_45_code 71 = .ok (.iconst 1, 1) := by decide +kernel
theorem dX11_looks_72 : decode prog_13_method_45_code 72 = .ok (.goto 4, 3) := by decide +kernel
theorem dX11_looks_75 : decode prog_13_method_45_code 75 = .ok (.iconst 0, 1) := by decide +kernel
theorem dX11_looks_76 : decode prog_13_method_45_code 76 = .ok (.iand, 1) := by decide +kernel
theorem dX11_looks_77 : decode prog_13_method_45_code 77 = .ok (.istore 4, 2) := by decide +kernel
theorem dX11_looks_79 : decode prog_13_method_45_code 79 = .ok (.bipush 10, 2) := by decide +kernel
theorem dX11_looks_81 : decode prog_13_method_45_code 81 = .ok (.iload 5, 2) := by decide +kernel
theorem dX11_looks_83 : decode prog_13_method_45_code 83 = .ok (.imul, 1) := by decide +kernel
theorem dX11_looks_84 : decode prog_13_method_45_code 84 = .ok (.aload_n 0, 1) := by decide +kernel
theorem dX11_looks_85 : decode prog_13_method_45_code 85 = .ok (.getfield 62, 3) := by decide +kernel
theorem dX11_looks_88 : decode prog_13_method_45_code 88 = .ok (.iload 6, 2) := by decide +kernel
theorem dX11_looks_90 : decode prog_13_method_45_code 90 = .ok (.iaload, 1) := by decide +kernel
theorem dX11_looks_91 : decode prog_13_method_45_code 91 = .ok (.iadd, 1) := by decide +kernel
theorem dX11_looks_92 : decode prog_13_method_45_code 92 = .ok (.istore 5, 2) := by decide +kernel
theorem dX11_looks_94 : decode prog_13_method_45_code 94 = .ok (.iinc 6 1, 3) := by decide +kernel
theorem dX11_looks_97 : decode prog_13_method_45_code 97 = .ok (.goto (-51), 3) := by decide +kernel
theorem dX11_looks_100 : decode prog_13_method_45_code 100 = .ok (.aload_n 0, 1) := by decide +kernel
theorem dX11_looks_101 : decode prog_13_method_45_code 101 = .ok (.dup, 1) := by decide +kernel
theorem dX11_looks_102 : decode prog_13_method_45_code 102 = .ok (.getfield 168, 3) := by decide +kernel
theorem dX11_looks_105 : decode prog_13_method_45_code 105 = .ok (.iload 4, 2) := by decide +kernel
theorem dX11_looks_107 : decode prog_13_method_45_code 107 = .ok (.ifCond .eq 7, 3) := by decide +kernel
theorem dX11_looks_110 : decode prog_13_method_45_code 110 = .ok (.iconst 1, 1) := by decide +kernel
theorem dX11_looks_111 : decode prog_13_method_45_code 111 = .ok (.goto 4, 3) := by decide +kernel
theorem dX11_looks_114 : decode prog_13_method_45_code 114 = .ok (.iconst 0, 1) := by decide +kernel
theorem dX11_looks_115 : decode prog_13_method_45_code 115 = .ok (.iadd, 1) := by decide +kernel
theorem dX11_looks_116 : decode prog_13_method_45_code 116 = .ok (.putfield 168, 3) := by decide +kernel
theorem dX11_looks_119 : decode prog_13_method_45_code 119 = .ok (.aload_n 0, 1) := by decide +kernel
theorem dX11_looks_120 : decode prog_13_method_45_code 120 = .ok (.iload 4, 2) := by decide +kernel
theorem dX11_looks_122 : decode prog_13_method_45_code 122 = .ok (.ifCond .ne 17, 3) := by decide +kernel
theorem dX11_looks_125 : decode prog_13_method_45_code 125 = .ok (.aload_n 0, 1) := by decide +kernel
theorem dX11_looks_126 : decode prog_13_method_45_code 126 = .ok (.getfield 171, 3) := by decide +kernel
theorem dX11_looks_129 : decode prog_13_method_45_code 129 = .ok (.bipush (-4), 2) := by decide +kernel
theorem dX11_looks_131 : decode prog_13_method_45_code 131 = .ok (.if_icmp .ne 8, 3) := by decide +kernel
theorem dX11_looks_134 : decode prog_13_method_45_code 134 = .ok (.iload 5, 2) := by decide +kernel
theorem dX11_looks_136 : decode prog_13_method_45_code 136 = .ok (.goto 7, 3) := by decide +kernel
theorem dX11_looks_139 : decode prog_13_method_45_code 139 = .ok (.aload_n 0, 1) := by decide +kernel
theorem dX11_looks_140 : decode prog_13_method_45_code 140 = .ok (.getfield 171, 3) := by decide +kernel
theorem dX11_looks_143 : decode prog_13_method_45_code 143 = .ok (.putfield 171, 3) := by decide +kernel
theorem dX11_looks_146 : decode prog_13_method_45_code 146 = .ok (.aload_n 0, 1) := by decide +kernel
theorem dX11_looks_147 : decode prog_13_method_45_code 147 = .ok (.dup, 1) := by decide +kernel
theorem dX11_looks_148 : decode prog_13_method_45_code 148 = .ok (.getfield 177, 3) := by decide +kernel
theorem dX11_looks_151 : decode prog_13_method_45_code 151 = .ok (.iload_n 3, 1) := by decide +kernel
theorem dX11_looks_152 : decode prog_13_method_45_code 152 = .ok (.i2l, 1) := by decide +kernel
theorem dX11_looks_153 : decode prog_13_method_45_code 153 = .ok (.ladd, 1) := by decide +kernel
theorem dX11_looks_154 : decode prog_13_method_45_code 154 = .ok (.putfield 177, 3) := by decide +kernel
theorem dX11_looks_157 : decode prog_13_method_45_code 157 = .ok (.aload_n 0, 1) := by decide +kernel
theorem dX11_looks_158 : decode prog_13_method_45_code 158 = .ok (.iload_n 3, 1) := by decide +kernel
theorem dX11_looks_159 : decode prog_13_method_45_code 159 = .ok (.aload_n 0, 1) := by decide +kernel
theorem dX11_looks_160 : decode prog_13_method_45_code 160 = .ok (.getfield 174, 3) := by decide +kernel
theorem dX11_looks_163 : decode prog_13_method_45_code 163 = .ok (.if_icmp .le 7, 3) := by decide +kernel
theorem dX11_looks_166 : decode prog_13_method_45_code 166 = .ok (.iload_n 3, 1) := by decide +kernel
theorem dX11_looks_167 : decode prog_13_method_45_code 167 = .ok (.goto 7, 3) := by decide +kernel
theorem dX11_looks_170 : decode prog_13_method_45_code 170 = .ok (.aload_n 0, 1) := by decide +kernel
theorem dX11_looks_171 : decode prog_13_method_45_code 171 = .ok (.getfield 174, 3) := by decide +kernel
theorem dX11_looks_174 : decode prog_13_method_45_code 174 = .ok (.putfield 174, 3) := by decide +kernel
theorem dX11_looks_177 : decode prog_13_method_45_code 177 = .ok (.aload_n 0, 1) := by decide +kernel
theorem dX11_looks_178 : decode prog_13_method_45_code 178 = .ok (.aload_n 0, 1) := by decide +kernel
theorem dX11_looks_179 : decode prog_13_method_45_code 179 = .ok (.getfield 9, 3) := by decide +kernel
theorem dX11_looks_182 : decode prog_13_method_45_code 182 = .ok (.iload_n 1, 1) := by decide +kernel
theorem dX11_looks_183 : decode prog_13_method_45_code 183 = .ok (.iaload, 1) := by decide +kernel
theorem dX11_looks_184 : decode prog_13_method_45_code 184 = .ok (.invokevirtual 187, 3) := by decide +kernel
theorem dX11_looks_187 : decode prog_13_method_45_code 187 = .ok (.istore_n 2, 1) := by decide +kernel
theorem dX11_looks_188 : decode prog_13_method_45_code 188 = .ok (.goto (-161), 3) := by decide +kernel
theorem dX11_looks_191 : decode prog_13_method_45_code 191 = .ok (.return_, 1) := by decide +kernel
theorem sX11_looks_100 {Q : Hp → Prop} {h : Hp} {l1 l3 l4 l5 : Int}
    (hP : (rj ((h 103 25) + (if l4 ≠ 0 then (1 : Int) else 0))) ∧
    (ix l1 4) ∧
    CI 1 mX11_isNext [vr 103, vi (h 104 l1)] (up (up (up (up h 103 25 ((h 103 25) + (if l4 ≠ 0 then (1 : Int) else 0))) 103 26 (if l4 ≠ 0 then (h 103 26) else (if (h 103 26) ≠ (-4) then (h 103 26) else l5))) 103 28 (j_ladd (h 103 28) l3)) 103 27 (if l3 ≤ (h 103 27) then (h 103 27) else l3)) (fun r6 h5 =>
     E 2 mX11_looks 27 [(0, vr 103), (1, vi l1), (2, vi r6)] [] h5 (qv Q))) :
    E 2 mX11_looks 100 [(0, vr 103), (1, vi l1), (3, vi l3), (4, vi l4), (5, vi l5)] [] h (qv Q) := by
  refine E_aload_n 0 0 dX11_looks_100 rfl rfl ?_
  refine E_dup dX11_looks_101 rfl ?_
  refine E_gI 25 25 dX11_looks_102 FX11_168 ic_103 rfl ?_
  refine E_iload 3 dX11_looks_105 rfl ?_
  have hJ : E 2 mX11_looks 115 [(0, vr 103), (1, vi l1), (3, vi l3), (4, vi l4), (5, vi l5)] [vi (if l4 ≠ 0 then (1 : Int) else 0), vi (h 103 25), vr 103] h (qv Q) := by
    obtain ⟨v2_0, hP⟩ := hP
    refine E_iadd dX11_looks_115 (rgI v2_0) ?_
    refine E_pI 25 25 dX11_looks_116 PX11_168 ic_103 rfl ?_
    refine E_aload_n 0 0 dX11_looks_119 rfl rfl ?_
    refine E_iload 3 dX11_looks_120 rfl ?_
    have hJ : E 2 mX11_looks 143 [(0, vr 103), (1, vi l1), (3, vi l3), (4, vi l4), (5, vi l5)] [vi (if l4 ≠ 0 then (h 103 26) else (if (h 103 26) ≠ (-4) then (h 103 26) else l5)), vr 103] (up h 103 25 ((h 103 25) + (if l4 ≠ 0 then (1 : Int) else 0))) (qv Q) := by
      refine E_pI 26 26 dX11_looks_143 PX11_171 ic_103 rfl ?_
      refine E_aload_n 0 0 dX11_looks_146 rfl rfl ?_
      refine E_dup dX11_looks_147 rfl ?_
      refine E_gL 28 28 dX11_looks_148 FX11_177 ic_103 rfl ?_
      refine E_iload_n 2 3 dX11_looks_151 rfl rfl ?_
      refine E_i2l dX11_looks_152 ?_
      refine E_ladd dX11_looks_153 ?_
      refine E_pL 28 28 dX11_looks_154 PX11_177 ic_103 rfl ?_
      refine E_aload_n 0 0 dX11_looks_157 rfl rfl ?_
      refine E_iload_n 2 3 dX11_looks_158 rfl rfl ?_
      refine E_aload_n 0 0 dX11_looks_159 rfl rfl ?_
      refine E_gI 27 27 dX11_looks_160 FX11_174 ic_103 rfl ?_
      refine E_top (y := (h 103 27)) (by simp [up]) ?_
      have hJ : E 2 mX11_looks 174 [(0, vr 103), (1, vi l1), (3, vi l3), (4, vi l4), (5, vi l5)] [vi (if l3 ≤ (h 103 27) then (h 103 27) else l3), vr 103] (up (up (up h 103 25 ((h 103 25) + (if l4 ≠ 0 then (1 : Int) else 0))) 103 26 (if l4 ≠ 0 then (h 103 26) else (if (h 103 26) ≠ (-4) then (h 103 26) else l5))) 103 28 (j_ladd (h 103 28) l3)) (qv Q) := by
        obtain ⟨v4_0, hP⟩ := hP
        refine E_pI 27 27 dX11_looks_174 PX11_174 ic_103 rfl ?_
        refine E_aload_n 0 0 dX11_looks_177 rfl rfl ?_
        refine E_aload_n 0 0 dX11_looks_178 rfl rfl ?_
        refine E_gR 104 0 dX11_looks_179 FX11_9 ic_103 (by decide) ?_
        refine E_iload_n 1 1 dX11_looks_182 rfl rfl ?_
        refine E_iaload dX11_looks_183 ic_104 v4_0.1 v4_0.2 ?_
        refine E_top (y := (h 104 l1)) (by simp [up]) ?_
        refine E_invVI [vi (h 104 l1)] dX11_looks_184 fX11_isNext lX11_187 ic_103 rfl (by decide) rfl rfl (Nat.le_of_ble_eq_true rfl) (CI_mono hP (fun r6 h5 hP => ?_))
        refine E_istore_n dX11_looks_187 rfl (by decide) rfl ?_
        refine E_goto 27 dX11_looks_188 rfl ?_
        exact E_sub [1, 2, 0] rfl hP
      refine E_icmp_le 170 dX11_looks_163 rfl (fun hc => ?_) (fun hc => ?_)
      · have hp163 := (hc : l3 ≤ (h 103 27))
        refine E_aload_n 0 0 dX11_looks_170 rfl rfl ?_
        refine E_gI 27 27 dX11_looks_171 FX11_174 ic_103 rfl ?_
        refine E_top (y := (h 103 27)) (by simp [up]) ?_
        exact E_top (by first | exact (if_pos (by omega)).symm | exact (if_neg (by omega)).symm | (repeat first | rw [if_pos (by omega)] | rw [if_neg (by omega)])) hJ
      · have hp163 := (by omega : l3 > (h 103 27))
        refine E_iload_n 2 3 dX11_looks_166 rfl rfl ?_
        refine E_goto 174 dX11_looks_167 rfl ?_
        exact E_top (by first | exact (if_pos (by omega)).symm | exact (if_neg (by omega)).symm | (repeat first | rw [if_pos (by omega)] | rw [if_neg (by omega)])) hJ
    refine E_if_ne 139 dX11_looks_122 rfl (fun hc => ?_) (fun hc => ?_)
    · have hp122 := (hc : l4 ≠ 0)
      refine E_aload_n 0 0 dX11_looks_139 rfl rfl ?_
      refine E_gI 26 26 dX11_looks_140 FX11_171 ic_103 rfl ?_
      refine E_top (y := (h 103 26)) (by simp [up]) ?_
      exact E_top (by first | exact (if_pos (by omega)).symm | exact (if_neg (by omega)).symm | (repeat first | rw [if_pos (by omega)] | rw [if_neg (by omega)])) hJ
    · have hp122 := (by omega : l4 = 0)
      refine E_aload_n 0 0 dX11_looks_125 rfl rfl ?_
      refine E_gI 26 26 dX11_looks_126 FX11_171 ic_103 rfl ?_
      refine E_top (y := (h 103 26)) (by simp [up]) ?_
      refine E_bipush dX11_looks_129 (by decide) ?_
      refine E_icmp_ne 139 dX11_looks_131 rfl (fun hc => ?_) (fun hc => ?_)
      · have hp131 := (hc : (h 103 26) ≠ (-4))
        refine E_aload_n 0 0 dX11_looks_139 rfl rfl ?_
        refine E_gI 26 26 dX11_looks_140 FX11_171 ic_103 rfl ?_
        refine E_top (y := (h 103 26)) (by simp [up]) ?_
        exact E_top (by first | exact (if_pos (by omega)).symm | exact (if_neg (by omega)).symm | (repeat first | rw [if_pos (by omega)] | rw [if_neg (by omega)])) hJ
      · have hp131 := (by omega : (h 103 26) = (-4))
        refine E_iload 4 dX11_looks_134 rfl ?_
        refine E_goto 143 dX11_looks_136 rfl ?_
        exact E_top (by first | exact (if_pos (by omega)).symm | exact (if_neg (by omega)).symm | (repeat first | rw [if_pos (by omega)] | rw [if_neg (by omega)])) hJ
  refine E_if_eq 114 dX11_looks_107 rfl (fun hc => ?_) (fun hc => ?_)
  · have hp107 := (hc : l4 = 0)
    refine E_iconst dX11_looks_114 (rg_of rfl) ?_
    exact E_top (if_neg (by omega)).symm hJ
  · have hp107 := (by omega : l4 ≠ 0)
    refine E_iconst dX11_looks_110 (rg_of rfl) ?_
    refine E_goto 115 dX11_looks_111 rfl ?_
    exact E_top (if_pos (by omega)).symm hJ
theorem sX11_looks_46 {Q : Hp → Prop} {h : Hp} {l1 l3 l4 l5 l6 : Int}
    (hP : (ix l1 4) ∧
    ((l6 ≥ (h 104 l1)) →
     E 2 mX11_looks 100 [(0, vr 103), (1, vi l1), (3, vi l3), (4, vi l4), (5, vi l5)] [] h (qv Q)) ∧
    ((l6 < (h 104 l1)) →
     (ix l6 8) ∧
     (∀ x5 : Int, x5 = (j_iand l4 (if (h 122 l6) = l6 then (1 : Int) else 0)) →
     (rj (10 * l5) ∧ ix l6 8 ∧ rj ((10 * l5) + (h 121 l6)) ∧ rj (l6 + 1)) ∧
     E 2 mX11_looks 46 [(0, vr 103), (1, vi l1), (3, vi l3), (4, vi x5), (5, vi ((10 * l5) + (h 121 l6))), (6, vi (l6 + 1))] [] h (qv Q)))) :
    E 2 mX11_looks 46 [(0, vr 103), (1, vi l1), (3, vi l3), (4, vi l4), (5, vi l5), (6, vi l6)] [] h (qv Q) := by
  obtain ⟨v1_0, hP⟩ := hP
  refine E_iload 5 dX11_looks_46 rfl ?_
  refine E_aload_n 0 0 dX11_looks_48 rfl rfl ?_
  refine E_gR 104 0 dX11_looks_49 FX11_9 ic_103 (by decide) ?_
  refine E_iload_n 1 1 dX11_looks_52 rfl rfl ?_
  refine E_iaload dX11_looks_53 ic_104 v1_0.1 v1_0.2 ?_
  refine E_icmp_ge 100 dX11_looks_54 rfl (fun hc => ?_) (fun hc => ?_)
  · replace hP := hP.1 (hc)
    exact E_sub [0, 1, 2, 3, 4] rfl hP
  · replace hP := hP.2 (by omega)
    obtain ⟨v3_0, hP⟩ := hP
    refine E_iload 3 dX11_looks_57 rfl ?_
    refine E_aload_n 0 0 dX11_looks_59 rfl rfl ?_
    refine E_gR 122 24 dX11_looks_60 FX11_65 ic_103 (by decide) ?_
    refine E_iload 5 dX11_looks_63 rfl ?_
    refine E_iaload dX11_looks_65 ic_122 v3_0.1 v3_0.2 ?_
    refine E_iload 5 dX11_looks_66 rfl ?_
    have hJ : E 2 mX11_looks 76 [(0, vr 103), (1, vi l1), (3, vi l3), (4, vi l4), (5, vi l5), (6, vi l6)] [vi (if (h 122 l6) = l6 then (1 : Int) else 0), vi l4] h (qv Q) := by
      refine E_iand dX11_looks_76 ?_
      obtain ⟨x5, hx5⟩ : ∃ x : Int, x = (j_iand l4 (if (h 122 l6) = l6 then (1 : Int) else 0)) := ⟨_, rfl⟩
      refine E_top hx5.symm ?_
      replace hP := hP x5 hx5
      refine E_istore dX11_looks_77 (by decide) rfl ?_
      obtain ⟨⟨v6_0, v6_1, v6_2, v6_3⟩, hP⟩ := hP
      refine E_bipush dX11_looks_79 (by decide) ?_
      refine E_iload 4 dX11_looks_81 rfl ?_
      refine E_imul dX11_looks_83 (rgI v6_0) ?_
      refine E_aload_n 1 0 dX11_looks_84 rfl rfl ?_
      refine E_gR 121 23 dX11_looks_85 FX11_62 ic_103 (by decide) ?_
      refine E_iload 5 dX11_looks_88 rfl ?_
      refine E_iaload dX11_looks_90 ic_121 v6_1.1 v6_1.2 ?_
      refine E_iadd dX11_looks_91 (rgI v6_2) ?_
      refine E_istore dX11_looks_92 (by decide) rfl ?_
      refine E_iinc 5 dX11_looks_94 rfl (rgI v6_3) (by decide) rfl ?_
      refine E_goto 46 dX11_looks_97 rfl ?_
      exact E_sub [3, 4, 5, 2, 1, 0] rfl hP
    refine E_icmp_ne 75 dX11_looks_68 rfl (fun hc => ?_) (fun hc => ?_)
    · have hp68 := (hc : (h 122 l6) ≠ l6)
      refine E_iconst dX11_looks_75 (rg_of rfl) ?_
      exact E_top (if_neg (by omega)).symm hJ
    · have hp68 := (by omega : (h 122 l6) = l6)
      refine E_iconst dX11_looks_71 (rg_of rfl) ?_
      refine E_goto 76 dX11_looks_72 rfl ?_
      exact E_top (if_pos (by omega)).symm hJ
theorem sX11_looks_27 {Q : Hp → Prop} {h : Hp} {l1 l2 : Int}
    (hP : ((l2 = 0) →
     Q h) ∧
    ((l2 ≠ 0) →
     CI 0 mX11_carries [vr 103, vi l1] h (fun r5 h4 =>
      E 2 mX11_looks 46 [(0, vr 103), (1, vi l1), (3, vi r5), (4, vi 1), (5, vi 0), (6, vi 0)] [] h4 (qv Q)))) :
    E 2 mX11_looks 27 [(0, vr 103), (1, vi l1), (2, vi l2)] [] h (qv Q) := by
  refine E_iload_n 2 2 dX11_looks_27 rfl rfl ?_
  refine E_if_eq 191 dX11_looks_28 rfl (fun hc => ?_) (fun hc => ?_)
  · replace hP := hP.1 (hc)
    exact E_retV dX11_looks_191 rfl hP
  · replace hP := hP.2 (by omega)
    refine E_aload_n 0 0 dX11_looks_31 rfl rfl ?_
    refine E_iload_n 1 1 dX11_looks_32 rfl rfl ?_
    refine E_invVI [vi l1] dX11_looks_33 fX11_carries lX11_184 ic_103 rfl (by decide) rfl rfl (Nat.le_of_ble_eq_true rfl) (CI_mono hP (fun r5 h4 hP => ?_))
    refine E_istore_n dX11_looks_36 rfl (by decide) rfl ?_
    refine E_iconst dX11_looks_37 (rg_of rfl) ?_
    refine E_istore dX11_looks_38 (by decide) rfl ?_
    refine E_iconst dX11_looks_40 (rg_of rfl) ?_
    refine E_istore dX11_looks_41 (by decide) rfl ?_
    refine E_iconst dX11_looks_43 (rg_of rfl) ?_
    refine E_istore dX11_looks_44 (by decide) rfl ?_
    exact E_sub [4, 5, 3, 2, 1, 0] rfl hP
theorem sX11_looks {Q : Hp → Prop} {h : Hp} {l1 : Int}
    (hP : CV 0 mX11_begins [vr 103] (up (up (up (up h 103 25 0) 103 26 (-4)) 103 27 0) 103 28 0) (fun h2 =>
     E 2 mX11_looks 27 [(0, vr 103), (1, vi l1), (2, vi 1)] [] h2 (qv Q))) :
    CV 2 mX11_looks [vr 103, vi l1] h Q := by
  refine CV_of_E fX11_looks.1 rfl (Nat.le_of_ble_eq_true rfl) ?_
  show E 2 mX11_looks 0 [(0, vr 103), (1, vi l1)] [] h (qv Q)
  refine E_aload_n 0 0 dX11_looks_0 rfl rfl ?_
  refine E_iconst dX11_looks_1 (rg_of rfl) ?_
  refine E_pI 25 25 dX11_looks_2 PX11_168 ic_103 rfl ?_
  refine E_aload_n 0 0 dX11_looks_5 rfl rfl ?_
  refine E_bipush dX11_looks_6 (by decide) ?_
  refine E_pI 26 26 dX11_looks_8 PX11_171 ic_103 rfl ?_
  refine E_aload_n 0 0 dX11_looks_11 rfl rfl ?_
  refine E_iconst dX11_looks_12 (rg_of rfl) ?_
  refine E_pI 27 27 dX11_looks_13 PX11_174 ic_103 rfl ?_
  refine E_aload_n 0 0 dX11_looks_16 rfl rfl ?_
  refine E_lc 0 dX11_looks_17 rfl ?_
  refine E_pL 28 28 dX11_looks_18 PX11_177 ic_103 rfl ?_
  refine E_aload_n 0 0 dX11_looks_21 rfl rfl ?_
  refine E_invVV [] dX11_looks_22 fX11_begins lX11_181 ic_103 rfl (by decide) rfl rfl (Nat.le_of_ble_eq_true rfl) (CV_mono hP (fun h2 hP => ?_))
  refine E_iconst dX11_looks_25 (rg_of rfl) ?_
  refine E_istore_n dX11_looks_26 rfl (by decide) rfl ?_
  exact E_sub [1, 2, 0] rfl hP
theorem dX11_countSorted_0 : decode prog_13_method_46_code 0 = .ok (.iload_n 1, 1) := by decide +kernel
theorem dX11_countSorted_1 : decode prog_13_method_46_code 1 = .ok (.invokestatic 88, 3) := by decide +kernel
theorem dX11_countSorted_4 : decode prog_13_method_46_code 4 = .ok (.ifCond .ne 5, 3) := by decide +kernel
theorem dX11_countSorted_7 : decode prog_13_method_46_code 7 = .ok (.iconst (-1), 1) := by decide +kernel
theorem dX11_countSorted_8 : decode prog_13_method_46_code 8 = .ok (.ireturn, 1) := by decide +kernel
theorem dX11_countSorted_9 : decode prog_13_method_46_code 9 = .ok (.aload_n 0, 1) := by decide +kernel
theorem dX11_countSorted_10 : decode prog_13_method_46_code 10 = .ok (.iload_n 1, 1) := by decide +kernel
theorem dX11_countSorted_11 : decode prog_13_method_46_code 11 = .ok (.invokevirtual 190, 3) := by decide +kernel
theorem dX11_countSorted_14 : decode prog_13_method_46_code 14 = .ok (.aload_n 0, 1) := by decide +kernel
theorem dX11_countSorted_15 : decode prog_13_method_46_code 15 = .ok (.getfield 168, 3) := by decide +kernel
theorem dX11_countSorted_18 : decode prog_13_method_46_code 18 = .ok (.ireturn, 1) := by decide +kernel
theorem sX11_countSorted {Q : Int → Hp → Prop} {h : Hp} {l1 : Int}
    (hP : ((l1 ≥ 0 ∧ l1 ≤ 3) →
     CV 2 mX11_looks [vr 103, vi l1] h (fun h3 =>
      Q (h3 103 25) h3)) ∧
    ((l1 < 0 ∨ l1 > 3) →
     Q (-1) h)) :
    CI 3 mX11_countSorted [vr 103, vi l1] h Q := by
  refine CI_of_E fX11_countSorted.1 rfl (Nat.le_of_ble_eq_true rfl) ?_
  show E 3 mX11_countSorted 0 [(0, vr 103), (1, vi l1)] [] h (qi Q)
  refine E_iload_n 1 1 dX11_countSorted_0 rfl rfl ?_
  refine E_invSI [vi l1] dX11_countSorted_1 fX11_isNet lX11_88 (by decide) rfl rfl (Nat.le_of_ble_eq_true rfl) (sX11_isNet (h := h) (l0 := l1) ?_)
  refine E_if_ne 9 dX11_countSorted_4 rfl (fun hc => ?_) (fun hc => ?_)
  · replace hP := hP.1 (by have := ite1' hc; omega)
    refine E_aload_n 0 0 dX11_countSorted_9 rfl rfl ?_
    refine E_iload_n 1 1 dX11_countSorted_10 rfl rfl ?_
    refine E_invVV [vi l1] dX11_countSorted_11 fX11_looks lX11_190 ic_103 rfl (by decide) rfl rfl (Nat.le_of_ble_eq_true rfl) (CV_mono hP (fun h3 hP => ?_))
    refine E_aload_n 0 0 dX11_countSorted_14 rfl rfl ?_
    refine E_gI 25 25 dX11_countSorted_15 FX11_168 ic_103 rfl ?_
    exact E_retI dX11_countSorted_18 rfl hP
  · replace hP := hP.2 (by have := ite0 hc; omega)
    refine E_iconst dX11_countSorted_7 (rg_of rfl) ?_
    exact E_retI dX11_countSorted_8 rfl hP
theorem dX11_firstUnsorted_0 : decode prog_13_method_47_code 0 = .ok (.iload_n 1, 1) := by decide +kernel
theorem dX11_firstUnsorted_1 : decode prog_13_method_47_code 1 = .ok (.invokestatic 88, 3) := by decide +kernel
theorem dX11_firstUnsorted_4 : decode prog_13_method_47_code 4 = .ok (.ifCond .ne 5, 3) := by decide +kernel
theorem dX11_firstUnsorted_7 : decode prog_13_method_47_code 7 = .ok (.iconst (-1), 1) := by decide +kernel
theorem dX11_firstUnsorted_8 : decode prog_13_method_47_code 8 = .ok (.ireturn, 1) := by decide +kernel
theorem dX11_firstUnsorted_9 : decode prog_13_method_47_code 9 = .ok (.aload_n 0, 1) := by decide +kernel
theorem dX11_firstUnsorted_10 : decode prog_13_method_47_code 10 = .ok (.iload_n 1, 1) := by decide +kernel
theorem dX11_firstUnsorted_11 : decode prog_13_method_47_code 11 = .ok (.invokevirtual 190, 3) := by decide +kernel
theorem dX11_firstUnsorted_14 : decode prog_13_method_47_code 14 = .ok (.aload_n 0, 1) := by decide +kernel
theorem dX11_firstUnsorted_15 : decode prog_13_method_47_code 15 = .ok (.getfield 171, 3) := by decide +kernel
theorem dX11_firstUnsorted_18 : decode prog_13_method_47_code 18 = .ok (.ireturn, 1) := by decide +kernel
theorem sX11_firstUnsorted {Q : Int → Hp → Prop} {h : Hp} {l1 : Int}
    (hP : ((l1 ≥ 0 ∧ l1 ≤ 3) →
     CV 2 mX11_looks [vr 103, vi l1] h (fun h3 =>
      Q (h3 103 26) h3)) ∧
    ((l1 < 0 ∨ l1 > 3) →
     Q (-1) h)) :
    CI 3 mX11_firstUnsorted [vr 103, vi l1] h Q := by
  refine CI_of_E fX11_firstUnsorted.1 rfl (Nat.le_of_ble_eq_true rfl) ?_
  show E 3 mX11_firstUnsorted 0 [(0, vr 103), (1, vi l1)] [] h (qi Q)
  refine E_iload_n 1 1 dX11_firstUnsorted_0 rfl rfl ?_
  refine E_invSI [vi l1] dX11_firstUnsorted_1 fX11_isNet lX11_88 (by decide) rfl rfl (Nat.le_of_ble_eq_true rfl) (sX11_isNet (h := h) (l0 := l1) ?_)
  refine E_if_ne 9 dX11_firstUnsorted_4 rfl (fun hc => ?_) (fun hc => ?_)
  · replace hP := hP.1 (by have := ite1' hc; omega)
    refine E_aload_n 0 0 dX11_firstUnsorted_9 rfl rfl ?_
    refine E_iload_n 1 1 dX11_firstUnsorted_10 rfl rfl ?_
    refine E_invVV [vi l1] dX11_firstUnsorted_11 fX11_looks lX11_190 ic_103 rfl (by decide) rfl rfl (Nat.le_of_ble_eq_true rfl) (CV_mono hP (fun h3 hP => ?_))
    refine E_aload_n 0 0 dX11_firstUnsorted_14 rfl rfl ?_
    refine E_gI 26 26 dX11_firstUnsorted_15 FX11_171 ic_103 rfl ?_
    exact E_retI dX11_firstUnsorted_18 rfl hP
  · replace hP := hP.2 (by have := ite0 hc; omega)
    refine E_iconst dX11_firstUnsorted_7 (rg_of rfl) ?_
    exact E_retI dX11_firstUnsorted_8 rfl hP
theorem dX11_totalExchanges_0 : decode prog_13_method_48_code 0 = .ok (.iload_n 1, 1) := by decide +kernel
theorem dX11_totalExchanges_1 : decode prog_13_method_48_code 1 = .ok (.invokestatic 88, 3) := by decide +kernel
theorem dX11_totalExchanges_4 : decode prog_13_method_48_code 4 = .ok (.ifCond .ne 7, 3) := by decide +kernel
theorem dX11_totalExchanges_7 : decode prog_13_method_48_code 7 = .ok (.ldc2_w 193, 3) := by decide +kernel
theorem dX11_totalExchanges_10 : decode prog_13_method_48_code 10 = .ok (.lreturn, 1) := by decide +kernel
theorem dX11_totalExchanges_11 : decode prog_13_method_48_code 11 = .ok (.aload_n 0, 1) := by decide +kernel
theorem dX11_totalExchanges_12 : decode prog_13_method_48_code 12 = .ok (.iload_n 1, 1) := by decide +kernel
theorem dX11_totalExchanges_13 : decode prog_13_method_48_code 13 = .ok (.invokevirtual 190, 3) := by decide +kernel
theorem dX11_totalExchanges_16 : decode prog_13_method_48_code 16 = .ok (.aload_n 0, 1) := by decide +kernel
theorem dX11_totalExchanges_17 : decode prog_13_method_48_code 17 = .ok (.getfield 177, 3) := by decide +kernel
theorem dX11_totalExchanges_20 : decode prog_13_method_48_code 20 = .ok (.lreturn, 1) := by decide +kernel
theorem sX11_totalExchanges {Q : Int → Hp → Prop} {h : Hp} {l1 : Int}
    (hP : ((l1 ≥ 0 ∧ l1 ≤ 3) →
     CV 2 mX11_looks [vr 103, vi l1] h (fun h3 =>
      Q (h3 103 28) h3)) ∧
    ((l1 < 0 ∨ l1 > 3) →
     Q (-1) h)) :
    CL 3 mX11_totalExchanges [vr 103, vi l1] h Q := by
  refine CL_of_E fX11_totalExchanges.1 rfl (Nat.le_of_ble_eq_true rfl) ?_
  show E 3 mX11_totalExchanges 0 [(0, vr 103), (1, vi l1)] [] h (ql Q)
  refine E_iload_n 1 1 dX11_totalExchanges_0 rfl rfl ?_
  refine E_invSI [vi l1] dX11_totalExchanges_1 fX11_isNet lX11_88 (by decide) rfl rfl (Nat.le_of_ble_eq_true rfl) (sX11_isNet (h := h) (l0 := l1) ?_)
  refine E_if_ne 11 dX11_totalExchanges_4 rfl (fun hc => ?_) (fun hc => ?_)
  · replace hP := hP.1 (by have := ite1' hc; omega)
    refine E_aload_n 0 0 dX11_totalExchanges_11 rfl rfl ?_
    refine E_iload_n 1 1 dX11_totalExchanges_12 rfl rfl ?_
    refine E_invVV [vi l1] dX11_totalExchanges_13 fX11_looks lX11_190 ic_103 rfl (by decide) rfl rfl (Nat.le_of_ble_eq_true rfl) (CV_mono hP (fun h3 hP => ?_))
    refine E_aload_n 0 0 dX11_totalExchanges_16 rfl rfl ?_
    refine E_gL 28 28 dX11_totalExchanges_17 FX11_177 ic_103 rfl ?_
    exact E_retL dX11_totalExchanges_20 rfl hP
  · replace hP := hP.2 (by have := ite0 hc; omega)
    refine E_ldc2 (z := (-1)) dX11_totalExchanges_7 kX11_193 (by decide) ?_
    exact E_retL dX11_totalExchanges_10 rfl hP
theorem dX11_mostExchanges_0 : decode prog_13_method_49_code 0 = .ok (.iload_n 1, 1) := by decide +kernel
theorem dX11_mostExchanges_1 : decode prog_13_method_49_code 1 = .ok (.invokestatic 88, 3) := by decide +kernel
theorem dX11_mostExchanges_4 : decode prog_13_method_49_code 4 = .ok (.ifCond .ne 5, 3) := by decide +kernel
theorem dX11_mostExchanges_7 : decode prog_13_method_49_code 7 = .ok (.iconst (-1), 1) := by decide +kernel
theorem dX11_mostExchanges_8 : decode prog_13_method_49_code 8 = .ok (.ireturn, 1) := by decide +kernel
theorem dX11_mostExchanges_9 : decode prog_13_method_49_code 9 = .ok (.aload_n 0, 1) := by decide +kernel
theorem dX11_mostExchanges_10 : decode prog_13_method_49_code 10 = .ok (.iload_n 1, 1) := by decide +kernel
theorem dX11_mostExchanges_11 : decode prog_13_method_49_code 11 = .ok (.invokevirtual 190, 3) := by decide +kernel
theorem dX11_mostExchanges_14 : decode prog_13_method_49_code 14 = .ok (.aload_n 0, 1) := by decide +kernel
theorem dX11_mostExchanges_15 : decode prog_13_method_49_code 15 = .ok (.getfield 174, 3) := by decide +kernel
theorem dX11_mostExchanges_18 : decode prog_13_method_49_code 18 = .ok (.ireturn, 1) := by decide +kernel
theorem sX11_mostExchanges {Q : Int → Hp → Prop} {h : Hp} {l1 : Int}
    (hP : ((l1 ≥ 0 ∧ l1 ≤ 3) →
     CV 2 mX11_looks [vr 103, vi l1] h (fun h3 =>
      Q (h3 103 27) h3)) ∧
    ((l1 < 0 ∨ l1 > 3) →
     Q (-1) h)) :
    CI 3 mX11_mostExchanges [vr 103, vi l1] h Q := by
  refine CI_of_E fX11_mostExchanges.1 rfl (Nat.le_of_ble_eq_true rfl) ?_
  show E 3 mX11_mostExchanges 0 [(0, vr 103), (1, vi l1)] [] h (qi Q)
  refine E_iload_n 1 1 dX11_mostExchanges_0 rfl rfl ?_
  refine E_invSI [vi l1] dX11_mostExchanges_1 fX11_isNet lX11_88 (by decide) rfl rfl (Nat.le_of_ble_eq_true rfl) (sX11_isNet (h := h) (l0 := l1) ?_)
  refine E_if_ne 9 dX11_mostExchanges_4 rfl (fun hc => ?_) (fun hc => ?_)
  · replace hP := hP.1 (by have := ite1' hc; omega)
    refine E_aload_n 0 0 dX11_mostExchanges_9 rfl rfl ?_
    refine E_iload_n 1 1 dX11_mostExchanges_10 rfl rfl ?_
    refine E_invVV [vi l1] dX11_mostExchanges_11 fX11_looks lX11_190 ic_103 rfl (by decide) rfl rfl (Nat.le_of_ble_eq_true rfl) (CV_mono hP (fun h3 hP => ?_))
    refine E_aload_n 0 0 dX11_mostExchanges_14 rfl rfl ?_
    refine E_gI 27 27 dX11_mostExchanges_15 FX11_174 ic_103 rfl ?_
    exact E_retI dX11_mostExchanges_18 rfl hP
  · replace hP := hP.2 (by have := ite0 hc; omega)
    refine E_iconst dX11_mostExchanges_7 (rg_of rfl) ?_
    exact E_retI dX11_mostExchanges_8 rfl hP
theorem dX11_isIdle_0 : decode prog_13_method_50_code 0 = .ok (.iconst 0, 1) := by decide +kernel
theorem dX11_isIdle_1 : decode prog_13_method_50_code 1 = .ok (.istore_n 3, 1) := by decide +kernel
theorem dX11_isIdle_2 : decode prog_13_method_50_code 2 = .ok (.iload_n 3, 1) := by decide +kernel
theorem dX11_isIdle_3 : decode prog_13_method_50_code 3 = .ok (.iconst 1, 1) := by decide +kernel
theorem dX11_isIdle_4 : decode prog_13_method_50_code 4 = .ok (.aload_n 0, 1) := by decide +kernel
theorem dX11_isIdle_5 : decode prog_13_method_50_code 5 = .ok (.getfield 9, 3) := by decide +kernel
theorem dX11_isIdle_8 : decode prog_13_method_50_code 8 = .ok (.iload_n 1, 1) := by decide +kernel
theorem dX11_isIdle_9 : decode prog_13_method_50_code 9 = .ok (.iaload, 1) := by decide +kernel
theorem dX11_isIdle_10 : decode prog_13_method_50_code 10 = .ok (.ishl, 1) := by decide +kernel
theorem dX11_isIdle_11 : decode prog_13_method_50_code 11 = .ok (.if_icmp .ge 97, 3) := by decide +kernel
theorem dX11_isIdle_14 : decode prog_13_method_50_code 14 = .ok (.iload_n 3, 1) := by decide +kernel
theorem dX11_isIdle_15 : decode prog_13_method_50_code 15 = .ok (.istore 4, 2) := by decide +kernel
theorem dX11_isIdle_17 : decode prog_13_method_50_code 17 = .ok (.iconst 0, 1) := by decide +kernel
theorem dX11_isIdle_18 : decode prog_13_method_50_code 18 = .ok (.istore 5, 2) := by decide +kernel
theorem dX11_isIdle_20 : decode prog_13_method_50_code 20 = .ok (.iload 5, 2) := by decide +kernel
theorem dX11_isIdle_22 : decode prog_13_method_50_code 22 = .ok (.iload_n 2, 1) := by decide +kernel
theorem dX11_isIdle_23 : decode prog_13_method_50_code 23 = .ok (.if_icmp .gt 79, 3) := by decide +kernel
theorem dX11_isIdle_26 : decode prog_13_method_50_code 26 = .ok (.aload_n 0, 1) := by decide +kernel
theorem dX11_isIdle_27 : decode prog_13_method_50_code 27 = .ok (.getfield 16, 3) := by decide +kernel
theorem dX11_isIdle_30 : decode prog_13_method_50_code 30 = .ok (.bipush 40, 2) := by decide +kernel
theorem dX11_isIdle_32 : decode prog_13_method_50_code 32 = .ok (.iload_n 1, 1) := by decide +kernel
theorem dX11_isIdle_33 : decode prog_13_method_50_code 33 = .ok (.imul, 1) := by decide +kernel
theorem dX11_isIdle_34 : decode prog_13_method_50_code 34 = .ok (.iload 5, 2) := by decide +kernel
theorem dX11_isIdle_36 : decode prog_13_method_50_code 36 = .ok (.iadd, 1) := by decide +kernel
theorem dX11_isIdle_37 : decode prog_13_method_50_code 37 = .ok (.iaload, 1) := by decide +kernel
theorem dX11_isIdle_38 : decode prog_13_method_50_code 38 = .ok (.istore 6, 2) := by decide +kernel
theorem dX11_isIdle_40 : decode prog_13_method_50_code 40 = .ok (.aload_n 0, 1) := by decide +kernel
theorem dX11_isIdle_41 : decode prog_13_method_50_code 41 = .ok (.getfield 19, 3) := by decide +kernel
theorem dX11_isIdle_44 : decode prog_13_method_50_code 44 = .ok (.bipush 40, 2) := by decide +kernel
theorem dX11_isIdle_46 : decode prog_13_method_50_code 46 = .ok (.iload_n 1, 1) := by decide +kernel
theorem dX11_isIdle_47 : decode prog_13_method_50_code 47 = .ok (.imul, 1) := by decide +kernel
theorem dX11_isIdle_48 : decode prog_13_method_50_code 48 = .ok (.iload 5, 2) := by decide +kernel
theorem dX11_isIdle_50 : decode prog_13_method_50_code 50 = .ok (.iadd, 1) := by decide +kernel
theorem dX11_isIdle_51 : decode prog_13_method_50_code 51 = .ok (.iaload, 1) := by decide +kernel
theorem dX11_isIdle_52 : decode prog_13_method_50_code 52 = .ok (.istore 7, 2) := by decide +kernel
theorem dX11_isIdle_54 : decode prog_13_method_50_code 54 = .ok (.iload 4, 2) := by decide +kernel
theorem dX11_isIdle_56 : decode prog_13_method_50_code 56 = .ok (.iload 6, 2) := by decide +kernel
theorem dX11_isIdle_58 : decode prog_13_method_50_code 58 = .ok (.ishr, 1) := by decide +kernel
theorem dX11_isIdle_59 : decode prog_13_method_50_code 59 = .ok (.iconst 1, 1) := by decide +kernel
theorem dX11_isIdle_60 : decode prog_13_method_50_code 60 = .ok (.iand, 1) := by decide +kernel
theorem dX11_isIdle_61 : decode prog_13_method_50_code 61 = .ok (.iload 4, 2) := by decide +kernel
theorem dX11_isIdle_63 : decode prog_13_method_50_code 63 = .ok (.iload 7, 2) := by decide +kernel
theorem dX11_isIdle_65 : decode prog_13_method_50_code 65 = .ok (.ishr, 1) := by decide +kernel
theorem dX11_isIdle_66 : decode prog_13_method_50_code 66 = .ok (.iconst 1, 1) := by decide +kernel
theorem dX11_isIdle_67 : decode prog_13_method_50_code 67 = .ok (.iand, 1) := by decide +kernel
theorem dX11_isIdle_68 : decode prog_13_method_50_code 68 = .ok (.if_icmp .gt 6, 3) := by decide +kernel
theorem dX11_isIdle_71 : decode prog_13_method_50_code 71 = .ok (.goto 25, 3) := by decide +kernel
theorem dX11_isIdle_74 : decode prog_13_method_50_code 74 = .ok (.iload 5, 2) := by decide +kernel
theorem dX11_isIdle_76 : decode prog_13_method_50_code 76 = .ok (.iload_n 2, 1) := by decide +kernel
theorem dX11_isIdle_77 : decode prog_13_method_50_code 77 = .ok (.if_icmp .ne 5, 3) := by decide +kernel
theorem dX11_isIdle_80 : decode prog_13_method_50_code 80 = .ok (.iconst 0, 1) := by decide +kernel
theorem dX11_isIdle_81 : decode prog_13_method_50_code 81 = .ok (.ireturn, 1) := by decide +kernel
theorem dX11_isIdle_82 : decode prog_13_method_50_code 82 = .ok (.iload 4, 2) := by decide +kernel
theorem dX11_isIdle_84 : decode prog_13_method_50_code 84 = .ok (.iconst 1, 1) := by decide +kernel
theorem dX11_isIdle_85 : decode prog_13_method_50_code 85 = .ok (.iload 6, 2) := by decide +kernel
theorem dX11_isIdle_87 : decode prog_13_method_50_code 87 = .ok (.ishl, 1) := by decide +kernel
theorem dX11_isIdle_88 : decode prog_13_method_50_code 88 = .ok (.iconst 1, 1) := by decide +kernel
theorem dX11_isIdle_89 : decode prog_13_method_50_code 89 = .ok (.iload 7, 2) := by decide +kernel
theorem dX11_isIdle_91 : decode prog_13_method_50_code 91 = .ok (.ishl, 1) := by decide +kernel
theorem dX11_isIdle_92 : decode prog_13_method_50_code 92 = .ok (.ior, 1) := by decide +kernel
theorem dX11_isIdle_93 : decode prog_13_method_50_code 93 = .ok (.ixor, 1) := by decide +kernel
theorem dX11_isIdle_94 : decode prog_13_method_50_code 94 = .ok (.istore 4, 2) := by decide +kernel
theorem dX11_isIdle_96 : decode prog_13_method_50_code 96 = .ok (.iinc 5 1, 3) := by decide +kernel
theorem dX11_isIdle_99 : decode prog_13_method_50_code 99 = .ok (.goto (-79), 3) := by decide +kernel
theorem dX11_isIdle_102 : decode prog_13_method_50_code 102 = .ok (.iinc 3 1, 3) := by decide +kernel
theorem dX11_isIdle_105 : decode prog_13_method_50_code 105 = .ok (.goto (-103), 3) := by decide +kernel
theorem dX11_isIdle_108 : decode prog_13_method_50_code 108 = .ok (.iconst 1, 1) := by decide +kernel
theorem dX11_isIdle_109 : decode prog_13_method_50_code 109 = .ok (.ireturn, 1) := by decide +kernel
theorem sX11_isIdle_20 {Q : Int → Hp → Prop} {h : Hp} {l1 l2 l3 l4 l5 : Int}
    (hP : ((l5 > l2) →
     (rj (l3 + 1)) ∧
     E 0 mX11_isIdle 2 [(0, vr 103), (1, vi l1), (2, vi l2), (3, vi (l3 + 1))] [] h (qi Q)) ∧
    ((l5 ≤ l2) →
     (rj (40 * l1) ∧ rj ((40 * l1) + l5) ∧ ix ((40 * l1) + l5) 160) ∧
     (((j_iand (j_ishr l4 (h 106 ((40 * l1) + l5))) 1) > (j_iand (j_ishr l4 (h 107 ((40 * l1) + l5))) 1)) →
      ((l5 ≠ l2) →
       (∀ x6 : Int, x6 = (j_ixor l4 (j_ior (j_ishl 1 (h 106 ((40 * l1) + l5))) (j_ishl 1 (h 107 ((40 * l1) + l5))))) →
       (rj (l5 + 1)) ∧
       E 0 mX11_isIdle 20 [(0, vr 103), (1, vi l1), (2, vi l2), (3, vi l3), (4, vi x6), (5, vi (l5 + 1))] [] h (qi Q))) ∧
      ((l5 = l2) →
       Q 0 h)) ∧
     (((j_iand (j_ishr l4 (h 106 ((40 * l1) + l5))) 1) ≤ (j_iand (j_ishr l4 (h 107 ((40 * l1) + l5))) 1)) →
      (rj (l5 + 1)) ∧
      E 0 mX11_isIdle 20 [(0, vr 103), (1, vi l1), (2, vi l2), (3, vi l3), (4, vi l4), (5, vi (l5 + 1))] [] h (qi Q)))) :
    E 0 mX11_isIdle 20 [(0, vr 103), (1, vi l1), (2, vi l2), (3, vi l3), (4, vi l4), (5, vi l5)] [] h (qi Q) := by
  refine E_iload 5 dX11_isIdle_20 rfl ?_
  refine E_iload_n 2 2 dX11_isIdle_22 rfl rfl ?_
  refine E_icmp_gt 102 dX11_isIdle_23 rfl (fun hc => ?_) (fun hc => ?_)
  · replace hP := hP.1 (hc)
    obtain ⟨v2_0, hP⟩ := hP
    refine E_iinc 3 dX11_isIdle_102 rfl (rgI v2_0) (by decide) rfl ?_
    refine E_goto 2 dX11_isIdle_105 rfl ?_
    exact E_sub [1, 2, 3, 0] rfl hP
  · replace hP := hP.2 (by omega)
    obtain ⟨⟨v3_0, v3_1, v3_2⟩, hP⟩ := hP
    refine E_aload_n 0 0 dX11_isIdle_26 rfl rfl ?_
    refine E_gR 106 2 dX11_isIdle_27 FX11_16 ic_103 (by decide) ?_
    refine E_bipush dX11_isIdle_30 (by decide) ?_
    refine E_iload_n 1 1 dX11_isIdle_32 rfl rfl ?_
    refine E_imul dX11_isIdle_33 (rgI v3_0) ?_
    refine E_iload 5 dX11_isIdle_34 rfl ?_
    refine E_iadd dX11_isIdle_36 (rgI v3_1) ?_
    refine E_iaload dX11_isIdle_37 ic_106 v3_2.1 v3_2.2 ?_
    refine E_istore dX11_isIdle_38 (by decide) rfl ?_
    refine E_aload_n 1 0 dX11_isIdle_40 rfl rfl ?_
    refine E_gR 107 3 dX11_isIdle_41 FX11_19 ic_103 (by decide) ?_
    refine E_bipush dX11_isIdle_44 (by decide) ?_
    refine E_iload_n 2 1 dX11_isIdle_46 rfl rfl ?_
    refine E_imul dX11_isIdle_47 (rgI v3_0) ?_
    refine E_iload 6 dX11_isIdle_48 rfl ?_
    refine E_iadd dX11_isIdle_50 (rgI v3_1) ?_
    refine E_iaload dX11_isIdle_51 ic_107 v3_2.1 v3_2.2 ?_
    refine E_istore dX11_isIdle_52 (by decide) rfl ?_
    refine E_iload 6 dX11_isIdle_54 rfl ?_
    refine E_iload 1 dX11_isIdle_56 rfl ?_
    refine E_ishr dX11_isIdle_58 ?_
    refine E_iconst dX11_isIdle_59 (rg_of rfl) ?_
    refine E_iand dX11_isIdle_60 ?_
    refine E_iload 6 dX11_isIdle_61 rfl ?_
    refine E_iload 0 dX11_isIdle_63 rfl ?_
    refine E_ishr dX11_isIdle_65 ?_
    refine E_iconst dX11_isIdle_66 (rg_of rfl) ?_
    refine E_iand dX11_isIdle_67 ?_
    refine E_icmp_gt 74 dX11_isIdle_68 rfl (fun hc => ?_) (fun hc => ?_)
    · replace hP := hP.1 (hc)
      refine E_iload 7 dX11_isIdle_74 rfl ?_
      refine E_iload_n 4 2 dX11_isIdle_76 rfl rfl ?_
      refine E_icmp_ne 82 dX11_isIdle_77 rfl (fun hc => ?_) (fun hc => ?_)
      · replace hP := hP.1 (hc)
        refine E_iload 6 dX11_isIdle_82 rfl ?_
        refine E_iconst dX11_isIdle_84 (rg_of rfl) ?_
        refine E_iload 1 dX11_isIdle_85 rfl ?_
        refine E_ishl dX11_isIdle_87 ?_
        refine E_iconst dX11_isIdle_88 (rg_of rfl) ?_
        refine E_iload 0 dX11_isIdle_89 rfl ?_
        refine E_ishl dX11_isIdle_91 ?_
        refine E_ior dX11_isIdle_92 ?_
        refine E_ixor dX11_isIdle_93 ?_
        obtain ⟨x6, hx6⟩ : ∃ x : Int, x = (j_ixor l4 (j_ior (j_ishl 1 (h 106 ((40 * l1) + l5))) (j_ishl 1 (h 107 ((40 * l1) + l5))))) := ⟨_, rfl⟩
        refine E_top hx6.symm ?_
        replace hP := hP x6 hx6
        refine E_istore dX11_isIdle_94 (by decide) rfl ?_
        obtain ⟨v7_0, hP⟩ := hP
        refine E_iinc 7 dX11_isIdle_96 rfl (rgI v7_0) (by decide) rfl ?_
        refine E_goto 20 dX11_isIdle_99 rfl ?_
        exact E_sub [4, 5, 6, 7, 1, 0] rfl hP
      · replace hP := hP.2 (by omega)
        refine E_iconst dX11_isIdle_80 (rg_of rfl) ?_
        exact E_retZ dX11_isIdle_81 rfl (Or.inl rfl) hP
    · replace hP := hP.2 (by omega)
      obtain ⟨v9_0, hP⟩ := hP
      refine E_goto 96 dX11_isIdle_71 rfl ?_
      refine E_iinc 7 dX11_isIdle_96 rfl (rgI v9_0) (by decide) rfl ?_
      refine E_goto 20 dX11_isIdle_99 rfl ?_
      exact E_sub [3, 4, 5, 6, 7, 0] rfl hP
theorem sX11_isIdle_2 {Q : Int → Hp → Prop} {h : Hp} {l1 l2 l3 : Int}
    (hP : (ix l1 4) ∧
    ((l3 ≥ (j_ishl 1 (h 104 l1))) →
     Q 1 h) ∧
    ((l3 < (j_ishl 1 (h 104 l1))) →
     E 0 mX11_isIdle 20 [(0, vr 103), (1, vi l1), (2, vi l2), (3, vi l3), (4, vi l3), (5, vi 0)] [] h (qi Q))) :
    E 0 mX11_isIdle 2 [(0, vr 103), (1, vi l1), (2, vi l2), (3, vi l3)] [] h (qi Q) := by
  obtain ⟨v1_0, hP⟩ := hP
  refine E_iload_n 3 3 dX11_isIdle_2 rfl rfl ?_
  refine E_iconst dX11_isIdle_3 (rg_of rfl) ?_
  refine E_aload_n 0 0 dX11_isIdle_4 rfl rfl ?_
  refine E_gR 104 0 dX11_isIdle_5 FX11_9 ic_103 (by decide) ?_
  refine E_iload_n 1 1 dX11_isIdle_8 rfl rfl ?_
  refine E_iaload dX11_isIdle_9 ic_104 v1_0.1 v1_0.2 ?_
  refine E_ishl dX11_isIdle_10 ?_
  refine E_icmp_ge 108 dX11_isIdle_11 rfl (fun hc => ?_) (fun hc => ?_)
  · replace hP := hP.1 (hc)
    refine E_iconst dX11_isIdle_108 (rg_of rfl) ?_
    exact E_retZ dX11_isIdle_109 rfl (Or.inr rfl) hP
  · replace hP := hP.2 (by omega)
    refine E_iload_n 3 3 dX11_isIdle_14 rfl rfl ?_
    refine E_istore dX11_isIdle_15 (by decide) rfl ?_
    refine E_iconst dX11_isIdle_17 (rg_of rfl) ?_
    refine E_istore dX11_isIdle_18 (by decide) rfl ?_
    exact E_sub [2, 3, 4, 5, 1, 0] rfl hP
theorem sX11_isIdle {Q : Int → Hp → Prop} {h : Hp} {l1 l2 : Int}
    (hP : E 0 mX11_isIdle 2 [(0, vr 103), (1, vi l1), (2, vi l2), (3, vi 0)] [] h (qi Q)) :
    CI 0 mX11_isIdle [vr 103, vi l1, vi l2] h Q := by
  refine CI_of_E fX11_isIdle.1 rfl (Nat.le_of_ble_eq_true rfl) ?_
  show E 0 mX11_isIdle 0 [(0, vr 103), (1, vi l1), (2, vi l2)] [] h (qi Q)
  refine E_iconst dX11_isIdle_0 (rg_of rfl) ?_
  refine E_istore_n dX11_isIdle_1 rfl (by decide) rfl ?_
  exact E_sub [1, 2, 3, 0] rfl hP
theorem dX11_isRedundant_0 : decode prog_13_method_51_code 0 = .ok (.aload_n 0, 1) := by decide +kernel
theorem dX11_isRedundant_1 : decode prog_13_method_51_code 1 = .ok (.iload_n 1, 1) := by decide +kernel
theorem dX11_isRedundant_2 : decode prog_13_method_51_code 2 = .ok (.iload_n 2, 1) := by decide +kernel
theorem dX11_isRedundant_3 : decode prog_13_method_51_code 3 = .ok (.invokevirtual 95, 3) := by decide +kernel
theorem dX11_isRedundant_6 : decode prog_13_method_51_code 6 = .ok (.ifCond .ne 7, 3) := by decide +kernel
theorem dX11_isRedundant_9 : decode prog_13_method_51_code 9 = .ok (.iconst (-1), 1) := by decide +kernel
theorem dX11_isRedundant_10 : decode prog_13_method_51_code 10 = .ok (.goto 17, 3) := by decide +kernel
theorem dX11_isRedundant_13 : decode prog_13_method_51_code 13 = .ok (.aload_n 0, 1) := by decide +kernel
theorem dX11_isRedundant_14 : decode prog_13_method_51_code 14 = .ok (.iload_n 1, 1) := by decide +kernel
theorem dX11_isRedundant_15 : decode prog_13_method_51_code 15 = .ok (.iload_n 2, 1) := by decide +kernel
theorem dX11_isRedundant_16 : decode prog_13_method_51_code 16 = .ok (.invokevirtual 195, 3) := by decide +kernel
theorem dX11_isRedundant_19 : decode prog_13_method_51_code 19 = .ok (.ifCond .eq 7, 3) := by decide +kernel
theorem dX11_isRedundant_22 : decode prog_13_method_51_code 22 = .ok (.iconst 1, 1) := by decide +kernel
theorem dX11_isRedundant_23 : decode prog_13_method_51_code 23 = .ok (.goto 4, 3) := by decide +kernel
theorem dX11_isRedundant_26 : decode prog_13_method_51_code 26 = .ok (.iconst 0, 1) := by decide +kernel
theorem dX11_isRedundant_27 : decode prog_13_method_51_code 27 = .ok (.ireturn, 1) := by decide +kernel
theorem sX11_isRedundant {Q : Int → Hp → Prop} {h : Hp} {l1 l2 : Int}
    (hP : (((l1 ≥ 0 ∧ l1 ≤ 3) → (ix l1 4)) ∧ ((l1 ≥ 0 ∧ l1 ≤ 3) → (rj ((h 105 l1) - 1)))) ∧
    (((l1 ≥ 0 ∧ l1 ≤ 3) ∧ (l2 ≥ 0 ∧ l2 ≤ ((h 105 l1) - 1))) →
     CI 0 mX11_isIdle [vr 103, vi l1, vi l2] h (fun r4 h3 =>
      Q (if r4 ≠ 0 then (1 : Int) else 0) h3)) ∧
    (((l1 < 0 ∨ l1 > 3) ∨ (l2 < 0 ∨ l2 > ((h 105 l1) - 1))) →
     Q (-1) h)) :
    CI 3 mX11_isRedundant [vr 103, vi l1, vi l2] h Q := by
  refine CI_of_E fX11_isRedundant.1 rfl (Nat.le_of_ble_eq_true rfl) ?_
  show E 3 mX11_isRedundant 0 [(0, vr 103), (1, vi l1), (2, vi l2)] [] h (qi Q)
  obtain ⟨⟨v1_0, v1_1⟩, hP⟩ := hP
  refine E_aload_n 0 0 dX11_isRedundant_0 rfl rfl ?_
  refine E_iload_n 1 1 dX11_isRedundant_1 rfl rfl ?_
  refine E_iload_n 2 2 dX11_isRedundant_2 rfl rfl ?_
  refine E_invVI [vi l1, vi l2] dX11_isRedundant_3 fX11_isPosition lX11_95 ic_103 rfl (by decide) rfl rfl (Nat.le_of_ble_eq_true rfl) (sX11_isPosition (h := h) (l1 := l1) (l2 := l2) ⟨⟨v1_0, v1_1⟩, ?_⟩)
  refine E_if_ne 13 dX11_isRedundant_6 rfl (fun hc => ?_) (fun hc => ?_)
  · replace hP := hP.1 (by have := ite1' hc; omega)
    refine E_aload_n 0 0 dX11_isRedundant_13 rfl rfl ?_
    refine E_iload_n 1 1 dX11_isRedundant_14 rfl rfl ?_
    refine E_iload_n 2 2 dX11_isRedundant_15 rfl rfl ?_
    refine E_invVI [vi l1, vi l2] dX11_isRedundant_16 fX11_isIdle lX11_195 ic_103 rfl (by decide) rfl rfl (Nat.le_of_ble_eq_true rfl) (CI_mono hP (fun r4 h3 hP => ?_))
    have hJ : E 3 mX11_isRedundant 27 [(0, vr 103), (1, vi l1), (2, vi l2)] [vi (if r4 ≠ 0 then (1 : Int) else 0)] h3 (qi Q) := by
      exact E_retI dX11_isRedundant_27 rfl hP
    refine E_if_eq 26 dX11_isRedundant_19 rfl (fun hc => ?_) (fun hc => ?_)
    · have hp19 := (hc : r4 = 0)
      refine E_iconst dX11_isRedundant_26 (rg_of rfl) ?_
      exact E_top (if_neg (by omega)).symm hJ
    · have hp19 := (by omega : r4 ≠ 0)
      refine E_iconst dX11_isRedundant_22 (rg_of rfl) ?_
      refine E_goto 27 dX11_isRedundant_23 rfl ?_
      exact E_top (if_pos (by omega)).symm hJ
  · replace hP := hP.2 (by have := ite0 hc; omega)
    refine E_iconst dX11_isRedundant_9 (rg_of rfl) ?_
    refine E_goto 27 dX11_isRedundant_10 rfl ?_
    exact E_retI dX11_isRedundant_27 rfl hP
theorem dX11_prune_0 : decode prog_13_method_52_code 0 = .ok (.iload_n 1, 1) := by decide +kernel
theorem dX11_prune_1 : decode prog_13_method_52_code 1 = .ok (.invokestatic 88, 3) := by decide +kernel
theorem dX11_prune_4 : decode prog_13_method_52_code 4 = .ok (.ifCond .ne 5, 3) := by decide +kernel
theorem dX11_prune_7 : decode prog_13_method_52_code 7 = .ok (.iconst (-1), 1) := by decide +kernel
theorem dX11_prune_8 : decode prog_13_method_52_code 8 = .ok (.ireturn, 1) := by decide +kernel
theorem dX11_prune_9 : decode prog_13_method_52_code 9 = .ok (.aload_n 0, 1) := by decide +kernel
theorem dX11_prune_10 : decode prog_13_method_52_code 10 = .ok (.invokevirtual 92, 3) := by decide +kernel
theorem dX11_prune_13 : decode prog_13_method_52_code 13 = .ok (.aload_n 0, 1) := by decide +kernel
theorem dX11_prune_14 : decode prog_13_method_52_code 14 = .ok (.getfield 13, 3) := by decide +kernel
theorem dX11_prune_17 : decode prog_13_method_52_code 17 = .ok (.iload_n 1, 1) := by decide +kernel
theorem dX11_prune_18 : decode prog_13_method_52_code 18 = .ok (.iaload, 1) := by decide +kernel
theorem dX11_prune_19 : decode prog_13_method_52_code 19 = .ok (.istore_n 2, 1) := by decide +kernel
theorem dX11_prune_20 : decode prog_13_method_52_code 20 = .ok (.aload_n 0, 1) := by decide +kernel
theorem dX11_prune_21 : decode prog_13_method_52_code 21 = .ok (.getfield 13, 3) := by decide +kernel
theorem dX11_prune_24 : decode prog_13_method_52_code 24 = .ok (.iload_n 1, 1) := by decide +kernel
theorem dX11_prune_25 : decode prog_13_method_52_code 25 = .ok (.iaload, 1) := by decide +kernel
theorem dX11_prune_26 : decode prog_13_method_52_code 26 = .ok (.iconst 1, 1) := by decide +kernel
theorem dX11_prune_27 : decode prog_13_method_52_code 27 = .ok (.isub, 1) := by decide +kernel
theorem dX11_prune_28 : decode prog_13_method_52_code 28 = .ok (.istore_n 3, 1) := by decide +kernel
theorem dX11_prune_29 : decode prog_13_method_52_code 29 = .ok (.iload_n 3, 1) := by decide +kernel
theorem dX11_prune_30 : decode prog_13_method_52_code 30 = .ok (.ifCond .lt 24, 3) := by decide +kernel
theorem dX11_prune_33 : decode prog_13_method_52_code 33 = .ok (.aload_n 0, 1) := by decide +kernel
theorem dX11_prune_34 : decode prog_13_method_52_code 34 = .ok (.iload_n 1, 1) := by decide +kernel
theorem dX11_prune_35 : decode prog_13_method_52_code 35 = .ok (.iload_n 3, 1) := by decide +kernel
theorem dX11_prune_36 : decode prog_13_method_52_code 36 = .ok (.invokevirtual 195, 3) := by decide +kernel
theorem dX11_prune_39 : decode prog_13_method_52_code 39 = .ok (.ifCond .eq 9, 3) := by decide +kernel
theorem dX11_prune_42 : decode prog_13_method_52_code 42 = .ok (.aload_n 0, 1) := by decide +kernel
theorem dX11_prune_43 : decode prog_13_method_52_code 43 = .ok (.iload_n 1, 1) := by decide +kernel
theorem dX11_prune_44 : decode prog_13_method_52_code 44 = .ok (.iload_n 3, 1) := by decide +kernel
theorem dX11_prune_45 : decode prog_13_method_52_code 45 = .ok (.invokevirtual 114, 3) := by decide +kernel
theorem dX11_prune_48 : decode prog_13_method_52_code 48 = .ok (.iinc 3 (-1), 3) := by decide +kernel
theorem dX11_prune_51 : decode prog_13_method_52_code 51 = .ok (.goto (-22), 3) := by decide +kernel
theorem dX11_prune_54 : decode prog_13_method_52_code 54 = .ok (.iload_n 2, 1) := by decide +kernel
theorem dX11_prune_55 : decode prog_13_method_52_code 55 = .ok (.aload_n 0, 1) := by decide +kernel
theorem dX11_prune_56 : decode prog_13_method_52_code 56 = .ok (.getfield 13, 3) := by decide +kernel
theorem dX11_prune_59 : decode prog_13_method_52_code 59 = .ok (.iload_n 1, 1) := by decide +kernel
theorem dX11_prune_60 : decode prog_13_method_52_code 60 = .ok (.iaload, 1) := by decide +kernel
theorem dX11_prune_61 : decode prog_13_method_52_code 61 = .ok (.isub, 1) := by decide +kernel
theorem dX11_prune_62 : decode prog_13_method_52_code 62 = .ok (.ireturn, 1) := by decide +kernel
theorem sX11_prune_29 {Q : Int → Hp → Prop} {h : Hp} {l1 l2 l3 : Int}
    (hP : ((l3 < 0) →
     (ix l1 4 ∧ rj (l2 - (h 105 l1))) ∧
     Q (l2 - (h 105 l1)) h) ∧
    ((l3 ≥ 0) →
     CI 0 mX11_isIdle [vr 103, vi l1, vi l3] h (fun r5 h4 =>
      ((r5 = 0) →
       (rj (l3 + (-1))) ∧
       E 2 mX11_prune 29 [(0, vr 103), (1, vi l1), (2, vi l2), (3, vi (l3 + (-1)))] [] h4 (qi Q)) ∧
      ((r5 ≠ 0) →
       CV 0 mX11_takes [vr 103, vi l1, vi l3] h4 (fun h9 =>
        (rj (l3 + (-1))) ∧
        E 2 mX11_prune 29 [(0, vr 103), (1, vi l1), (2, vi l2), (3, vi (l3 + (-1)))] [] h9 (qi Q)))))) :
    E 2 mX11_prune 29 [(0, vr 103), (1, vi l1), (2, vi l2), (3, vi l3)] [] h (qi Q) := by
  refine E_iload_n 3 3 dX11_prune_29 rfl rfl ?_
  refine E_if_lt 54 dX11_prune_30 rfl (fun hc => ?_) (fun hc => ?_)
  · replace hP := hP.1 (hc)
    obtain ⟨⟨v2_0, v2_1⟩, hP⟩ := hP
    refine E_iload_n 2 2 dX11_prune_54 rfl rfl ?_
    refine E_aload_n 0 0 dX11_prune_55 rfl rfl ?_
    refine E_gR 105 1 dX11_prune_56 FX11_13 ic_103 (by decide) ?_
    refine E_iload_n 1 1 dX11_prune_59 rfl rfl ?_
    refine E_iaload dX11_prune_60 ic_105 v2_0.1 v2_0.2 ?_
    refine E_isub dX11_prune_61 (rgI v2_1) ?_
    exact E_retI dX11_prune_62 rfl hP
  · replace hP := hP.2 (by omega)
    refine E_aload_n 0 0 dX11_prune_33 rfl rfl ?_
    refine E_iload_n 1 1 dX11_prune_34 rfl rfl ?_
    refine E_iload_n 3 3 dX11_prune_35 rfl rfl ?_
    refine E_invVI [vi l1, vi l3] dX11_prune_36 fX11_isIdle lX11_195 ic_103 rfl (by decide) rfl rfl (Nat.le_of_ble_eq_true rfl) (CI_mono hP (fun r5 h4 hP => ?_))
    refine E_if_eq 48 dX11_prune_39 rfl (fun hc => ?_) (fun hc => ?_)
    · replace hP := hP.1 (hc)
      obtain ⟨v7_0, hP⟩ := hP
      refine E_iinc 3 dX11_prune_48 rfl (rgI v7_0) (by decide) rfl ?_
      refine E_goto 29 dX11_prune_51 rfl ?_
      exact E_sub [1, 2, 3, 0] rfl hP
    · replace hP := hP.2 (by omega)
      refine E_aload_n 0 0 dX11_prune_42 rfl rfl ?_
      refine E_iload_n 1 1 dX11_prune_43 rfl rfl ?_
      refine E_iload_n 3 3 dX11_prune_44 rfl rfl ?_
      refine E_invVV [vi l1, vi l3] dX11_prune_45 fX11_takes lX11_114 ic_103 rfl (by decide) rfl rfl (Nat.le_of_ble_eq_true rfl) (CV_mono hP (fun h9 hP => ?_))
      obtain ⟨v10_0, hP⟩ := hP
      refine E_iinc 3 dX11_prune_48 rfl (rgI v10_0) (by decide) rfl ?_
      refine E_goto 29 dX11_prune_51 rfl ?_
      exact E_sub [1, 2, 3, 0] rfl hP
theorem sX11_prune {Q : Int → Hp → Prop} {h : Hp} {l1 : Int}
    (hP : ((l1 ≥ 0 ∧ l1 ≤ 3) →
     CV 0 mX11_remembers [vr 103] h (fun h3 =>
      (ix l1 4 ∧ rj ((h3 105 l1) - 1)) ∧
      E 2 mX11_prune 29 [(0, vr 103), (1, vi l1), (2, vi (h3 105 l1)), (3, vi ((h3 105 l1) - 1))] [] h3 (qi Q))) ∧
    ((l1 < 0 ∨ l1 > 3) →
     Q (-1) h)) :
    CI 2 mX11_prune [vr 103, vi l1] h Q := by
  refine CI_of_E fX11_prune.1 rfl (Nat.le_of_ble_eq_true rfl) ?_
  show E 2 mX11_prune 0 [(0, vr 103), (1, vi l1)] [] h (qi Q)
  refine E_iload_n 1 1 dX11_prune_0 rfl rfl ?_
  refine E_invSI [vi l1] dX11_prune_1 fX11_isNet lX11_88 (by decide) rfl rfl (Nat.le_of_ble_eq_true rfl) (sX11_isNet (h := h) (l0 := l1) ?_)
  refine E_if_ne 9 dX11_prune_4 rfl (fun hc => ?_) (fun hc => ?_)
  · replace hP := hP.1 (by have := ite1' hc; omega)
    refine E_aload_n 0 0 dX11_prune_9 rfl rfl ?_
    refine E_invVV [] dX11_prune_10 fX11_remembers lX11_92 ic_103 rfl (by decide) rfl rfl (Nat.le_of_ble_eq_true rfl) (CV_mono hP (fun h3 hP => ?_))
    obtain ⟨⟨v4_0, v4_1⟩, hP⟩ := hP
    refine E_aload_n 0 0 dX11_prune_13 rfl rfl ?_
    refine E_gR 105 1 dX11_prune_14 FX11_13 ic_103 (by decide) ?_
    refine E_iload_n 1 1 dX11_prune_17 rfl rfl ?_
    refine E_iaload dX11_prune_18 ic_105 v4_0.1 v4_0.2 ?_
    refine E_istore_n dX11_prune_19 rfl (by decide) rfl ?_
    refine E_aload_n 1 0 dX11_prune_20 rfl rfl ?_
    refine E_gR 105 1 dX11_prune_21 FX11_13 ic_103 (by decide) ?_
    refine E_iload_n 2 1 dX11_prune_24 rfl rfl ?_
    refine E_iaload dX11_prune_25 ic_105 v4_0.1 v4_0.2 ?_
    refine E_iconst dX11_prune_26 (rg_of rfl) ?_
    refine E_isub dX11_prune_27 (rgI v4_1) ?_
    refine E_istore_n dX11_prune_28 rfl (by decide) rfl ?_
    exact E_sub [2, 3, 1, 0] rfl hP
  · replace hP := hP.2 (by have := ite0 hc; omega)
    refine E_iconst dX11_prune_7 (rg_of rfl) ?_
    exact E_retI dX11_prune_8 rfl hP
theorem dX11_reduce_0 : decode prog_13_method_53_code 0 = .ok (.iload_n 1, 1) := by decide +kernel
theorem dX11_reduce_1 : decode prog_13_method_53_code 1 = .ok (.invokestatic 88, 3) := by decide +kernel
theorem dX11_reduce_4 : decode prog_13_method_53_code 4 = .ok (.ifCond .ne 5, 3) := by decide +kernel
theorem dX11_reduce_7 : decode prog_13_method_53_code 7 = .ok (.iconst (-1), 1) := by decide +kernel
theorem dX11_reduce_8 : decode prog_13_method_53_code 8 = .ok (.ireturn, 1) := by decide +kernel
theorem dX11_reduce_9 : decode prog_13_method_53_code 9 = .ok (.aload_n 0, 1) := by decide +kernel
theorem dX11_reduce_10 : decode prog_13_method_53_code 10 = .ok (.iload_n 1, 1) := by decide +kernel
theorem dX11_reduce_11 : decode prog_13_method_53_code 11 = .ok (.iconst (-1), 1) := by decide +kernel
theorem dX11_reduce_12 : decode prog_13_method_53_code 12 = .ok (.invokevirtual 160, 3) := by decide +kernel
theorem dX11_reduce_15 : decode prog_13_method_53_code 15 = .ok (.ifCond .ne 6, 3) := by decide +kernel
theorem dX11_reduce_18 : decode prog_13_method_53_code 18 = .ok (.bipush (-5), 2) := by decide +kernel
theorem dX11_reduce_20 : decode prog_13_method_53_code 20 = .ok (.ireturn, 1) := by decide +kernel
theorem dX11_reduce_21 : decode prog_13_method_53_code 21 = .ok (.aload_n 0, 1) := by decide +kernel
theorem dX11_reduce_22 : decode prog_13_method_53_code 22 = .ok (.invokevirtual 92, 3) := by decide +kernel
theorem dX11_reduce_25 : decode prog_13_method_53_code 25 = .ok (.aload_n 0, 1) := by decide +kernel
theorem dX11_reduce_26 : decode prog_13_method_53_code 26 = .ok (.getfield 13, 3) := by decide +kernel
theorem dX11_reduce_29 : decode prog_13_method_53_code 29 = .ok (.iload_n 1, 1) := by decide +kernel
theorem dX11_reduce_30 : decode prog_13_method_53_code 30 = .ok (.iaload, 1) := by decide +kernel
theorem dX11_reduce_31 : decode prog_13_method_53_code 31 = .ok (.istore_n 2, 1) := by decide +kernel
theorem dX11_reduce_32 : decode prog_13_method_53_code 32 = .ok (.aload_n 0, 1) := by decide +kernel
theorem dX11_reduce_33 : decode prog_13_method_53_code 33 = .ok (.getfield 13, 3) := by decide +kernel
theorem dX11_reduce_36 : decode prog_13_method_53_code 36 = .ok (.iload_n 1, 1) := by decide +kernel
theorem dX11_reduce_37 : decode prog_13_method_53_code 37 = .ok (.iaload, 1) := by decide +kernel
theorem dX11_reduce_38 : decode prog_13_method_53_code 38 = .ok (.iconst 1, 1) := by decide +kernel
theorem dX11_reduce_39 : decode prog_13_method_53_code 39 = .ok (.isub, 1) := by decide +kernel
theorem dX11_reduce_40 : decode prog_13_method_53_code 40 = .ok (.istore_n 3, 1) := by decide +kernel
theorem dX11_reduce_41 : decode prog_13_method_53_code 41 = .ok (.iload_n 3, 1) := by decide +kernel
theorem dX11_reduce_42 : decode prog_13_method_53_code 42 = .ok (.ifCond .lt 36, 3) := by decide +kernel
theorem dX11_reduce_45 : decode prog_13_method_53_code 45 = .ok (.aload_n 0, 1) := by decide +kernel
theorem dX11_reduce_46 : decode prog_13_method_53_code 46 = .ok (.iload_n 1, 1) := by decide +kernel
theorem dX11_reduce_47 : decode prog_13_method_53_code 47 = .ok (.iload_n 3, 1) := by decide +kernel
theorem dX11_reduce_48 : decode prog_13_method_53_code 48 = .ok (.invokevirtual 160, 3) := by decide +kernel
theorem dX11_reduce_51 : decode prog_13_method_53_code 51 = .ok (.ifCond .eq 21, 3) := by decide +kernel
theorem dX11_reduce_54 : decode prog_13_method_53_code 54 = .ok (.aload_n 0, 1) := by decide +kernel
theorem dX11_reduce_55 : decode prog_13_method_53_code 55 = .ok (.iload_n 1, 1) := by decide +kernel
theorem dX11_reduce_56 : decode prog_13_method_53_code 56 = .ok (.iload_n 3, 1) := by decide +kernel
theorem dX11_reduce_57 : decode prog_13_method_53_code 57 = .ok (.invokevirtual 114, 3) := by decide +kernel
theorem dX11_reduce_60 : decode prog_13_method_53_code 60 = .ok (.aload_n 0, 1) := by decide +kernel
theorem dX11_reduce_61 : decode prog_13_method_53_code 61 = .ok (.getfield 13, 3) := by decide +kernel
theorem dX11_reduce_64 : decode prog_13_method_53_code 64 = .ok (.iload_n 1, 1) := by decide +kernel
theorem dX11_reduce_65 : decode prog_13_method_53_code 65 = .ok (.iaload, 1) := by decide +kernel
theorem dX11_reduce_66 : decode prog_13_method_53_code 66 = .ok (.iconst 1, 1) := by decide +kernel
theorem dX11_reduce_67 : decode prog_13_method_53_code 67 = .ok (.isub, 1) := by decide +kernel
theorem dX11_reduce_68 : decode prog_13_method_53_code 68 = .ok (.istore_n 3, 1) := by decide +kernel
theorem dX11_reduce_69 : decode prog_13_method_53_code 69 = .ok (.goto (-28), 3) := by decide +kernel
theorem dX11_reduce_72 : decode prog_13_method_53_code 72 = .ok (.iinc 3 (-1), 3) := by decide +kernel
theorem dX11_reduce_75 : decode prog_13_method_53_code 75 = .ok (.goto (-34), 3) := by decide +kernel
theorem dX11_reduce_78 : decode prog_13_method_53_code 78 = .ok (.iload_n 2, 1) := by decide +kernel
theorem dX11_reduce_79 : decode prog_13_method_53_code 79 = .ok (.aload_n 0, 1) := by decide +kernel
theorem dX11_reduce_80 : decode prog_13_method_53_code 80 = .ok (.getfield 13, 3) := by decide +kernel
theorem dX11_reduce_83 : decode prog_13_method_53_code 83 = .ok (.iload_n 1, 1) := by decide +kernel
theorem dX11_reduce_84 : decode prog_13_method_53_code 84 = .ok (.iaload, 1) := by decide +kernel
theorem dX11_reduce_85 : decode prog_13_method_53_code 85 = .ok (.isub, 1) := by decide +kernel
theorem dX11_reduce_86 : decode prog_13_method_53_code 86 = .ok (.ireturn, 1) := by decide +kernel
theorem sX11_reduce_41 {Q : Int → Hp → Prop} {h : Hp} {l1 l2 l3 : Int}
    (hP : ((l3 < 0) →
     (ix l1 4 ∧ rj (l2 - (h 105 l1))) ∧
     Q (l2 - (h 105 l1)) h) ∧
    ((l3 ≥ 0) →
     CI 1 mX11_isSorter [vr 103, vi l1, vi l3] h (fun r5 h4 =>
      ((r5 = 0) →
       (rj (l3 + (-1))) ∧
       E 2 mX11_reduce 41 [(0, vr 103), (1, vi l1), (2, vi l2), (3, vi (l3 + (-1)))] [] h4 (qi Q)) ∧
      ((r5 ≠ 0) →
       CV 0 mX11_takes [vr 103, vi l1, vi l3] h4 (fun h9 =>
        (ix l1 4 ∧ rj ((h9 105 l1) - 1)) ∧
        E 2 mX11_reduce 41 [(0, vr 103), (1, vi l1), (2, vi l2), (3, vi ((h9 105 l1) - 1))] [] h9 (qi Q)))))) :
    E 2 mX11_reduce 41 [(0, vr 103), (1, vi l1), (2, vi l2), (3, vi l3)] [] h (qi Q) := by
  refine E_iload_n 3 3 dX11_reduce_41 rfl rfl ?_
  refine E_if_lt 78 dX11_reduce_42 rfl (fun hc => ?_) (fun hc => ?_)
  · replace hP := hP.1 (hc)
    obtain ⟨⟨v2_0, v2_1⟩, hP⟩ := hP
    refine E_iload_n 2 2 dX11_reduce_78 rfl rfl ?_
    refine E_aload_n 0 0 dX11_reduce_79 rfl rfl ?_
    refine E_gR 105 1 dX11_reduce_80 FX11_13 ic_103 (by decide) ?_
    refine E_iload_n 1 1 dX11_reduce_83 rfl rfl ?_
    refine E_iaload dX11_reduce_84 ic_105 v2_0.1 v2_0.2 ?_
    refine E_isub dX11_reduce_85 (rgI v2_1) ?_
    exact E_retI dX11_reduce_86 rfl hP
  · replace hP := hP.2 (by omega)
    refine E_aload_n 0 0 dX11_reduce_45 rfl rfl ?_
    refine E_iload_n 1 1 dX11_reduce_46 rfl rfl ?_
    refine E_iload_n 3 3 dX11_reduce_47 rfl rfl ?_
    refine E_invVI [vi l1, vi l3] dX11_reduce_48 fX11_isSorter lX11_160 ic_103 rfl (by decide) rfl rfl (Nat.le_of_ble_eq_true rfl) (CI_mono hP (fun r5 h4 hP => ?_))
    refine E_if_eq 72 dX11_reduce_51 rfl (fun hc => ?_) (fun hc => ?_)
    · replace hP := hP.1 (hc)
      obtain ⟨v7_0, hP⟩ := hP
      refine E_iinc 3 dX11_reduce_72 rfl (rgI v7_0) (by decide) rfl ?_
      refine E_goto 41 dX11_reduce_75 rfl ?_
      exact E_sub [1, 2, 3, 0] rfl hP
    · replace hP := hP.2 (by omega)
      refine E_aload_n 0 0 dX11_reduce_54 rfl rfl ?_
      refine E_iload_n 1 1 dX11_reduce_55 rfl rfl ?_
      refine E_iload_n 3 3 dX11_reduce_56 rfl rfl ?_
      refine E_invVV [vi l1, vi l3] dX11_reduce_57 fX11_takes lX11_114 ic_103 rfl (by decide) rfl rfl (Nat.le_of_ble_eq_true rfl) (CV_mono hP (fun h9 hP => ?_))
      obtain ⟨⟨v10_0, v10_1⟩, hP⟩ := hP
      refine E_aload_n 0 0 dX11_reduce_60 rfl rfl ?_
      refine E_gR 105 1 dX11_reduce_61 FX11_13 ic_103 (by decide) ?_
      refine E_iload_n 1 1 dX11_reduce_64 rfl rfl ?_
      refine E_iaload dX11_reduce_65 ic_105 v10_0.1 v10_0.2 ?_
      refine E_iconst dX11_reduce_66 (rg_of rfl) ?_
      refine E_isub dX11_reduce_67 (rgI v10_1) ?_
      refine E_istore_n dX11_reduce_68 rfl (by decide) rfl ?_
      refine E_goto 41 dX11_reduce_69 rfl ?_
      exact E_sub [1, 2, 3, 0] rfl hP
theorem sX11_reduce {Q : Int → Hp → Prop} {h : Hp} {l1 : Int}
    (hP : ((l1 ≥ 0 ∧ l1 ≤ 3) →
     CI 1 mX11_isSorter [vr 103, vi l1, vi (-1)] h (fun r4 h3 =>
      ((r4 ≠ 0) →
       CV 0 mX11_remembers [vr 103] h3 (fun h7 =>
        (ix l1 4 ∧ rj ((h7 105 l1) - 1)) ∧
        E 2 mX11_reduce 41 [(0, vr 103), (1, vi l1), (2, vi (h7 105 l1)), (3, vi ((h7 105 l1) - 1))] [] h7 (qi Q))) ∧
      ((r4 = 0) →
       Q (-5) h3))) ∧
    ((l1 < 0 ∨ l1 > 3) →
     Q (-1) h)) :
    CI 2 mX11_reduce [vr 103, vi l1] h Q := by
  refine CI_of_E fX11_reduce.1 rfl (Nat.le_of_ble_eq_true rfl) ?_
  show E 2 mX11_reduce 0 [(0, vr 103), (1, vi l1)] [] h (qi Q)
  refine E_iload_n 1 1 dX11_reduce_0 rfl rfl ?_
  refine E_invSI [vi l1] dX11_reduce_1 fX11_isNet lX11_88 (by decide) rfl rfl (Nat.le_of_ble_eq_true rfl) (sX11_isNet (h := h) (l0 := l1) ?_)
  refine E_if_ne 9 dX11_reduce_4 rfl (fun hc => ?_) (fun hc => ?_)
  · replace hP := hP.1 (by have := ite1' hc; omega)
    refine E_aload_n 0 0 dX11_reduce_9 rfl rfl ?_
    refine E_iload_n 1 1 dX11_reduce_10 rfl rfl ?_
    refine E_iconst dX11_reduce_11 (rg_of rfl) ?_
    refine E_invVI [vi l1, vi (-1)] dX11_reduce_12 fX11_isSorter lX11_160 ic_103 rfl (by decide) rfl rfl (Nat.le_of_ble_eq_true rfl) (CI_mono hP (fun r4 h3 hP => ?_))
    refine E_if_ne 21 dX11_reduce_15 rfl (fun hc => ?_) (fun hc => ?_)
    · replace hP := hP.1 (hc)
      refine E_aload_n 0 0 dX11_reduce_21 rfl rfl ?_
      refine E_invVV [] dX11_reduce_22 fX11_remembers lX11_92 ic_103 rfl (by decide) rfl rfl (Nat.le_of_ble_eq_true rfl) (CV_mono hP (fun h7 hP => ?_))
      obtain ⟨⟨v8_0, v8_1⟩, hP⟩ := hP
      refine E_aload_n 0 0 dX11_reduce_25 rfl rfl ?_
      refine E_gR 105 1 dX11_reduce_26 FX11_13 ic_103 (by decide) ?_
      refine E_iload_n 1 1 dX11_reduce_29 rfl rfl ?_
      refine E_iaload dX11_reduce_30 ic_105 v8_0.1 v8_0.2 ?_
      refine E_istore_n dX11_reduce_31 rfl (by decide) rfl ?_
      refine E_aload_n 1 0 dX11_reduce_32 rfl rfl ?_
      refine E_gR 105 1 dX11_reduce_33 FX11_13 ic_103 (by decide) ?_
      refine E_iload_n 2 1 dX11_reduce_36 rfl rfl ?_
      refine E_iaload dX11_reduce_37 ic_105 v8_0.1 v8_0.2 ?_
      refine E_iconst dX11_reduce_38 (rg_of rfl) ?_
      refine E_isub dX11_reduce_39 (rgI v8_1) ?_
      refine E_istore_n dX11_reduce_40 rfl (by decide) rfl ?_
      exact E_sub [2, 3, 1, 0] rfl hP
    · replace hP := hP.2 (by omega)
      refine E_bipush dX11_reduce_18 (by decide) ?_
      exact E_retI dX11_reduce_20 rfl hP
  · replace hP := hP.2 (by have := ite0 hc; omega)
    refine E_iconst dX11_reduce_7 (rg_of rfl) ?_
    exact E_retI dX11_reduce_8 rfl hP
theorem dX11_standardize_0 : decode prog_13_method_54_code 0 = .ok (.iload_n 1, 1) := by decide +kernel
theorem dX11_standardize_1 : decode prog_13_method_54_code 1 = .ok (.invokestatic 88, 3) := by decide +kernel
theorem dX11_standardize_4 : decode prog_13_method_54_code 4 = .ok (.ifCond .ne 5, 3) := by decide +kernel
theorem dX11_standardize_7 : decode prog_13_method_54_code 7 = .ok (.iconst (-1), 1) := by decide +kernel
theorem dX11_standardize_8 : decode prog_13_method_54_code 8 = .ok (.ireturn, 1) := by decide +kernel
theorem dX11_standardize_9 : decode prog_13_method_54_code 9 = .ok (.aload_n 0, 1) := by decide +kernel
theorem dX11_standardize_10 : decode prog_13_method_54_code 10 = .ok (.invokevirtual 92, 3) := by decide +kernel
theorem dX11_standardize_13 : decode prog_13_method_54_code 13 = .ok (.iconst 0, 1) := by decide +kernel
theorem dX11_standardize_14 : decode prog_13_method_54_code 14 = .ok (.istore_n 2, 1) := by decide +kernel
theorem dX11_standardize_15 : decode prog_13_method_54_code 15 = .ok (.bipush 40, 2) := by decide +kernel
theorem dX11_standardize_17 : decode prog_13_method_54_code 17 = .ok (.iload_n 1, 1) := by decide +kernel
theorem dX11_standardize_18 : decode prog_13_method_54_code 18 = .ok (.imul, 1) := by decide +kernel
theorem dX11_standardize_19 : decode prog_13_method_54_code 19 = .ok (.istore_n 3, 1) := by decide +kernel
theorem dX11_standardize_20 : decode prog_13_method_54_code 20 = .ok (.iload_n 3, 1) := by decide +kernel
theorem dX11_standardize_21 : decode prog_13_method_54_code 21 = .ok (.bipush 40, 2) := by decide +kernel
theorem dX11_standardize_23 : decode prog_13_method_54_code 23 = .ok (.iload_n 1, 1) := by decide +kernel
theorem dX11_standardize_24 : decode prog_13_method_54_code 24 = .ok (.imul, 1) := by decide +kernel
theorem dX11_standardize_25 : decode prog_13_method_54_code 25 = .ok (.aload_n 0, 1) := by decide +kernel
theorem dX11_standardize_26 : decode prog_13_method_54_code 26 = .ok (.getfield 13, 3) := by decide +kernel
theorem dX11_standardize_29 : decode prog_13_method_54_code 29 = .ok (.iload_n 1, 1) := by decide +kernel
theorem dX11_standardize_30 : decode prog_13_method_54_code 30 = .ok (.iaload, 1) := by decide +kernel
theorem dX11_standardize_31 : decode prog_13_method_54_code 31 = .ok (.iadd, 1) := by decide +kernel
theorem dX11_standardize_32 : decode prog_13_method_54_code 32 = .ok (.if_icmp .ge 177, 3) := by decide +kernel
theorem dX11_standardize_35 : decode prog_13_method_54_code 35 = .ok (.aload_n 0, 1) := by decide +kernel
theorem dX11_standardize_36 : decode prog_13_method_54_code 36 = .ok (.getfield 16, 3) := by decide +kernel
theorem dX11_standardize_39 : decode prog_13_method_54_code 39 = .ok (.iload_n 3, 1) := by decide +kernel
theorem dX11_standardize_40 : decode prog_13_method_54_code 40 = .ok (.iaload, 1) := by decide +kernel
theorem dX11_standardize_41 : decode prog_13_method_54_code 41 = .ok (.istore 4, 2) := by decide +kernel
theorem dX11_standardize_43 : decode prog_13_method_54_code 43 = .ok (.aload_n 0, 1) := by decide +kernel
theorem dX11_standardize_44 : decode prog_13_method_54_code 44 = .ok (.getfield 19, 3) := by decide +kernel
theorem dX11_standardize_47 : decode prog_13_method_54_code 47 = .ok (.iload_n 3, 1) := by decide +kernel
theorem dX11_standardize_48 : decode prog_13_method_54_code 48 = .ok (.iaload, 1) := by decide +kernel
theorem dX11_standardize_49 : decode prog_13_method_54_code 49 = .ok (.istore 5, 2) := by decide +kernel
theorem dX11_standardize_51 : decode prog_13_method_54_code 51 = .ok (.iload 4, 2) := by decide +kernel
theorem dX11_standardize_53 : decode prog_13_method_54_code 53 = .ok (.iload 5, 2) := by decide +kernel
theorem dX11_standardize_55 : decode prog_13_method_54_code 55 = .ok (.if_icmp .ge 6, 3) := by decide +kernel
theorem dX11_standardize_58 : decode prog_13_method_54_code 58 = .ok (.goto 145, 3) := by decide +kernel
theorem dX11_standardize_61 : decode prog_13_method_54_code 61 = .ok (.aload_n 0, 1) := by decide +kernel
theorem dX11_standardize_62 : decode prog_13_method_54_code 62 = .ok (.getfield 16, 3) := by decide +kernel
theorem dX11_standardize_65 : decode prog_13_method_54_code 65 = .ok (.iload_n 3, 1) := by decide +kernel
theorem dX11_standardize_66 : decode prog_13_method_54_code 66 = .ok (.iload 5, 2) := by decide +kernel
theorem dX11_standardize_68 : decode prog_13_method_54_code 68 = .ok (.iastore, 1) := by decide +kernel
theorem dX11_standardize_69 : decode prog_13_method_54_code 69 = .ok (.aload_n 0, 1) := by decide +kernel
theorem dX11_standardize_70 : decode prog_13_method_54_code 70 = .ok (.getfield 19, 3) := by decide +kernel
theorem dX11_standardize_73 : decode prog_13_method_54_code 73 = .ok (.iload_n 3, 1) := by decide +kernel
theorem dX11_standardize_74 : decode prog_13_method_54_code 74 = .ok (.iload 4, 2) := by decide +kernel
theorem dX11_standardize_76 : decode prog_13_method_54_code 76 = .ok (.iastore, 1) := by decide +kernel
theorem dX11_standardize_77 : decode prog_13_method_54_code 77 = .ok (.iinc 2 1, 3) := by decide +kernel
theorem dX11_standardize_80 : decode prog_13_method_54_code 80 = .ok (.iload_n 3, 1) := by decide +kernel
theorem dX11_standardize_81 : decode prog_13_method_54_code 81 = .ok (.iconst 1, 1) := by decide +kernel
theorem dX11_standardize_82 : decode prog_13_method_54_code 82 = .ok (.iadd, 1) := by decide +kernel
theorem dX11_standardize_83 : decode prog_13_method_54_code 83 = .ok (.istore 6, 2) := by decide +kernel
theorem dX11_standardize_85 : decode prog_13_method_54_code 85 = .ok (.iload 6, 2) := by decide +kernel
theorem dX11_standardize_87 : decode prog_13_method_54_code 87 = .ok (.bipush 40, 2) := by decide +kernel
theorem dX11_standardize_89 : decode prog_13_method_54_code 89 = .ok (.iload_n 1, 1) := by decide +kernel
theorem dX11_standardize_90 : decode prog_13_method_54_code 90 = .ok (.imul, 1) := by decide +kernel
theorem dX11_standardize_91 : decode prog_13_method_54_code 91 = .ok (.aload_n 0, 1) := by decide +kernel
theorem dX11_standardize_92 : decode prog_13_method_54_code 92 = .ok (.getfield 13, 3) := by decide +kernel
theorem dX11_standardize_95 : decode prog_13_method_54_code 95 = .ok (.iload_n 1, 1) := by decide +kernel
theorem dX11_standardize_96 : decode prog_13_method_54_code 96 = .ok (.iaload, 1) := by decide +kernel
theorem dX11_standardize_97 : decode prog_13_method_54_code 97 = .ok (.iadd, 1) := by decide +kernel
theorem dX11_standardize_98 : decode prog_13_method_54_code 98 = .ok (.if_icmp .ge 105, 3) := by decide +kernel
theorem dX11_standardize_101 : decode prog_13_method_54_code 101 = .ok (.aload_n 0, 1) := by decide +kernel
theorem dX11_standardize_102 : decode prog_13_method_54_code 102 = .ok (.getfield 16, 3) := by decide +kernel
theorem dX11_standardize_105 : decode prog_13_method_54_code 105 = .ok (.iload 6, 2) := by decide +kernel
theorem dX11_standardize_107 : decode prog_13_method_54_code 107 = .ok (.aload_n 0, 1) := by decide +kernel
theorem dX11_standardize_108 : decode prog_13_method_54_code 108 = .ok (.getfield 16, 3) := by decide +kernel
theorem dX11_standardize_111 : decode prog_13_method_54_code 111 = .ok (.iload 6, 2) := by decide +kernel
theorem dX11_standardize_113 : decode prog_13_method_54_code 113 = .ok (.iaload, 1) := by decide +kernel
theorem dX11_standardize_114 : decode prog_13_method_54_code 114 = .ok (.iload 4, 2) := by decide +kernel
theorem dX11_standardize_116 : decode prog_13_method_54_code 116 = .ok (.if_icmp .ne 8, 3) := by decide +kernel
theorem dX11_standardize_119 : decode prog_13_method_54_code 119 = .ok (.iload 5, 2) := by decide +kernel
theorem dX11_standardize_121 : decode prog_13_method_54_code 121 = .ok (.goto 27, 3) := by decide +kernel
theorem dX11_standardize_124 : decode prog_13_method_54_code 124 = .ok (.aload_n 0, 1) := by decide +kernel
theorem dX11_standardize_125 : decode prog_13_method_54_code 125 = .ok (.getfield 16, 3) := by decide +kernel
theorem dX11_standardize_128 : decode prog_13_method_54_code 128 = .ok (.iload 6, 2) := by decide +kernel
theorem dX11_standardize_130 : decode prog_13_method_54_code 130 = .ok (.iaload, 1) := by decide +kernel
theorem dX11_standardize_131 : decode prog_13_method_54_code 131 = .ok (.iload 5, 2) := by decide +kernel
theorem dX11_standardize_133 : decode prog_13_method_54_code 133 = .ok (.if_icmp .ne 8, 3) := by decide +kernel
theorem dX11_standardize_136 : decode prog_13_method_54_code 136 = .ok (.iload 4, 2) := by decide +kernel
theorem dX11_standardize_138 : decode prog_13_method_54_code 138 = .ok (.goto 10, 3) := by decide +kernel
theorem dX11_standardize_141 : decode prog_13_method_54_code 141 = .ok (.aload_n 0, 1) := by decide +kernel
theorem dX11_standardize_142 : decode prog_13_method_54_code 142 = .ok (.getfield 16, 3) := by decide +kernel
theorem dX11_standardize_145 : decode prog_13_method_54_code 145 = .ok (.iload 6, 2) := by decide +kernel
theorem dX11_standardize_147 : decode prog_13_method_54_code 147 = .ok (.iaload, 1) := by decide +kernel
theorem dX11_standardize_148 : decode prog_13_method_54_code 148 = .ok (.iastore, 1) := by decide +kernel
theorem dX11_standardize_149 : decode prog_13_method_54_code 149 = .ok (.aload_n 0, 1) := by decide +kernel
theorem dX11_standardize_150 : decode prog_13_method_54_code 150 = .ok (.getfield 19, 3) := by decide +kernel
theorem dX11_standardize_153 : decode prog_13_method_54_code 153 = .ok (.iload 6, 2) := by decide +kernel
theorem dX11_standardize_155 : decode prog_13_method_54_code 155 = .ok (.aload_n 0, 1) := by decide +kernel
theorem dX11_standardize_156 : decode prog_13_method_54_code 156 = .ok (.getfield 19, 3) := by decide +kernel
theorem dX11_standardize_159 : decode prog_13_method_54_code 159 = .ok (.iload 6, 2) := by decide +kernel
theorem dX11_standardize_161 : decode prog_13_method_54_code 161 = .ok (.iaload, 1) := by decide +kernel
theorem dX11_standardize_162 : decode prog_13_method_54_code 162 = .ok (.iload 4, 2) := by decide +kernel
theorem dX11_standardize_164 : decode prog_13_method_54_code 164 = .ok (.if_icmp .ne 8, 3) := by decide +kernel
theorem dX11_standardize_167 : decode prog_13_method_54_code 167 = .ok (.iload 5, 2) := by decide +kernel
theorem dX11_standardize_169 : decode prog_13_method_54_code 169 = .ok (.goto 27, 3) := by decide +kernel
theorem dX11_standardize_172 : decode prog_13_method_54_code 172 = .ok (.aload_n 0, 1) := by decide +kernel
theorem dX11_standardize_173 : decode prog_13_method_54_code 173 = .ok (.getfield 19, 3) := by decide +kernel
theorem dX11_standardize_176 : decode prog_13_method_54_code 176 = .ok (.iload 6, 2) := by decide +kernel
theorem dX11_standardize_178 : decode prog_13_method_54_code 178 = .ok (.iaload, 1) := by decide +kernel
theorem dX11_standardize_179 : decode prog_13_method_54_code 179 = .ok (.iload 5, 2) := by decide +kernel
theorem dX11_standardize_181 : decode prog_13_method_54_code 181 = .ok (.if_icmp .ne 8, 3) := by decide +kernel
theorem dX11_standardize_184 : decode prog_13_method_54_code 184 = .ok (.iload 4, 2) := by decide +kernel
theorem dX11_standardize_186 : decode prog_13_method_54_code 186 = .ok (.goto 10, 3) := by decide +kernel
theorem dX11_standardize_189 : decode prog_13_method_54_code 189 = .ok (.aload_n 0, 1) := by decide +kernel
theorem dX11_standardize_190 : decode prog_13_method_54_code 190 = .ok (.getfield 19, 3) := by decide +kernel
theorem dX11_standardize_193 : decode prog_13_method_54_code 193 = .ok (.iload 6, 2) := by decide +kernel
theorem dX11_standardize_195 : decode prog_13_method_54_code 195 = .ok (.iaload, 1) := by decide +kernel
theorem dX11_standardize_196 : decode prog_13_method_54_code 196 = .ok (.iastore, 1) := by decide +kernel
theorem dX11_standardize_197 : decode prog_13_method_54_code 197 = .ok (.iinc 6 1, 3) := by decide +kernel
theorem dX11_standardize_200 : decode prog_13_method_54_code 200 = .ok (.goto (-115), 3) := by decide +kernel
theorem dX11_standardize_203 : decode prog_13_method_54_code 203 = .ok (.iinc 3 1, 3) := by decide +kernel
theorem dX11_standardize_206 : decode prog_13_method_54_code 206 = .ok (.goto (-186), 3) := by decide +kernel
theorem dX11_standardize_209 : decode prog_13_method_54_code 209 = .ok (.iload_n 2, 1) := by decide +kernel
theorem dX11_standardize_210 : decode prog_13_method_54_code 210 = .ok (.ireturn, 1) := by decide +kernel
theorem sX11_standardize_85 {Q : Int → Hp → Prop} {h : Hp} {l1 l2 l3 l4 l5 l6 : Int}
    (hP : (rj (40 * l1) ∧ ix l1 4 ∧ rj ((40 * l1) + (h 105 l1))) ∧
    ((l6 ≥ ((40 * l1) + (h 105 l1))) →
     (rj (l3 + 1)) ∧
     E 2 mX11_standardize 20 [(0, vr 103), (1, vi l1), (2, vi l2), (3, vi (l3 + 1))] [] h (qi Q)) ∧
    ((l6 < ((40 * l1) + (h 105 l1))) →
     (ix l6 160) ∧
     (ix l6 160) ∧
     (ix l6 160 ∧ rj (l6 + 1)) ∧
     E 2 mX11_standardize 85 [(0, vr 103), (1, vi l1), (2, vi l2), (3, vi l3), (4, vi l4), (5, vi l5), (6, vi (l6 + 1))] [] (up (up h 106 l6 (if (h 106 l6) ≠ l4 then (if (h 106 l6) ≠ l5 then (h 106 l6) else l4) else l5)) 107 l6 (if (h 107 l6) ≠ l4 then (if (h 107 l6) ≠ l5 then (h 107 l6) else l4) else l5)) (qi Q))) :
    E 2 mX11_standardize 85 [(0, vr 103), (1, vi l1), (2, vi l2), (3, vi l3), (4, vi l4), (5, vi l5), (6, vi l6)] [] h (qi Q) := by
  obtain ⟨⟨v1_0, v1_1, v1_2⟩, hP⟩ := hP
  refine E_iload 6 dX11_standardize_85 rfl ?_
  refine E_bipush dX11_standardize_87 (by decide) ?_
  refine E_iload_n 1 1 dX11_standardize_89 rfl rfl ?_
  refine E_imul dX11_standardize_90 (rgI v1_0) ?_
  refine E_aload_n 0 0 dX11_standardize_91 rfl rfl ?_
  refine E_gR 105 1 dX11_standardize_92 FX11_13 ic_103 (by decide) ?_
  refine E_iload_n 1 1 dX11_standardize_95 rfl rfl ?_
  refine E_iaload dX11_standardize_96 ic_105 v1_1.1 v1_1.2 ?_
  refine E_iadd dX11_standardize_97 (rgI v1_2) ?_
  refine E_icmp_ge 203 dX11_standardize_98 rfl (fun hc => ?_) (fun hc => ?_)
  · replace hP := hP.1 (hc)
    obtain ⟨v2_0, hP⟩ := hP
    refine E_iinc 3 dX11_standardize_203 rfl (rgI v2_0) (by decide) rfl ?_
    refine E_goto 20 dX11_standardize_206 rfl ?_
    exact E_sub [1, 2, 3, 0] rfl hP
  · replace hP := hP.2 (by omega)
    obtain ⟨v3_0, hP⟩ := hP
    refine E_aload_n 0 0 dX11_standardize_101 rfl rfl ?_
    refine E_gR 106 2 dX11_standardize_102 FX11_16 ic_103 (by decide) ?_
    refine E_iload 6 dX11_standardize_105 rfl ?_
    refine E_aload_n 0 0 dX11_standardize_107 rfl rfl ?_
    refine E_gR 106 2 dX11_standardize_108 FX11_16 ic_103 (by decide) ?_
    refine E_iload 6 dX11_standardize_111 rfl ?_
    refine E_iaload dX11_standardize_113 ic_106 v3_0.1 v3_0.2 ?_
    refine E_iload 4 dX11_standardize_114 rfl ?_
    have hJ : E 2 mX11_standardize 148 [(0, vr 103), (1, vi l1), (2, vi l2), (3, vi l3), (4, vi l4), (5, vi l5), (6, vi l6)] [vi (if (h 106 l6) ≠ l4 then (if (h 106 l6) ≠ l5 then (h 106 l6) else l4) else l5), vi l6, vr 106] h (qi Q) := by
      obtain ⟨v4_0, hP⟩ := hP
      refine E_iastore dX11_standardize_148 ic_106 v4_0.1 v4_0.2 ?_
      refine E_aload_n 0 0 dX11_standardize_149 rfl rfl ?_
      refine E_gR 107 3 dX11_standardize_150 FX11_19 ic_103 (by decide) ?_
      refine E_iload 6 dX11_standardize_153 rfl ?_
      refine E_aload_n 0 0 dX11_standardize_155 rfl rfl ?_
      refine E_gR 107 3 dX11_standardize_156 FX11_19 ic_103 (by decide) ?_
      refine E_iload 6 dX11_standardize_159 rfl ?_
      refine E_iaload dX11_standardize_161 ic_107 v4_0.1 v4_0.2 ?_
      refine E_top (y := (h 107 l6)) (by simp [up]) ?_
      refine E_iload 4 dX11_standardize_162 rfl ?_
      have hJ : E 2 mX11_standardize 196 [(0, vr 103), (1, vi l1), (2, vi l2), (3, vi l3), (4, vi l4), (5, vi l5), (6, vi l6)] [vi (if (h 107 l6) ≠ l4 then (if (h 107 l6) ≠ l5 then (h 107 l6) else l4) else l5), vi l6, vr 107] (up h 106 l6 (if (h 106 l6) ≠ l4 then (if (h 106 l6) ≠ l5 then (h 106 l6) else l4) else l5)) (qi Q) := by
        obtain ⟨⟨v5_0, v5_1⟩, hP⟩ := hP
        refine E_iastore dX11_standardize_196 ic_107 v5_0.1 v5_0.2 ?_
        refine E_iinc 6 dX11_standardize_197 rfl (rgI v5_1) (by decide) rfl ?_
        refine E_goto 85 dX11_standardize_200 rfl ?_
        exact E_sub [1, 2, 3, 4, 5, 6, 0] rfl hP
      refine E_icmp_ne 172 dX11_standardize_164 rfl (fun hc => ?_) (fun hc => ?_)
      · have hp164 := (hc : (h 107 l6) ≠ l4)
        refine E_aload_n 0 0 dX11_standardize_172 rfl rfl ?_
        refine E_gR 107 3 dX11_standardize_173 FX11_19 ic_103 (by decide) ?_
        refine E_iload 6 dX11_standardize_176 rfl ?_
        refine E_iaload dX11_standardize_178 ic_107 v4_0.1 v4_0.2 ?_
        refine E_top (y := (h 107 l6)) (by simp [up]) ?_
        refine E_iload 5 dX11_standardize_179 rfl ?_
        refine E_icmp_ne 189 dX11_standardize_181 rfl (fun hc => ?_) (fun hc => ?_)
        · have hp181 := (hc : (h 107 l6) ≠ l5)
          refine E_aload_n 0 0 dX11_standardize_189 rfl rfl ?_
          refine E_gR 107 3 dX11_standardize_190 FX11_19 ic_103 (by decide) ?_
          refine E_iload 6 dX11_standardize_193 rfl ?_
          refine E_iaload dX11_standardize_195 ic_107 v4_0.1 v4_0.2 ?_
          refine E_top (y := (h 107 l6)) (by simp [up]) ?_
          exact E_top (by first | exact (if_pos (by omega)).symm | exact (if_neg (by omega)).symm | (repeat first | rw [if_pos (by omega)] | rw [if_neg (by omega)])) hJ
        · have hp181 := (by omega : (h 107 l6) = l5)
          refine E_iload 4 dX11_standardize_184 rfl ?_
          refine E_goto 196 dX11_standardize_186 rfl ?_
          exact E_top (by first | exact (if_pos (by omega)).symm | exact (if_neg (by omega)).symm | (repeat first | rw [if_pos (by omega)] | rw [if_neg (by omega)])) hJ
      · have hp164 := (by omega : (h 107 l6) = l4)
        refine E_iload 5 dX11_standardize_167 rfl ?_
        refine E_goto 196 dX11_standardize_169 rfl ?_
        exact E_top (by first | exact (if_pos (by omega)).symm | exact (if_neg (by omega)).symm | (repeat first | rw [if_pos (by omega)] | rw [if_neg (by omega)])) hJ
    refine E_icmp_ne 124 dX11_standardize_116 rfl (fun hc => ?_) (fun hc => ?_)
    · have hp116 := (hc : (h 106 l6) ≠ l4)
      refine E_aload_n 0 0 dX11_standardize_124 rfl rfl ?_
      refine E_gR 106 2 dX11_standardize_125 FX11_16 ic_103 (by decide) ?_
      refine E_iload 6 dX11_standardize_128 rfl ?_
      refine E_iaload dX11_standardize_130 ic_106 v3_0.1 v3_0.2 ?_
      refine E_iload 5 dX11_standardize_131 rfl ?_
      refine E_icmp_ne 141 dX11_standardize_133 rfl (fun hc => ?_) (fun hc => ?_)
      · have hp133 := (hc : (h 106 l6) ≠ l5)
        refine E_aload_n 0 0 dX11_standardize_141 rfl rfl ?_
        refine E_gR 106 2 dX11_standardize_142 FX11_16 ic_103 (by decide) ?_
        refine E_iload 6 dX11_standardize_145 rfl ?_
        refine E_iaload dX11_standardize_147 ic_106 v3_0.1 v3_0.2 ?_
        exact E_top (by first | exact (if_pos (by omega)).symm | exact (if_neg (by omega)).symm | (repeat first | rw [if_pos (by omega)] | rw [if_neg (by omega)])) hJ
      · have hp133 := (by omega : (h 106 l6) = l5)
        refine E_iload 4 dX11_standardize_136 rfl ?_
        refine E_goto 148 dX11_standardize_138 rfl ?_
        exact E_top (by first | exact (if_pos (by omega)).symm | exact (if_neg (by omega)).symm | (repeat first | rw [if_pos (by omega)] | rw [if_neg (by omega)])) hJ
    · have hp116 := (by omega : (h 106 l6) = l4)
      refine E_iload 5 dX11_standardize_119 rfl ?_
      refine E_goto 148 dX11_standardize_121 rfl ?_
      exact E_top (by first | exact (if_pos (by omega)).symm | exact (if_neg (by omega)).symm | (repeat first | rw [if_pos (by omega)] | rw [if_neg (by omega)])) hJ
theorem sX11_standardize_20 {Q : Int → Hp → Prop} {h : Hp} {l1 l2 l3 : Int}
    (hP : (rj (40 * l1) ∧ ix l1 4 ∧ rj ((40 * l1) + (h 105 l1))) ∧
    ((l3 ≥ ((40 * l1) + (h 105 l1))) →
     Q l2 h) ∧
    ((l3 < ((40 * l1) + (h 105 l1))) →
     (ix l3 160) ∧
     (((h 106 l3) ≥ (h 107 l3)) →
      (ix l3 160 ∧ rj (l2 + 1) ∧ rj (l3 + 1)) ∧
      E 2 mX11_standardize 85 [(0, vr 103), (1, vi l1), (2, vi (l2 + 1)), (3, vi l3), (4, vi (h 106 l3)), (5, vi (h 107 l3)), (6, vi (l3 + 1))] [] (up (up h 106 l3 (h 107 l3)) 107 l3 (h 106 l3)) (qi Q)) ∧
     (((h 106 l3) < (h 107 l3)) →
      (rj (l3 + 1)) ∧
      E 2 mX11_standardize 20 [(0, vr 103), (1, vi l1), (2, vi l2), (3, vi (l3 + 1))] [] h (qi Q)))) :
    E 2 mX11_standardize 20 [(0, vr 103), (1, vi l1), (2, vi l2), (3, vi l3)] [] h (qi Q) := by
  obtain ⟨⟨v1_0, v1_1, v1_2⟩, hP⟩ := hP
  refine E_iload_n 3 3 dX11_standardize_20 rfl rfl ?_
  refine E_bipush dX11_standardize_21 (by decide) ?_
  refine E_iload_n 1 1 dX11_standardize_23 rfl rfl ?_
  refine E_imul dX11_standardize_24 (rgI v1_0) ?_
  refine E_aload_n 0 0 dX11_standardize_25 rfl rfl ?_
  refine E_gR 105 1 dX11_standardize_26 FX11_13 ic_103 (by decide) ?_
  refine E_iload_n 1 1 dX11_standardize_29 rfl rfl ?_
  refine E_iaload dX11_standardize_30 ic_105 v1_1.1 v1_1.2 ?_
  refine E_iadd dX11_standardize_31 (rgI v1_2) ?_
  refine E_icmp_ge 209 dX11_standardize_32 rfl (fun hc => ?_) (fun hc => ?_)
  · replace hP := hP.1 (hc)
    refine E_iload_n 2 2 dX11_standardize_209 rfl rfl ?_
    exact E_retI dX11_standardize_210 rfl hP
  · replace hP := hP.2 (by omega)
    obtain ⟨v3_0, hP⟩ := hP
    refine E_aload_n 0 0 dX11_standardize_35 rfl rfl ?_
    refine E_gR 106 2 dX11_standardize_36 FX11_16 ic_103 (by decide) ?_
    refine E_iload_n 3 3 dX11_standardize_39 rfl rfl ?_
    refine E_iaload dX11_standardize_40 ic_106 v3_0.1 v3_0.2 ?_
    refine E_istore dX11_standardize_41 (by decide) rfl ?_
    refine E_aload_n 1 0 dX11_standardize_43 rfl rfl ?_
    refine E_gR 107 3 dX11_standardize_44 FX11_19 ic_103 (by decide) ?_
    refine E_iload_n 4 3 dX11_standardize_47 rfl rfl ?_
    refine E_iaload dX11_standardize_48 ic_107 v3_0.1 v3_0.2 ?_
    refine E_istore dX11_standardize_49 (by decide) rfl ?_
    refine E_iload 1 dX11_standardize_51 rfl ?_
    refine E_iload 0 dX11_standardize_53 rfl ?_
    refine E_icmp_ge 61 dX11_standardize_55 rfl (fun hc => ?_) (fun hc => ?_)
    · replace hP := hP.1 (hc)
      obtain ⟨⟨v4_0, v4_1, v4_2⟩, hP⟩ := hP
      refine E_aload_n 2 0 dX11_standardize_61 rfl rfl ?_
      refine E_gR 106 2 dX11_standardize_62 FX11_16 ic_103 (by decide) ?_
      refine E_iload_n 5 3 dX11_standardize_65 rfl rfl ?_
      refine E_iload 0 dX11_standardize_66 rfl ?_
      refine E_iastore dX11_standardize_68 ic_106 v4_0.1 v4_0.2 ?_
      refine E_aload_n 2 0 dX11_standardize_69 rfl rfl ?_
      refine E_gR 107 3 dX11_standardize_70 FX11_19 ic_103 (by decide) ?_
      refine E_iload_n 5 3 dX11_standardize_73 rfl rfl ?_
      refine E_iload 1 dX11_standardize_74 rfl ?_
      refine E_iastore dX11_standardize_76 ic_107 v4_0.1 v4_0.2 ?_
      refine E_iinc 4 dX11_standardize_77 rfl (rgI v4_1) (by decide) rfl ?_
      refine E_iload_n 5 3 dX11_standardize_80 rfl rfl ?_
      refine E_iconst dX11_standardize_81 (rg_of rfl) ?_
      refine E_iadd dX11_standardize_82 (rgI v4_2) ?_
      refine E_istore dX11_standardize_83 (by decide) rfl ?_
      exact E_sub [4, 5, 1, 6, 3, 2, 0] rfl hP
    · replace hP := hP.2 (by omega)
      obtain ⟨v5_0, hP⟩ := hP
      refine E_goto 203 dX11_standardize_58 rfl ?_
      refine E_iinc 5 dX11_standardize_203 rfl (rgI v5_0) (by decide) rfl ?_
      refine E_goto 20 dX11_standardize_206 rfl ?_
      exact E_sub [3, 4, 5, 0] rfl hP
theorem sX11_standardize {Q : Int → Hp → Prop} {h : Hp} {l1 : Int}
    (hP : ((l1 ≥ 0 ∧ l1 ≤ 3) →
     CV 0 mX11_remembers [vr 103] h (fun h3 =>
      (rj (40 * l1)) ∧
      E 2 mX11_standardize 20 [(0, vr 103), (1, vi l1), (2, vi 0), (3, vi (40 * l1))] [] h3 (qi Q))) ∧
    ((l1 < 0 ∨ l1 > 3) →
     Q (-1) h)) :
    CI 2 mX11_standardize [vr 103, vi l1] h Q := by
  refine CI_of_E fX11_standardize.1 rfl (Nat.le_of_ble_eq_true rfl) ?_
  show E 2 mX11_standardize 0 [(0, vr 103), (1, vi l1)] [] h (qi Q)
  refine E_iload_n 1 1 dX11_standardize_0 rfl rfl ?_
  refine E_invSI [vi l1] dX11_standardize_1 fX11_isNet lX11_88 (by decide) rfl rfl (Nat.le_of_ble_eq_true rfl) (sX11_isNet (h := h) (l0 := l1) ?_)
  refine E_if_ne 9 dX11_standardize_4 rfl (fun hc => ?_) (fun hc => ?_)
  · replace hP := hP.1 (by have := ite1' hc; omega)
    refine E_aload_n 0 0 dX11_standardize_9 rfl rfl ?_
    refine E_invVV [] dX11_standardize_10 fX11_remembers lX11_92 ic_103 rfl (by decide) rfl rfl (Nat.le_of_ble_eq_true rfl) (CV_mono hP (fun h3 hP => ?_))
    obtain ⟨v4_0, hP⟩ := hP
    refine E_iconst dX11_standardize_13 (rg_of rfl) ?_
    refine E_istore_n dX11_standardize_14 rfl (by decide) rfl ?_
    refine E_bipush dX11_standardize_15 (by decide) ?_
    refine E_iload_n 2 1 dX11_standardize_17 rfl rfl ?_
    refine E_imul dX11_standardize_18 (rgI v4_0) ?_
    refine E_istore_n dX11_standardize_19 rfl (by decide) rfl ?_
    exact E_sub [2, 3, 1, 0] rfl hP
  · replace hP := hP.2 (by have := ite0 hc; omega)
    refine E_iconst dX11_standardize_7 (rg_of rfl) ?_
    exact E_retI dX11_standardize_8 rfl hP
theorem dX11_mirror_0 : decode prog_13_method_55_code 0 = .ok (.iload_n 1, 1) := by decide +kernel
theorem dX11_mirror_1 : decode prog_13_method_55_code 1 = .ok (.invokestatic 88, 3) := by decide +kernel
theorem dX11_mirror_4 : decode prog_13_method_55_code 4 = .ok (.ifCond .ne 5, 3) := by decide +kernel
theorem dX11_mirror_7 : decode prog_13_method_55_code 7 = .ok (.iconst (-1), 1) := by decide +kernel
theorem dX11_mirror_8 : decode prog_13_method_55_code 8 = .ok (.ireturn, 1) := by decide +kernel
theorem dX11_mirror_9 : decode prog_13_method_55_code 9 = .ok (.aload_n 0, 1) := by decide +kernel
theorem dX11_mirror_10 : decode prog_13_method_55_code 10 = .ok (.invokevirtual 92, 3) := by decide +kernel
theorem dX11_mirror_13 : decode prog_13_method_55_code 13 = .ok (.bipush 40, 2) := by decide +kernel
theorem dX11_mirror_15 : decode prog_13_method_55_code 15 = .ok (.iload_n 1, 1) := by decide +kernel
theorem dX11_mirror_16 : decode prog_13_method_55_code 16 = .ok (.imul, 1) := by decide +kernel
theorem dX11_mirror_17 : decode prog_13_method_55_code 17 = .ok (.istore_n 2, 1) := by decide +kernel
theorem dX11_mirror_18 : decode prog_13_method_55_code 18 = .ok (.iload_n 2, 1) := by decide +kernel
theorem dX11_mirror_19 : decode prog_13_method_55_code 19 = .ok (.bipush 40, 2) := by decide +kernel
theorem dX11_mirror_21 : decode prog_13_method_55_code 21 = .ok (.iload_n 1, 1) := by decide +kernel
theorem dX11_mirror_22 : decode prog_13_method_55_code 22 = .ok (.imul, 1) := by decide +kernel
theorem dX11_mirror_23 : decode prog_13_method_55_code 23 = .ok (.aload_n 0, 1) := by decide +kernel
theorem dX11_mirror_24 : decode prog_13_method_55_code 24 = .ok (.getfield 13, 3) := by decide +kernel
theorem dX11_mirror_27 : decode prog_13_method_55_code 27 = .ok (.iload_n 1, 1) := by decide +kernel
theorem dX11_mirror_28 : decode prog_13_method_55_code 28 = .ok (.iaload, 1) := by decide +kernel
theorem dX11_mirror_29 : decode prog_13_method_55_code 29 = .ok (.iadd, 1) := by decide +kernel
theorem dX11_mirror_30 : decode prog_13_method_55_code 30 = .ok (.if_icmp .ge 53, 3) := by decide +kernel
theorem dX11_mirror_33 : decode prog_13_method_55_code 33 = .ok (.aload_n 0, 1) := by decide +kernel
theorem dX11_mirror_34 : decode prog_13_method_55_code 34 = .ok (.getfield 16, 3) := by decide +kernel
theorem dX11_mirror_37 : decode prog_13_method_55_code 37 = .ok (.iload_n 2, 1) := by decide +kernel
theorem dX11_mirror_38 : decode prog_13_method_55_code 38 = .ok (.iaload, 1) := by decide +kernel
theorem dX11_mirror_39 : decode prog_13_method_55_code 39 = .ok (.istore_n 3, 1) := by decide +kernel
theorem dX11_mirror_40 : decode prog_13_method_55_code 40 = .ok (.aload_n 0, 1) := by decide +kernel
theorem dX11_mirror_41 : decode prog_13_method_55_code 41 = .ok (.getfield 16, 3) := by decide +kernel
theorem dX11_mirror_44 : decode prog_13_method_55_code 44 = .ok (.iload_n 2, 1) := by decide +kernel
theorem dX11_mirror_45 : decode prog_13_method_55_code 45 = .ok (.aload_n 0, 1) := by decide +kernel
theorem dX11_mirror_46 : decode prog_13_method_55_code 46 = .ok (.getfield 9, 3) := by decide +kernel
theorem dX11_mirror_49 : decode prog_13_method_55_code 49 = .ok (.iload_n 1, 1) := by decide +kernel
theorem dX11_mirror_50 : decode prog_13_method_55_code 50 = .ok (.iaload, 1) := by decide +kernel
theorem dX11_mirror_51 : decode prog_13_method_55_code 51 = .ok (.iconst 1, 1) := by decide +kernel
theorem dX11_mirror_52 : decode prog_13_method_55_code 52 = .ok (.isub, 1) := by decide +kernel
theorem dX11_mirror_53 : decode prog_13_method_55_code 53 = .ok (.aload_n 0, 1) := by decide +kernel
theorem dX11_mirror_54 : decode prog_13_method_55_code 54 = .ok (.getfield 19, 3) := by decide +kernel
theorem dX11_mirror_57 : decode prog_13_method_55_code 57 = .ok (.iload_n 2, 1) := by decide +kernel
theorem dX11_mirror_58 : decode prog_13_method_55_code 58 = .ok (.iaload, 1) := by decide +kernel
theorem dX11_mirror_59 : decode prog_13_method_55_code 59 = .ok (.isub, 1) := by decide +kernel
theorem dX11_mirror_60 : decode prog_13_method_55_code 60 = .ok (.iastore, 1) := by decide +kernel
theorem dX11_mirror_61 : decode prog_13_method_55_code 61 = .ok (.aload_n 0, 1) := by decide +kernel
theorem dX11_mirror_62 : decode prog_13_method_55_code 62 = .ok (.getfield 19, 3) := by decide +kernel
theorem dX11_mirror_65 : decode prog_13_method_55_code 65 = .ok (.iload_n 2, 1) := by decide +kernel
theorem dX11_mirror_66 : decode prog_13_method_55_code 66 = .ok (.aload_n 0, 1) := by decide +kernel
theorem dX11_mirror_67 : decode prog_13_method_55_code 67 = .ok (.getfield 9, 3) := by decide +kernel
theorem dX11_mirror_70 : decode prog_13_method_55_code 70 = .ok (.iload_n 1, 1) := by decide +kernel
theorem dX11_mirror_71 : decode prog_13_method_55_code 71 = .ok (.iaload, 1) := by decide +kernel
theorem dX11_mirror_72 : decode prog_13_method_55_code 72 = .ok (.iconst 1, 1) := by decide +kernel
theorem dX11_mirror_73 : decode prog_13_method_55_code 73 = .ok (.isub, 1) := by decide +kernel
theorem dX11_mirror_74 : decode prog_13_method_55_code 74 = .ok (.iload_n 3, 1) := by decide +kernel
theorem dX11_mirror_75 : decode prog_13_method_55_code 75 = .ok (.isub, 1) := by decide +kernel
theorem dX11_mirror_76 : decode prog_13_method_55_code 76 = .ok (.iastore, 1) := by decide +kernel
theorem dX11_mirror_77 : decode prog_13_method_55_code 77 = .ok (.iinc 2 1, 3) := by decide +kernel
theorem dX11_mirror_80 : decode prog_13_method_55_code 80 = .ok (.goto (-62), 3) := by decide +kernel
theorem dX11_mirror_83 : decode prog_13_method_55_code 83 = .ok (.aload_n 0, 1) := by decide +kernel
theorem dX11_mirror_84 : decode prog_13_method_55_code 84 = .ok (.getfield 13, 3) := by decide +kernel
theorem dX11_mirror_87 : decode prog_13_method_55_code 87 = .ok (.iload_n 1, 1) := by decide +kernel
theorem dX11_mirror_88 : decode prog_13_method_55_code 88 = .ok (.iaload, 1) := by decide +kernel
theorem dX11_mirror_89 : decode prog_13_method_55_code 89 = .ok (.ireturn, 1) := by decide +kernel
theorem sX11_mirror_18 {Q : Int → Hp → Prop} {h : Hp} {l1 l2 : Int}
    (hP : (rj (40 * l1) ∧ ix l1 4 ∧ rj ((40 * l1) + (h 105 l1))) ∧
    ((l2 ≥ ((40 * l1) + (h 105 l1))) →
     (ix l1 4) ∧
     Q (h 105 l1) h) ∧
    ((l2 < ((40 * l1) + (h 105 l1))) →
     (ix l2 160 ∧ ix l1 4 ∧ rj ((h 104 l1) - 1) ∧ rj (((h 104 l1) - 1) - (h 107 l2)) ∧ rj (((h 104 l1) - 1) - (h 106 l2)) ∧ rj (l2 + 1)) ∧
     E 2 mX11_mirror 18 [(0, vr 103), (1, vi l1), (2, vi (l2 + 1))] [] (up (up h 106 l2 (((h 104 l1) - 1) - (h 107 l2))) 107 l2 (((h 104 l1) - 1) - (h 106 l2))) (qi Q))) :
    E 2 mX11_mirror 18 [(0, vr 103), (1, vi l1), (2, vi l2)] [] h (qi Q) := by
  obtain ⟨⟨v1_0, v1_1, v1_2⟩, hP⟩ := hP
  refine E_iload_n 2 2 dX11_mirror_18 rfl rfl ?_
  refine E_bipush dX11_mirror_19 (by decide) ?_
  refine E_iload_n 1 1 dX11_mirror_21 rfl rfl ?_
  refine E_imul dX11_mirror_22 (rgI v1_0) ?_
  refine E_aload_n 0 0 dX11_mirror_23 rfl rfl ?_
  refine E_gR 105 1 dX11_mirror_24 FX11_13 ic_103 (by decide) ?_
  refine E_iload_n 1 1 dX11_mirror_27 rfl rfl ?_
  refine E_iaload dX11_mirror_28 ic_105 v1_1.1 v1_1.2 ?_
  refine E_iadd dX11_mirror_29 (rgI v1_2) ?_
  refine E_icmp_ge 83 dX11_mirror_30 rfl (fun hc => ?_) (fun hc => ?_)
  · replace hP := hP.1 (hc)
    obtain ⟨v2_0, hP⟩ := hP
    refine E_aload_n 0 0 dX11_mirror_83 rfl rfl ?_
    refine E_gR 105 1 dX11_mirror_84 FX11_13 ic_103 (by decide) ?_
    refine E_iload_n 1 1 dX11_mirror_87 rfl rfl ?_
    refine E_iaload dX11_mirror_88 ic_105 v2_0.1 v2_0.2 ?_
    exact E_retI dX11_mirror_89 rfl hP
  · replace hP := hP.2 (by omega)
    obtain ⟨⟨v3_0, v3_1, v3_2, v3_3, v3_4, v3_5⟩, hP⟩ := hP
    refine E_aload_n 0 0 dX11_mirror_33 rfl rfl ?_
    refine E_gR 106 2 dX11_mirror_34 FX11_16 ic_103 (by decide) ?_
    refine E_iload_n 2 2 dX11_mirror_37 rfl rfl ?_
    refine E_iaload dX11_mirror_38 ic_106 v3_0.1 v3_0.2 ?_
    refine E_istore_n dX11_mirror_39 rfl (by decide) rfl ?_
    refine E_aload_n 1 0 dX11_mirror_40 rfl rfl ?_
    refine E_gR 106 2 dX11_mirror_41 FX11_16 ic_103 (by decide) ?_
    refine E_iload_n 3 2 dX11_mirror_44 rfl rfl ?_
    refine E_aload_n 1 0 dX11_mirror_45 rfl rfl ?_
    refine E_gR 104 0 dX11_mirror_46 FX11_9 ic_103 (by decide) ?_
    refine E_iload_n 2 1 dX11_mirror_49 rfl rfl ?_
    refine E_iaload dX11_mirror_50 ic_104 v3_1.1 v3_1.2 ?_
    refine E_iconst dX11_mirror_51 (rg_of rfl) ?_
    refine E_isub dX11_mirror_52 (rgI v3_2) ?_
    refine E_aload_n 1 0 dX11_mirror_53 rfl rfl ?_
    refine E_gR 107 3 dX11_mirror_54 FX11_19 ic_103 (by decide) ?_
    refine E_iload_n 3 2 dX11_mirror_57 rfl rfl ?_
    refine E_iaload dX11_mirror_58 ic_107 v3_0.1 v3_0.2 ?_
    refine E_isub dX11_mirror_59 (rgI v3_3) ?_
    refine E_iastore dX11_mirror_60 ic_106 v3_0.1 v3_0.2 ?_
    refine E_aload_n 1 0 dX11_mirror_61 rfl rfl ?_
    refine E_gR 107 3 dX11_mirror_62 FX11_19 ic_103 (by decide) ?_
    refine E_iload_n 3 2 dX11_mirror_65 rfl rfl ?_
    refine E_aload_n 1 0 dX11_mirror_66 rfl rfl ?_
    refine E_gR 104 0 dX11_mirror_67 FX11_9 ic_103 (by decide) ?_
    refine E_iload_n 2 1 dX11_mirror_70 rfl rfl ?_
    refine E_iaload dX11_mirror_71 ic_104 v3_1.1 v3_1.2 ?_
    refine E_top (y := (h 104 l1)) (by simp [up]) ?_
    refine E_iconst dX11_mirror_72 (rg_of rfl) ?_
    refine E_isub dX11_mirror_73 (rgI v3_2) ?_
    refine E_iload_n 0 3 dX11_mirror_74 rfl rfl ?_
    refine E_isub dX11_mirror_75 (rgI v3_4) ?_
    refine E_iastore dX11_mirror_76 ic_107 v3_0.1 v3_0.2 ?_
    refine E_iinc 3 dX11_mirror_77 rfl (rgI v3_5) (by decide) rfl ?_
    refine E_goto 18 dX11_mirror_80 rfl ?_
    exact E_sub [2, 3, 0] rfl hP
theorem sX11_mirror {Q : Int → Hp → Prop} {h : Hp} {l1 : Int}
    (hP : ((l1 ≥ 0 ∧ l1 ≤ 3) →
     CV 0 mX11_remembers [vr 103] h (fun h3 =>
      (rj (40 * l1)) ∧
      E 2 mX11_mirror 18 [(0, vr 103), (1, vi l1), (2, vi (40 * l1))] [] h3 (qi Q))) ∧
    ((l1 < 0 ∨ l1 > 3) →
     Q (-1) h)) :
    CI 2 mX11_mirror [vr 103, vi l1] h Q := by
  refine CI_of_E fX11_mirror.1 rfl (Nat.le_of_ble_eq_true rfl) ?_
  show E 2 mX11_mirror 0 [(0, vr 103), (1, vi l1)] [] h (qi Q)
  refine E_iload_n 1 1 dX11_mirror_0 rfl rfl ?_
  refine E_invSI [vi l1] dX11_mirror_1 fX11_isNet lX11_88 (by decide) rfl rfl (Nat.le_of_ble_eq_true rfl) (sX11_isNet (h := h) (l0 := l1) ?_)
  refine E_if_ne 9 dX11_mirror_4 rfl (fun hc => ?_) (fun hc => ?_)
  · replace hP := hP.1 (by have := ite1' hc; omega)
    refine E_aload_n 0 0 dX11_mirror_9 rfl rfl ?_
    refine E_invVV [] dX11_mirror_10 fX11_remembers lX11_92 ic_103 rfl (by decide) rfl rfl (Nat.le_of_ble_eq_true rfl) (CV_mono hP (fun h3 hP => ?_))
    obtain ⟨v4_0, hP⟩ := hP
    refine E_bipush dX11_mirror_13 (by decide) ?_
    refine E_iload_n 1 1 dX11_mirror_15 rfl rfl ?_
    refine E_imul dX11_mirror_16 (rgI v4_0) ?_
    refine E_istore_n dX11_mirror_17 rfl (by decide) rfl ?_
    exact E_sub [1, 2, 0] rfl hP
  · replace hP := hP.2 (by have := ite0 hc; omega)
    refine E_iconst dX11_mirror_7 (rg_of rfl) ?_
    exact E_retI dX11_mirror_8 rfl hP
