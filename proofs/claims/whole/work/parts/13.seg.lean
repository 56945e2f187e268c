theorem dX11_counts_0 : decode prog_13_method_56_code 0 = .ok (.iconst 0, 1) := by decide +kernel
theorem dX11_counts_1 : decode prog_13_method_56_code 1 = .ok (.istore 4, 2) := by decide +kernel
theorem dX11_counts_3 : decode prog_13_method_56_code 3 = .ok (.iload 4, 2) := by decide +kernel
theorem dX11_counts_5 : decode prog_13_method_56_code 5 = .ok (.sipush 256, 3) := by decide +kernel
theorem dX11_counts_8 : decode prog_13_method_56_code 8 = .ok (.if_icmp .ge 17, 3) := by decide +kernel
theorem dX11_counts_11 : decode prog_13_method_56_code 11 = .ok (.aload_n 0, 1) := by decide +kernel
theorem dX11_counts_12 : decode prog_13_method_56_code 12 = .ok (.getfield 59, 3) := by decide +kernel
theorem dX11_counts_15 : decode prog_13_method_56_code 15 = .ok (.iload 4, 2) := by decide +kernel
theorem dX11_counts_17 : decode prog_13_method_56_code 17 = .ok (.iconst 0, 1) := by decide +kernel
theorem dX11_counts_18 : decode prog_13_method_56_code 18 = .ok (.bastore, 1) := by decide +kernel
theorem dX11_counts_19 : decode prog_13_method_56_code 19 = .ok (.iinc 4 1, 3) := by decide +kernel
theorem dX11_counts_22 : decode prog_13_method_56_code 22 = .ok (.goto (-19), 3) := by decide +kernel
theorem dX11_counts_25 : decode prog_13_method_56_code 25 = .ok (.iconst 0, 1) := by decide +kernel
theorem dX11_counts_26 : decode prog_13_method_56_code 26 = .ok (.istore 4, 2) := by decide +kernel
theorem dX11_counts_28 : decode prog_13_method_56_code 28 = .ok (.iconst 0, 1) := by decide +kernel
theorem dX11_counts_29 : decode prog_13_method_56_code 29 = .ok (.istore 5, 2) := by decide +kernel
theorem dX11_counts_31 : decode prog_13_method_56_code 31 = .ok (.iload 5, 2) := by decide +kernel
theorem dX11_counts_33 : decode prog_13_method_56_code 33 = .ok (.iconst 1, 1) := by decide +kernel
theorem dX11_counts_34 : decode prog_13_method_56_code 34 = .ok (.iload_n 1, 1) := by decide +kernel
theorem dX11_counts_35 : decode prog_13_method_56_code 35 = .ok (.ishl, 1) := by decide +kernel
theorem dX11_counts_36 : decode prog_13_method_56_code 36 = .ok (.if_icmp .ge 82, 3) := by decide +kernel
theorem dX11_counts_39 : decode prog_13_method_56_code 39 = .ok (.aload_n 0, 1) := by decide +kernel
theorem dX11_counts_40 : decode prog_13_method_56_code 40 = .ok (.getfield 55, 3) := by decide +kernel
theorem dX11_counts_43 : decode prog_13_method_56_code 43 = .ok (.iload 5, 2) := by decide +kernel
theorem dX11_counts_45 : decode prog_13_method_56_code 45 = .ok (.baload, 1) := by decide +kernel
theorem dX11_counts_46 : decode prog_13_method_56_code 46 = .ok (.ifCond .ne 6, 3) := by decide +kernel
theorem dX11_counts_49 : decode prog_13_method_56_code 49 = .ok (.goto 63, 3) := by decide +kernel
theorem dX11_counts_52 : decode prog_13_method_56_code 52 = .ok (.iload 5, 2) := by decide +kernel
theorem dX11_counts_54 : decode prog_13_method_56_code 54 = .ok (.iload_n 2, 1) := by decide +kernel
theorem dX11_counts_55 : decode prog_13_method_56_code 55 = .ok (.ishr, 1) := by decide +kernel
theorem dX11_counts_56 : decode prog_13_method_56_code 56 = .ok (.iconst 1, 1) := by decide +kernel
theorem dX11_counts_57 : decode prog_13_method_56_code 57 = .ok (.iand, 1) := by decide +kernel
theorem dX11_counts_58 : decode prog_13_method_56_code 58 = .ok (.iload 5, 2) := by decide +kernel
theorem dX11_counts_60 : decode prog_13_method_56_code 60 = .ok (.iload_n 3, 1) := by decide +kernel
theorem dX11_counts_61 : decode prog_13_method_56_code 61 = .ok (.ishr, 1) := by decide +kernel
theorem dX11_counts_62 : decode prog_13_method_56_code 62 = .ok (.iconst 1, 1) := by decide +kernel
theorem dX11_counts_63 : decode prog_13_method_56_code 63 = .ok (.iand, 1) := by decide +kernel
theorem dX11_counts_64 : decode prog_13_method_56_code 64 = .ok (.if_icmp .le 16, 3) := by decide +kernel
theorem dX11_counts_67 : decode prog_13_method_56_code 67 = .ok (.iload 5, 2) := by decide +kernel
theorem dX11_counts_69 : decode prog_13_method_56_code 69 = .ok (.iconst 1, 1) := by decide +kernel
theorem dX11_counts_70 : decode prog_13_method_56_code 70 = .ok (.iload_n 2, 1) := by decide +kernel
theorem dX11_counts_71 : decode prog_13_method_56_code 71 = .ok (.ishl, 1) := by decide +kernel
theorem dX11_counts_72 : decode prog_13_method_56_code 72 = .ok (.iconst 1, 1) := by decide +kernel
theorem dX11_counts_73 : decode prog_13_method_56_code 73 = .ok (.iload_n 3, 1) := by decide +kernel
theorem dX11_counts_74 : decode prog_13_method_56_code 74 = .ok (.ishl, 1) := by decide +kernel
theorem dX11_counts_75 : decode prog_13_method_56_code 75 = .ok (.ior, 1) := by decide +kernel
theorem dX11_counts_76 : decode prog_13_method_56_code 76 = .ok (.ixor, 1) := by decide +kernel
theorem dX11_counts_77 : decode prog_13_method_56_code 77 = .ok (.goto 5, 3) := by decide +kernel
theorem dX11_counts_80 : decode prog_13_method_56_code 80 = .ok (.iload 5, 2) := by decide +kernel
theorem dX11_counts_82 : decode prog_13_method_56_code 82 = .ok (.istore 6, 2) := by decide +kernel
theorem dX11_counts_84 : decode prog_13_method_56_code 84 = .ok (.iload 4, 2) := by decide +kernel
theorem dX11_counts_86 : decode prog_13_method_56_code 86 = .ok (.aload_n 0, 1) := by decide +kernel
theorem dX11_counts_87 : decode prog_13_method_56_code 87 = .ok (.getfield 59, 3) := by decide +kernel
theorem dX11_counts_90 : decode prog_13_method_56_code 90 = .ok (.iload 6, 2) := by decide +kernel
theorem dX11_counts_92 : decode prog_13_method_56_code 92 = .ok (.baload, 1) := by decide +kernel
theorem dX11_counts_93 : decode prog_13_method_56_code 93 = .ok (.ifCond .eq 7, 3) := by decide +kernel
theorem dX11_counts_96 : decode prog_13_method_56_code 96 = .ok (.iconst 0, 1) := by decide +kernel
theorem dX11_counts_97 : decode prog_13_method_56_code 97 = .ok (.goto 4, 3) := by decide +kernel
theorem dX11_counts_100 : decode prog_13_method_56_code 100 = .ok (.iconst 1, 1) := by decide +kernel
theorem dX11_counts_101 : decode prog_13_method_56_code 101 = .ok (.iadd, 1) := by decide +kernel
theorem dX11_counts_102 : decode prog_13_method_56_code 102 = .ok (.istore 4, 2) := by decide +kernel
theorem dX11_counts_104 : decode prog_13_method_56_code 104 = .ok (.aload_n 0, 1) := by decide +kernel
theorem dX11_counts_105 : decode prog_13_method_56_code 105 = .ok (.getfield 59, 3) := by decide +kernel
theorem dX11_counts_108 : decode prog_13_method_56_code 108 = .ok (.iload 6, 2) := by decide +kernel
theorem dX11_counts_110 : decode prog_13_method_56_code 110 = .ok (.iconst 1, 1) := by decide +kernel
theorem dX11_counts_111 : decode prog_13_method_56_code 111 = .ok (.bastore, 1) := by decide +kernel
theorem dX11_counts_112 : decode prog_13_method_56_code 112 = .ok (.iinc 5 1, 3) := by decide +kernel
theorem dX11_counts_115 : decode prog_13_method_56_code 115 = .ok (.goto (-84), 3) := by decide +kernel
theorem dX11_counts_118 : decode prog_13_method_56_code 118 = .ok (.iload 4, 2) := by decide +kernel
theorem dX11_counts_120 : decode prog_13_method_56_code 120 = .ok (.ireturn, 1) := by decide +kernel
theorem sX11_counts_31 {Q : Int → Hp → Prop} {h : Hp} {l1 l2 l3 l4 l5 : Int}
    (hP : ((l5 ≥ (j_ishl 1 l1)) →
     Q l4 h) ∧
    ((l5 < (j_ishl 1 l1)) →
     (ix l5 256) ∧
     (((h 119 l5) ≠ 0) →
      (∀ x6 : Int, x6 = (if (j_iand (j_ishr l5 l2) 1) ≤ (j_iand (j_ishr l5 l3) 1) then l5 else (j_ixor l5 (j_ior (j_ishl 1 l2) (j_ishl 1 l3)))) →
      (ix x6 256) ∧
      (rj (l4 + (if (h 120 x6) = 0 then (1 : Int) else 0))) ∧
      (∀ x9 : Int, x9 = (l4 + (if (h 120 x6) = 0 then (1 : Int) else 0)) →
      (ix x6 256 ∧ rj (l5 + 1)) ∧
      E 0 mX11_counts 31 [(0, vr 103), (1, vi l1), (2, vi l2), (3, vi l3), (4, vi x9), (5, vi (l5 + 1))] [] (up h 120 x6 1) (qi Q)))) ∧
     (((h 119 l5) = 0) →
      (rj (l5 + 1)) ∧
      E 0 mX11_counts 31 [(0, vr 103), (1, vi l1), (2, vi l2), (3, vi l3), (4, vi l4), (5, vi (l5 + 1))] [] h (qi Q)))) :
    E 0 mX11_counts 31 [(0, vr 103), (1, vi l1), (2, vi l2), (3, vi l3), (4, vi l4), (5, vi l5)] [] h (qi Q) := by
  refine E_iload 5 dX11_counts_31 rfl ?_
  refine E_iconst dX11_counts_33 (rg_of rfl) ?_
  refine E_iload_n 1 1 dX11_counts_34 rfl rfl ?_
  refine E_ishl dX11_counts_35 ?_
  refine E_icmp_ge 118 dX11_counts_36 rfl (fun hc => ?_) (fun hc => ?_)
  · replace hP := hP.1 (hc)
    refine E_iload 4 dX11_counts_118 rfl ?_
    exact E_retI dX11_counts_120 rfl hP
  · replace hP := hP.2 (by omega)
    obtain ⟨v3_0, hP⟩ := hP
    refine E_aload_n 0 0 dX11_counts_39 rfl rfl ?_
    refine E_gR 119 21 dX11_counts_40 FX11_55 ic_103 (by decide) ?_
    refine E_iload 5 dX11_counts_43 rfl ?_
    refine E_baload dX11_counts_45 ic_119 v3_0.1 v3_0.2 ?_
    refine E_if_ne 52 dX11_counts_46 rfl (fun hc => ?_) (fun hc => ?_)
    · replace hP := hP.1 (hc)
      refine E_iload 5 dX11_counts_52 rfl ?_
      refine E_iload_n 2 2 dX11_counts_54 rfl rfl ?_
      refine E_ishr dX11_counts_55 ?_
      refine E_iconst dX11_counts_56 (rg_of rfl) ?_
      refine E_iand dX11_counts_57 ?_
      refine E_iload 5 dX11_counts_58 rfl ?_
      refine E_iload_n 3 3 dX11_counts_60 rfl rfl ?_
      refine E_ishr dX11_counts_61 ?_
      refine E_iconst dX11_counts_62 (rg_of rfl) ?_
      refine E_iand dX11_counts_63 ?_
      have hJ : E 0 mX11_counts 82 [(0, vr 103), (1, vi l1), (2, vi l2), (3, vi l3), (4, vi l4), (5, vi l5)] [vi (if (j_iand (j_ishr l5 l2) 1) ≤ (j_iand (j_ishr l5 l3) 1) then l5 else (j_ixor l5 (j_ior (j_ishl 1 l2) (j_ishl 1 l3))))] h (qi Q) := by
        obtain ⟨x6, hx6⟩ : ∃ x : Int, x = (if (j_iand (j_ishr l5 l2) 1) ≤ (j_iand (j_ishr l5 l3) 1) then l5 else (j_ixor l5 (j_ior (j_ishl 1 l2) (j_ishl 1 l3)))) := ⟨_, rfl⟩
        refine E_top hx6.symm ?_
        replace hP := hP x6 hx6
        refine E_istore dX11_counts_82 (by decide) rfl ?_
        obtain ⟨v7_0, hP⟩ := hP
        refine E_iload 5 dX11_counts_84 rfl ?_
        refine E_aload_n 1 0 dX11_counts_86 rfl rfl ?_
        refine E_gR 120 22 dX11_counts_87 FX11_59 ic_103 (by decide) ?_
        refine E_iload 0 dX11_counts_90 rfl ?_
        refine E_baload dX11_counts_92 ic_120 v7_0.1 v7_0.2 ?_
        have hJ : E 0 mX11_counts 101 [(6, vi x6), (0, vr 103), (1, vi l1), (2, vi l2), (3, vi l3), (4, vi l4), (5, vi l5)] [vi (if (h 120 x6) = 0 then (1 : Int) else 0), vi l4] h (qi Q) := by
          obtain ⟨v8_0, hP⟩ := hP
          refine E_iadd dX11_counts_101 (rgI v8_0) ?_
          obtain ⟨x9, hx9⟩ : ∃ x : Int, x = (l4 + (if (h 120 x6) = 0 then (1 : Int) else 0)) := ⟨_, rfl⟩
          refine E_top hx9.symm ?_
          replace hP := hP x9 hx9
          refine E_istore dX11_counts_102 (by decide) rfl ?_
          obtain ⟨⟨v10_0, v10_1⟩, hP⟩ := hP
          refine E_aload_n 2 0 dX11_counts_104 rfl rfl ?_
          refine E_gR 120 22 dX11_counts_105 FX11_59 ic_103 (by decide) ?_
          refine E_iload 1 dX11_counts_108 rfl ?_
          refine E_iconst dX11_counts_110 (rg_of rfl) ?_
          refine E_bastore dX11_counts_111 ic_120 v10_0.1 v10_0.2 (Or.inr rfl) ?_
          refine E_iinc 6 dX11_counts_112 rfl (rgI v10_1) (by decide) rfl ?_
          refine E_goto 31 dX11_counts_115 rfl ?_
          exact E_sub [3, 4, 5, 6, 1, 0] rfl hP
        refine E_if_eq 100 dX11_counts_93 rfl (fun hc => ?_) (fun hc => ?_)
        · have hp93 := (hc : (h 120 x6) = 0)
          refine E_iconst dX11_counts_100 (rg_of rfl) ?_
          exact E_top (if_pos (by omega)).symm hJ
        · have hp93 := (by omega : (h 120 x6) ≠ 0)
          refine E_iconst dX11_counts_96 (rg_of rfl) ?_
          refine E_goto 101 dX11_counts_97 rfl ?_
          exact E_top (if_neg (by omega)).symm hJ
      refine E_icmp_le 80 dX11_counts_64 rfl (fun hc => ?_) (fun hc => ?_)
      · have hp64 := (hc : (j_iand (j_ishr l5 l2) 1) ≤ (j_iand (j_ishr l5 l3) 1))
        refine E_iload 5 dX11_counts_80 rfl ?_
        exact E_top (by first | exact (if_pos (by omega)).symm | exact (if_neg (by omega)).symm | (repeat first | rw [if_pos (by omega)] | rw [if_neg (by omega)])) hJ
      · have hp64 := (by omega : (j_iand (j_ishr l5 l2) 1) > (j_iand (j_ishr l5 l3) 1))
        refine E_iload 5 dX11_counts_67 rfl ?_
        refine E_iconst dX11_counts_69 (rg_of rfl) ?_
        refine E_iload_n 2 2 dX11_counts_70 rfl rfl ?_
        refine E_ishl dX11_counts_71 ?_
        refine E_iconst dX11_counts_72 (rg_of rfl) ?_
        refine E_iload_n 3 3 dX11_counts_73 rfl rfl ?_
        refine E_ishl dX11_counts_74 ?_
        refine E_ior dX11_counts_75 ?_
        refine E_ixor dX11_counts_76 ?_
        refine E_goto 82 dX11_counts_77 rfl ?_
        exact E_top (by first | exact (if_pos (by omega)).symm | exact (if_neg (by omega)).symm | (repeat first | rw [if_pos (by omega)] | rw [if_neg (by omega)])) hJ
    · replace hP := hP.2 (by omega)
      obtain ⟨v11_0, hP⟩ := hP
      refine E_goto 112 dX11_counts_49 rfl ?_
      refine E_iinc 5 dX11_counts_112 rfl (rgI v11_0) (by decide) rfl ?_
      refine E_goto 31 dX11_counts_115 rfl ?_
      exact E_sub [1, 2, 3, 4, 5, 0] rfl hP
theorem sX11_counts_3 {Q : Int → Hp → Prop} {h : Hp} {l1 l2 l3 l4 : Int}
    (hP : ((l4 ≥ 256) →
     E 0 mX11_counts 31 [(0, vr 103), (1, vi l1), (2, vi l2), (3, vi l3), (4, vi 0), (5, vi 0)] [] h (qi Q)) ∧
    ((l4 < 256) →
     (ix l4 256 ∧ rj (l4 + 1)) ∧
     E 0 mX11_counts 3 [(0, vr 103), (1, vi l1), (2, vi l2), (3, vi l3), (4, vi (l4 + 1))] [] (up h 120 l4 0) (qi Q))) :
    E 0 mX11_counts 3 [(0, vr 103), (1, vi l1), (2, vi l2), (3, vi l3), (4, vi l4)] [] h (qi Q) := by
  refine E_iload 4 dX11_counts_3 rfl ?_
  refine E_sipush dX11_counts_5 (by decide) ?_
  refine E_icmp_ge 25 dX11_counts_8 rfl (fun hc => ?_) (fun hc => ?_)
  · replace hP := hP.1 (hc)
    refine E_iconst dX11_counts_25 (rg_of rfl) ?_
    refine E_istore dX11_counts_26 (by decide) rfl ?_
    refine E_iconst dX11_counts_28 (rg_of rfl) ?_
    refine E_istore dX11_counts_29 (by decide) rfl ?_
    exact E_sub [2, 3, 4, 5, 1, 0] rfl hP
  · replace hP := hP.2 (by omega)
    obtain ⟨⟨v3_0, v3_1⟩, hP⟩ := hP
    refine E_aload_n 0 0 dX11_counts_11 rfl rfl ?_
    refine E_gR 120 22 dX11_counts_12 FX11_59 ic_103 (by decide) ?_
    refine E_iload 4 dX11_counts_15 rfl ?_
    refine E_iconst dX11_counts_17 (rg_of rfl) ?_
    refine E_bastore dX11_counts_18 ic_120 v3_0.1 v3_0.2 (Or.inl rfl) ?_
    refine E_iinc 4 dX11_counts_19 rfl (rgI v3_1) (by decide) rfl ?_
    refine E_goto 3 dX11_counts_22 rfl ?_
    exact E_sub [1, 2, 3, 4, 0] rfl hP
theorem sX11_counts {Q : Int → Hp → Prop} {h : Hp} {l1 l2 l3 : Int}
    (hP : E 0 mX11_counts 3 [(0, vr 103), (1, vi l1), (2, vi l2), (3, vi l3), (4, vi 0)] [] h (qi Q)) :
    CI 0 mX11_counts [vr 103, vi l1, vi l2, vi l3] h Q := by
  refine CI_of_E fX11_counts.1 rfl (Nat.le_of_ble_eq_true rfl) ?_
  show E 0 mX11_counts 0 [(0, vr 103), (1, vi l1), (2, vi l2), (3, vi l3)] [] h (qi Q)
  refine E_iconst dX11_counts_0 (rg_of rfl) ?_
  refine E_istore dX11_counts_1 (by decide) rfl ?_
  exact E_sub [1, 2, 3, 4, 0] rfl hP
theorem dX11_lists_0 : decode prog_13_method_57_code 0 = .ok (.aload_n 0, 1) := by decide +kernel
theorem dX11_lists_1 : decode prog_13_method_57_code 1 = .ok (.iload_n 1, 1) := by decide +kernel
theorem dX11_lists_2 : decode prog_13_method_57_code 2 = .ok (.aload_n 0, 1) := by decide +kernel
theorem dX11_lists_3 : decode prog_13_method_57_code 3 = .ok (.getfield 55, 3) := by decide +kernel
theorem dX11_lists_6 : decode prog_13_method_57_code 6 = .ok (.invokevirtual 156, 3) := by decide +kernel
theorem dX11_lists_9 : decode prog_13_method_57_code 9 = .ok (.istore_n 2, 1) := by decide +kernel
theorem dX11_lists_10 : decode prog_13_method_57_code 10 = .ok (.iconst 0, 1) := by decide +kernel
theorem dX11_lists_11 : decode prog_13_method_57_code 11 = .ok (.istore_n 3, 1) := by decide +kernel
theorem dX11_lists_12 : decode prog_13_method_57_code 12 = .ok (.iconst 0, 1) := by decide +kernel
theorem dX11_lists_13 : decode prog_13_method_57_code 13 = .ok (.istore 4, 2) := by decide +kernel
theorem dX11_lists_15 : decode prog_13_method_57_code 15 = .ok (.iload 4, 2) := by decide +kernel
theorem dX11_lists_17 : decode prog_13_method_57_code 17 = .ok (.aload_n 0, 1) := by decide +kernel
theorem dX11_lists_18 : decode prog_13_method_57_code 18 = .ok (.getfield 9, 3) := by decide +kernel
theorem dX11_lists_21 : decode prog_13_method_57_code 21 = .ok (.iload_n 1, 1) := by decide +kernel
theorem dX11_lists_22 : decode prog_13_method_57_code 22 = .ok (.iaload, 1) := by decide +kernel
theorem dX11_lists_23 : decode prog_13_method_57_code 23 = .ok (.if_icmp .ge 116, 3) := by decide +kernel
theorem dX11_lists_26 : decode prog_13_method_57_code 26 = .ok (.iload 4, 2) := by decide +kernel
theorem dX11_lists_28 : decode prog_13_method_57_code 28 = .ok (.iconst 1, 1) := by decide +kernel
theorem dX11_lists_29 : decode prog_13_method_57_code 29 = .ok (.iadd, 1) := by decide +kernel
theorem dX11_lists_30 : decode prog_13_method_57_code 30 = .ok (.istore 5, 2) := by decide +kernel
theorem dX11_lists_32 : decode prog_13_method_57_code 32 = .ok (.iload 5, 2) := by decide +kernel
theorem dX11_lists_34 : decode prog_13_method_57_code 34 = .ok (.aload_n 0, 1) := by decide +kernel
theorem dX11_lists_35 : decode prog_13_method_57_code 35 = .ok (.getfield 9, 3) := by decide +kernel
theorem dX11_lists_38 : decode prog_13_method_57_code 38 = .ok (.iload_n 1, 1) := by decide +kernel
theorem dX11_lists_39 : decode prog_13_method_57_code 39 = .ok (.iaload, 1) := by decide +kernel
theorem dX11_lists_40 : decode prog_13_method_57_code 40 = .ok (.if_icmp .ge 93, 3) := by decide +kernel
theorem dX11_lists_43 : decode prog_13_method_57_code 43 = .ok (.bipush 100, 2) := by decide +kernel
theorem dX11_lists_45 : decode prog_13_method_57_code 45 = .ok (.aload_n 0, 1) := by decide +kernel
theorem dX11_lists_46 : decode prog_13_method_57_code 46 = .ok (.aload_n 0, 1) := by decide +kernel
theorem dX11_lists_47 : decode prog_13_method_57_code 47 = .ok (.getfield 9, 3) := by decide +kernel
theorem dX11_lists_50 : decode prog_13_method_57_code 50 = .ok (.iload_n 1, 1) := by decide +kernel
theorem dX11_lists_51 : decode prog_13_method_57_code 51 = .ok (.iaload, 1) := by decide +kernel
theorem dX11_lists_52 : decode prog_13_method_57_code 52 = .ok (.iload 4, 2) := by decide +kernel
theorem dX11_lists_54 : decode prog_13_method_57_code 54 = .ok (.iload 5, 2) := by decide +kernel
theorem dX11_lists_56 : decode prog_13_method_57_code 56 = .ok (.invokevirtual 198, 3) := by decide +kernel
theorem dX11_lists_59 : decode prog_13_method_57_code 59 = .ok (.imul, 1) := by decide +kernel
theorem dX11_lists_60 : decode prog_13_method_57_code 60 = .ok (.bipush 10, 2) := by decide +kernel
theorem dX11_lists_62 : decode prog_13_method_57_code 62 = .ok (.iload 4, 2) := by decide +kernel
theorem dX11_lists_64 : decode prog_13_method_57_code 64 = .ok (.imul, 1) := by decide +kernel
theorem dX11_lists_65 : decode prog_13_method_57_code 65 = .ok (.iadd, 1) := by decide +kernel
theorem dX11_lists_66 : decode prog_13_method_57_code 66 = .ok (.iload 5, 2) := by decide +kernel
theorem dX11_lists_68 : decode prog_13_method_57_code 68 = .ok (.iadd, 1) := by decide +kernel
theorem dX11_lists_69 : decode prog_13_method_57_code 69 = .ok (.istore 6, 2) := by decide +kernel
theorem dX11_lists_71 : decode prog_13_method_57_code 71 = .ok (.iload_n 3, 1) := by decide +kernel
theorem dX11_lists_72 : decode prog_13_method_57_code 72 = .ok (.istore 7, 2) := by decide +kernel
theorem dX11_lists_74 : decode prog_13_method_57_code 74 = .ok (.iload 7, 2) := by decide +kernel
theorem dX11_lists_76 : decode prog_13_method_57_code 76 = .ok (.ifCond .le 39, 3) := by decide +kernel
theorem dX11_lists_79 : decode prog_13_method_57_code 79 = .ok (.aload_n 0, 1) := by decide +kernel
theorem dX11_lists_80 : decode prog_13_method_57_code 80 = .ok (.getfield 68, 3) := by decide +kernel
theorem dX11_lists_83 : decode prog_13_method_57_code 83 = .ok (.iload 7, 2) := by decide +kernel
theorem dX11_lists_85 : decode prog_13_method_57_code 85 = .ok (.iconst 1, 1) := by decide +kernel
theorem dX11_lists_86 : decode prog_13_method_57_code 86 = .ok (.isub, 1) := by decide +kernel
theorem dX11_lists_87 : decode prog_13_method_57_code 87 = .ok (.iaload, 1) := by decide +kernel
theorem dX11_lists_88 : decode prog_13_method_57_code 88 = .ok (.iload 6, 2) := by decide +kernel
theorem dX11_lists_90 : decode prog_13_method_57_code 90 = .ok (.if_icmp .le 25, 3) := by decide +kernel
theorem dX11_lists_93 : decode prog_13_method_57_code 93 = .ok (.aload_n 0, 1) := by decide +kernel
theorem dX11_lists_94 : decode prog_13_method_57_code 94 = .ok (.getfield 68, 3) := by decide +kernel
theorem dX11_lists_97 : decode prog_13_method_57_code 97 = .ok (.iload 7, 2) := by decide +kernel
theorem dX11_lists_99 : decode prog_13_method_57_code 99 = .ok (.aload_n 0, 1) := by decide +kernel
theorem dX11_lists_100 : decode prog_13_method_57_code 100 = .ok (.getfield 68, 3) := by decide +kernel
theorem dX11_lists_103 : decode prog_13_method_57_code 103 = .ok (.iload 7, 2) := by decide +kernel
theorem dX11_lists_105 : decode prog_13_method_57_code 105 = .ok (.iconst 1, 1) := by decide +kernel
theorem dX11_lists_106 : decode prog_13_method_57_code 106 = .ok (.isub, 1) := by decide +kernel
theorem dX11_lists_107 : decode prog_13_method_57_code 107 = .ok (.iaload, 1) := by decide +kernel
theorem dX11_lists_108 : decode prog_13_method_57_code 108 = .ok (.iastore, 1) := by decide +kernel
theorem dX11_lists_109 : decode prog_13_method_57_code 109 = .ok (.iinc 7 (-1), 3) := by decide +kernel
theorem dX11_lists_112 : decode prog_13_method_57_code 112 = .ok (.goto (-38), 3) := by decide +kernel
theorem dX11_lists_115 : decode prog_13_method_57_code 115 = .ok (.aload_n 0, 1) := by decide +kernel
theorem dX11_lists_116 : decode prog_13_method_57_code 116 = .ok (.getfield 68, 3) := by decide +kernel
theorem dX11_lists_119 : decode prog_13_method_57_code 119 = .ok (.iload 7, 2) := by decide +kernel
theorem dX11_lists_121 : decode prog_13_method_57_code 121 = .ok (.iload 6, 2) := by decide +kernel
theorem dX11_lists_123 : decode prog_13_method_57_code 123 = .ok (.iastore, 1) := by decide +kernel
theorem dX11_lists_124 : decode prog_13_method_57_code 124 = .ok (.iinc 3 1, 3) := by decide +kernel
theorem dX11_lists_127 : decode prog_13_method_57_code 127 = .ok (.iinc 5 1, 3) := by decide +kernel
theorem dX11_lists_130 : decode prog_13_method_57_code 130 = .ok (.goto (-98), 3) := by decide +kernel
theorem dX11_lists_133 : decode prog_13_method_57_code 133 = .ok (.iinc 4 1, 3) := by decide +kernel
theorem dX11_lists_136 : decode prog_13_method_57_code 136 = .ok (.goto (-121), 3) := by decide +kernel
theorem dX11_lists_139 : decode prog_13_method_57_code 139 = .ok (.iload_n 3, 1) := by decide +kernel
theorem dX11_lists_140 : decode prog_13_method_57_code 140 = .ok (.ireturn, 1) := by decide +kernel
theorem sX11_lists_74 {Q : Int → Hp → Prop} {h : Hp} {l1 l3 l4 l5 l6 l7 : Int}
    (hP : ((l7 ≤ 0) →
     (ix l7 28 ∧ rj (l3 + 1) ∧ rj (l5 + 1)) ∧
     E 2 mX11_lists 32 [(0, vr 103), (1, vi l1), (3, vi (l3 + 1)), (4, vi l4), (5, vi (l5 + 1))] [] (up h 123 l7 l6) (qi Q)) ∧
    ((l7 > 0) →
     (rj (l7 - 1) ∧ ix (l7 - 1) 28) ∧
     (((h 123 (l7 - 1)) ≤ l6) →
      (ix l7 28 ∧ rj (l3 + 1) ∧ rj (l5 + 1)) ∧
      E 2 mX11_lists 32 [(0, vr 103), (1, vi l1), (3, vi (l3 + 1)), (4, vi l4), (5, vi (l5 + 1))] [] (up h 123 l7 l6) (qi Q)) ∧
     (((h 123 (l7 - 1)) > l6) →
      (rj (l7 - 1) ∧ ix (l7 - 1) 28 ∧ ix l7 28 ∧ rj (l7 + (-1))) ∧
      E 2 mX11_lists 74 [(0, vr 103), (1, vi l1), (3, vi l3), (4, vi l4), (5, vi l5), (6, vi l6), (7, vi (l7 + (-1)))] [] (up h 123 l7 (h 123 (l7 - 1))) (qi Q)))) :
    E 2 mX11_lists 74 [(0, vr 103), (1, vi l1), (3, vi l3), (4, vi l4), (5, vi l5), (6, vi l6), (7, vi l7)] [] h (qi Q) := by
  refine E_iload 6 dX11_lists_74 rfl ?_
  refine E_if_le 115 dX11_lists_76 rfl (fun hc => ?_) (fun hc => ?_)
  · replace hP := hP.1 (hc)
    obtain ⟨⟨v2_0, v2_1, v2_2⟩, hP⟩ := hP
    refine E_aload_n 0 0 dX11_lists_115 rfl rfl ?_
    refine E_gR 123 29 dX11_lists_116 FX11_68 ic_103 (by decide) ?_
    refine E_iload 6 dX11_lists_119 rfl ?_
    refine E_iload 5 dX11_lists_121 rfl ?_
    refine E_iastore dX11_lists_123 ic_123 v2_0.1 v2_0.2 ?_
    refine E_iinc 2 dX11_lists_124 rfl (rgI v2_1) (by decide) rfl ?_
    refine E_iinc 4 dX11_lists_127 rfl (rgI v2_2) (by decide) rfl ?_
    refine E_goto 32 dX11_lists_130 rfl ?_
    exact E_sub [2, 3, 1, 4, 0] rfl hP
  · replace hP := hP.2 (by omega)
    obtain ⟨⟨v3_0, v3_1⟩, hP⟩ := hP
    refine E_aload_n 0 0 dX11_lists_79 rfl rfl ?_
    refine E_gR 123 29 dX11_lists_80 FX11_68 ic_103 (by decide) ?_
    refine E_iload 6 dX11_lists_83 rfl ?_
    refine E_iconst dX11_lists_85 (rg_of rfl) ?_
    refine E_isub dX11_lists_86 (rgI v3_0) ?_
    refine E_iaload dX11_lists_87 ic_123 v3_1.1 v3_1.2 ?_
    refine E_iload 5 dX11_lists_88 rfl ?_
    refine E_icmp_le 115 dX11_lists_90 rfl (fun hc => ?_) (fun hc => ?_)
    · replace hP := hP.1 (hc)
      obtain ⟨⟨v4_0, v4_1, v4_2⟩, hP⟩ := hP
      refine E_aload_n 0 0 dX11_lists_115 rfl rfl ?_
      refine E_gR 123 29 dX11_lists_116 FX11_68 ic_103 (by decide) ?_
      refine E_iload 6 dX11_lists_119 rfl ?_
      refine E_iload 5 dX11_lists_121 rfl ?_
      refine E_iastore dX11_lists_123 ic_123 v4_0.1 v4_0.2 ?_
      refine E_iinc 2 dX11_lists_124 rfl (rgI v4_1) (by decide) rfl ?_
      refine E_iinc 4 dX11_lists_127 rfl (rgI v4_2) (by decide) rfl ?_
      refine E_goto 32 dX11_lists_130 rfl ?_
      exact E_sub [2, 3, 1, 4, 0] rfl hP
    · replace hP := hP.2 (by omega)
      obtain ⟨⟨v5_0, v5_1, v5_2, v5_3⟩, hP⟩ := hP
      refine E_aload_n 0 0 dX11_lists_93 rfl rfl ?_
      refine E_gR 123 29 dX11_lists_94 FX11_68 ic_103 (by decide) ?_
      refine E_iload 6 dX11_lists_97 rfl ?_
      refine E_aload_n 0 0 dX11_lists_99 rfl rfl ?_
      refine E_gR 123 29 dX11_lists_100 FX11_68 ic_103 (by decide) ?_
      refine E_iload 6 dX11_lists_103 rfl ?_
      refine E_iconst dX11_lists_105 (rg_of rfl) ?_
      refine E_isub dX11_lists_106 (rgI v5_0) ?_
      refine E_iaload dX11_lists_107 ic_123 v5_1.1 v5_1.2 ?_
      refine E_iastore dX11_lists_108 ic_123 v5_2.1 v5_2.2 ?_
      refine E_iinc 6 dX11_lists_109 rfl (rgI v5_3) (by decide) rfl ?_
      refine E_goto 74 dX11_lists_112 rfl ?_
      exact E_sub [1, 2, 3, 4, 5, 6, 0] rfl hP
theorem sX11_lists_32 {Q : Int → Hp → Prop} {h : Hp} {l1 l3 l4 l5 : Int}
    (hP : (ix l1 4) ∧
    ((l5 ≥ (h 104 l1)) →
     (rj (l4 + 1)) ∧
     E 2 mX11_lists 15 [(0, vr 103), (1, vi l1), (3, vi l3), (4, vi (l4 + 1))] [] h (qi Q)) ∧
    ((l5 < (h 104 l1)) →
     (ix l1 4) ∧
     CI 0 mX11_counts [vr 103, vi (h 104 l1), vi l4, vi l5] h (fun r5 h4 =>
      (rj (100 * r5) ∧ rj (10 * l4) ∧ rj ((100 * r5) + (10 * l4)) ∧ rj (((100 * r5) + (10 * l4)) + l5)) ∧
      (∀ x7 : Int, x7 = (((100 * r5) + (10 * l4)) + l5) →
      E 2 mX11_lists 74 [(0, vr 103), (1, vi l1), (3, vi l3), (4, vi l4), (5, vi l5), (6, vi x7), (7, vi l3)] [] h4 (qi Q))))) :
    E 2 mX11_lists 32 [(0, vr 103), (1, vi l1), (3, vi l3), (4, vi l4), (5, vi l5)] [] h (qi Q) := by
  obtain ⟨v1_0, hP⟩ := hP
  refine E_iload 4 dX11_lists_32 rfl ?_
  refine E_aload_n 0 0 dX11_lists_34 rfl rfl ?_
  refine E_gR 104 0 dX11_lists_35 FX11_9 ic_103 (by decide) ?_
  refine E_iload_n 1 1 dX11_lists_38 rfl rfl ?_
  refine E_iaload dX11_lists_39 ic_104 v1_0.1 v1_0.2 ?_
  refine E_icmp_ge 133 dX11_lists_40 rfl (fun hc => ?_) (fun hc => ?_)
  · replace hP := hP.1 (hc)
    obtain ⟨v2_0, hP⟩ := hP
    refine E_iinc 3 dX11_lists_133 rfl (rgI v2_0) (by decide) rfl ?_
    refine E_goto 15 dX11_lists_136 rfl ?_
    exact E_sub [1, 2, 3, 0] rfl hP
  · replace hP := hP.2 (by omega)
    obtain ⟨v3_0, hP⟩ := hP
    refine E_bipush dX11_lists_43 (by decide) ?_
    refine E_aload_n 0 0 dX11_lists_45 rfl rfl ?_
    refine E_aload_n 0 0 dX11_lists_46 rfl rfl ?_
    refine E_gR 104 0 dX11_lists_47 FX11_9 ic_103 (by decide) ?_
    refine E_iload_n 1 1 dX11_lists_50 rfl rfl ?_
    refine E_iaload dX11_lists_51 ic_104 v3_0.1 v3_0.2 ?_
    refine E_iload 3 dX11_lists_52 rfl ?_
    refine E_iload 4 dX11_lists_54 rfl ?_
    refine E_invVI [vi (h 104 l1), vi l4, vi l5] dX11_lists_56 fX11_counts lX11_198 ic_103 rfl (by decide) rfl rfl (Nat.le_of_ble_eq_true rfl) (CI_mono hP (fun r5 h4 hP => ?_))
    obtain ⟨⟨v6_0, v6_1, v6_2, v6_3⟩, hP⟩ := hP
    refine E_imul dX11_lists_59 (rgI v6_0) ?_
    refine E_bipush dX11_lists_60 (by decide) ?_
    refine E_iload 3 dX11_lists_62 rfl ?_
    refine E_imul dX11_lists_64 (rgI v6_1) ?_
    refine E_iadd dX11_lists_65 (rgI v6_2) ?_
    refine E_iload 4 dX11_lists_66 rfl ?_
    refine E_iadd dX11_lists_68 (rgI v6_3) ?_
    obtain ⟨x7, hx7⟩ : ∃ x : Int, x = (((100 * r5) + (10 * l4)) + l5) := ⟨_, rfl⟩
    refine E_top hx7.symm ?_
    replace hP := hP x7 hx7
    refine E_istore dX11_lists_69 (by decide) rfl ?_
    refine E_iload_n 3 3 dX11_lists_71 rfl rfl ?_
    refine E_istore dX11_lists_72 (by decide) rfl ?_
    exact E_sub [2, 3, 4, 5, 6, 1, 0] rfl hP
theorem sX11_lists_15 {Q : Int → Hp → Prop} {h : Hp} {l1 l3 l4 : Int}
    (hP : (ix l1 4) ∧
    ((l4 ≥ (h 104 l1)) →
     Q l3 h) ∧
    ((l4 < (h 104 l1)) →
     (rj (l4 + 1)) ∧
     E 2 mX11_lists 32 [(0, vr 103), (1, vi l1), (3, vi l3), (4, vi l4), (5, vi (l4 + 1))] [] h (qi Q))) :
    E 2 mX11_lists 15 [(0, vr 103), (1, vi l1), (3, vi l3), (4, vi l4)] [] h (qi Q) := by
  obtain ⟨v1_0, hP⟩ := hP
  refine E_iload 3 dX11_lists_15 rfl ?_
  refine E_aload_n 0 0 dX11_lists_17 rfl rfl ?_
  refine E_gR 104 0 dX11_lists_18 FX11_9 ic_103 (by decide) ?_
  refine E_iload_n 1 1 dX11_lists_21 rfl rfl ?_
  refine E_iaload dX11_lists_22 ic_104 v1_0.1 v1_0.2 ?_
  refine E_icmp_ge 139 dX11_lists_23 rfl (fun hc => ?_) (fun hc => ?_)
  · replace hP := hP.1 (hc)
    refine E_iload_n 2 3 dX11_lists_139 rfl rfl ?_
    exact E_retI dX11_lists_140 rfl hP
  · replace hP := hP.2 (by omega)
    obtain ⟨v3_0, hP⟩ := hP
    refine E_iload 3 dX11_lists_26 rfl ?_
    refine E_iconst dX11_lists_28 (rg_of rfl) ?_
    refine E_iadd dX11_lists_29 (rgI v3_0) ?_
    refine E_istore dX11_lists_30 (by decide) rfl ?_
    exact E_sub [1, 2, 3, 4, 0] rfl hP
theorem sX11_lists {Q : Int → Hp → Prop} {h : Hp} {l1 : Int}
    (hP : CI 1 mX11_finds [vr 103, vi l1, vr 119] h (fun r3 h2 =>
     E 2 mX11_lists 15 [(0, vr 103), (1, vi l1), (3, vi 0), (4, vi 0)] [] h2 (qi Q))) :
    CI 2 mX11_lists [vr 103, vi l1] h Q := by
  refine CI_of_E fX11_lists.1 rfl (Nat.le_of_ble_eq_true rfl) ?_
  show E 2 mX11_lists 0 [(0, vr 103), (1, vi l1)] [] h (qi Q)
  refine E_aload_n 0 0 dX11_lists_0 rfl rfl ?_
  refine E_iload_n 1 1 dX11_lists_1 rfl rfl ?_
  refine E_aload_n 0 0 dX11_lists_2 rfl rfl ?_
  refine E_gR 119 21 dX11_lists_3 FX11_55 ic_103 (by decide) ?_
  refine E_invVI [vi l1, vr 119] dX11_lists_6 fX11_finds lX11_156 ic_103 rfl (by decide) rfl rfl (Nat.le_of_ble_eq_true rfl) (CI_mono hP (fun r3 h2 hP => ?_))
  refine E_istore_n dX11_lists_9 rfl (by decide) rfl ?_
  refine E_iconst dX11_lists_10 (rg_of rfl) ?_
  refine E_istore_n dX11_lists_11 rfl (by decide) rfl ?_
  refine E_iconst dX11_lists_12 (rg_of rfl) ?_
  refine E_istore dX11_lists_13 (by decide) rfl ?_
  exact E_sub [3, 4, 1, 0] rfl hP
theorem dX11_candidate_0 : decode prog_13_method_58_code 0 = .ok (.iload_n 1, 1) := by decide +kernel
theorem dX11_candidate_1 : decode prog_13_method_58_code 1 = .ok (.invokestatic 88, 3) := by decide +kernel
theorem dX11_candidate_4 : decode prog_13_method_58_code 4 = .ok (.ifCond .ne 5, 3) := by decide +kernel
theorem dX11_candidate_7 : decode prog_13_method_58_code 7 = .ok (.iconst (-1), 1) := by decide +kernel
theorem dX11_candidate_8 : decode prog_13_method_58_code 8 = .ok (.ireturn, 1) := by decide +kernel
theorem dX11_candidate_9 : decode prog_13_method_58_code 9 = .ok (.iload_n 2, 1) := by decide +kernel
theorem dX11_candidate_10 : decode prog_13_method_58_code 10 = .ok (.iconst 0, 1) := by decide +kernel
theorem dX11_candidate_11 : decode prog_13_method_58_code 11 = .ok (.aload_n 0, 1) := by decide +kernel
theorem dX11_candidate_12 : decode prog_13_method_58_code 12 = .ok (.iload_n 1, 1) := by decide +kernel
theorem dX11_candidate_13 : decode prog_13_method_58_code 13 = .ok (.invokevirtual 201, 3) := by decide +kernel
theorem dX11_candidate_16 : decode prog_13_method_58_code 16 = .ok (.iconst 1, 1) := by decide +kernel
theorem dX11_candidate_17 : decode prog_13_method_58_code 17 = .ok (.isub, 1) := by decide +kernel
theorem dX11_candidate_18 : decode prog_13_method_58_code 18 = .ok (.invokestatic 80, 3) := by decide +kernel
theorem dX11_candidate_21 : decode prog_13_method_58_code 21 = .ok (.ifCond .eq 12, 3) := by decide +kernel
theorem dX11_candidate_24 : decode prog_13_method_58_code 24 = .ok (.iload_n 3, 1) := by decide +kernel
theorem dX11_candidate_25 : decode prog_13_method_58_code 25 = .ok (.iconst 0, 1) := by decide +kernel
theorem dX11_candidate_26 : decode prog_13_method_58_code 26 = .ok (.iconst 1, 1) := by decide +kernel
theorem dX11_candidate_27 : decode prog_13_method_58_code 27 = .ok (.invokestatic 80, 3) := by decide +kernel
theorem dX11_candidate_30 : decode prog_13_method_58_code 30 = .ok (.ifCond .ne 6, 3) := by decide +kernel
theorem dX11_candidate_33 : decode prog_13_method_58_code 33 = .ok (.bipush (-2), 2) := by decide +kernel
theorem dX11_candidate_35 : decode prog_13_method_58_code 35 = .ok (.ireturn, 1) := by decide +kernel
theorem dX11_candidate_36 : decode prog_13_method_58_code 36 = .ok (.iload_n 3, 1) := by decide +kernel
theorem dX11_candidate_37 : decode prog_13_method_58_code 37 = .ok (.ifCond .ne 15, 3) := by decide +kernel
theorem dX11_candidate_40 : decode prog_13_method_58_code 40 = .ok (.aload_n 0, 1) := by decide +kernel
theorem dX11_candidate_41 : decode prog_13_method_58_code 41 = .ok (.getfield 68, 3) := by decide +kernel
theorem dX11_candidate_44 : decode prog_13_method_58_code 44 = .ok (.iload_n 2, 1) := by decide +kernel
theorem dX11_candidate_45 : decode prog_13_method_58_code 45 = .ok (.iaload, 1) := by decide +kernel
theorem dX11_candidate_46 : decode prog_13_method_58_code 46 = .ok (.bipush 100, 2) := by decide +kernel
theorem dX11_candidate_48 : decode prog_13_method_58_code 48 = .ok (.irem, 1) := by decide +kernel
theorem dX11_candidate_49 : decode prog_13_method_58_code 49 = .ok (.goto 12, 3) := by decide +kernel
theorem dX11_candidate_52 : decode prog_13_method_58_code 52 = .ok (.aload_n 0, 1) := by decide +kernel
theorem dX11_candidate_53 : decode prog_13_method_58_code 53 = .ok (.getfield 68, 3) := by decide +kernel
theorem dX11_candidate_56 : decode prog_13_method_58_code 56 = .ok (.iload_n 2, 1) := by decide +kernel
theorem dX11_candidate_57 : decode prog_13_method_58_code 57 = .ok (.iaload, 1) := by decide +kernel
theorem dX11_candidate_58 : decode prog_13_method_58_code 58 = .ok (.bipush 100, 2) := by decide +kernel
theorem dX11_candidate_60 : decode prog_13_method_58_code 60 = .ok (.idiv, 1) := by decide +kernel
theorem dX11_candidate_61 : decode prog_13_method_58_code 61 = .ok (.ireturn, 1) := by decide +kernel
theorem sX11_candidate {Q : Int → Hp → Prop} {h : Hp} {l1 l2 l3 : Int}
    (hP : ((l1 ≥ 0 ∧ l1 ≤ 3) →
     CI 2 mX11_lists [vr 103, vi l1] h (fun r4 h3 =>
      (rj (r4 - 1)) ∧
      ((l2 < 0 ∨ l2 > (r4 - 1)) →
       Q (-2) h3) ∧
      ((l2 ≥ 0 ∧ l2 ≤ (r4 - 1)) →
       ((l3 ≥ 0 ∧ l3 ≤ 1) →
        (((l3 ≠ 0) → (ix l2 28)) ∧ ((l3 = 0) → (ix l2 28))) ∧
        Q (if l3 ≠ 0 then (j_idiv (h3 123 l2) 100) else (j_irem (h3 123 l2) 100)) h3) ∧
       ((l3 < 0 ∨ l3 > 1) →
        Q (-2) h3)))) ∧
    ((l1 < 0 ∨ l1 > 3) →
     Q (-1) h)) :
    CI 3 mX11_candidate [vr 103, vi l1, vi l2, vi l3] h Q := by
  refine CI_of_E fX11_candidate.1 rfl (Nat.le_of_ble_eq_true rfl) ?_
  show E 3 mX11_candidate 0 [(0, vr 103), (1, vi l1), (2, vi l2), (3, vi l3)] [] h (qi Q)
  refine E_iload_n 1 1 dX11_candidate_0 rfl rfl ?_
  refine E_invSI [vi l1] dX11_candidate_1 fX11_isNet lX11_88 (by decide) rfl rfl (Nat.le_of_ble_eq_true rfl) (sX11_isNet (h := h) (l0 := l1) ?_)
  refine E_if_ne 9 dX11_candidate_4 rfl (fun hc => ?_) (fun hc => ?_)
  · replace hP := hP.1 (by have := ite1' hc; omega)
    refine E_iload_n 2 2 dX11_candidate_9 rfl rfl ?_
    refine E_iconst dX11_candidate_10 (rg_of rfl) ?_
    refine E_aload_n 0 0 dX11_candidate_11 rfl rfl ?_
    refine E_iload_n 1 1 dX11_candidate_12 rfl rfl ?_
    refine E_invVI [vi l1] dX11_candidate_13 fX11_lists lX11_201 ic_103 rfl (by decide) rfl rfl (Nat.le_of_ble_eq_true rfl) (CI_mono hP (fun r4 h3 hP => ?_))
    obtain ⟨v5_0, hP⟩ := hP
    refine E_iconst dX11_candidate_16 (rg_of rfl) ?_
    refine E_isub dX11_candidate_17 (rgI v5_0) ?_
    refine E_invSI [vi l2, vi 0, vi (r4 - 1)] dX11_candidate_18 fX11_isIn lX11_80 (by decide) rfl rfl (Nat.le_of_ble_eq_true rfl) (sX11_isIn (h := h3) (l0 := l2) (l1 := 0) (l2 := (r4 - 1)) ?_)
    refine E_if_eq 33 dX11_candidate_21 rfl (fun hc => ?_) (fun hc => ?_)
    · replace hP := hP.1 (by have := ite0 hc; omega)
      refine E_bipush dX11_candidate_33 (by decide) ?_
      exact E_retI dX11_candidate_35 rfl hP
    · replace hP := hP.2 (by have := ite1 hc; omega)
      refine E_iload_n 3 3 dX11_candidate_24 rfl rfl ?_
      refine E_iconst dX11_candidate_25 (rg_of rfl) ?_
      refine E_iconst dX11_candidate_26 (rg_of rfl) ?_
      refine E_invSI [vi l3, vi 0, vi 1] dX11_candidate_27 fX11_isIn lX11_80 (by decide) rfl rfl (Nat.le_of_ble_eq_true rfl) (sX11_isIn (h := h3) (l0 := l3) (l1 := 0) (l2 := 1) ?_)
      refine E_if_ne 36 dX11_candidate_30 rfl (fun hc => ?_) (fun hc => ?_)
      · replace hP := hP.1 (by have := ite1' hc; omega)
        obtain ⟨⟨v8_0, v8_1⟩, hP⟩ := hP
        refine E_iload_n 3 3 dX11_candidate_36 rfl rfl ?_
        have hJ : E 3 mX11_candidate 61 [(0, vr 103), (1, vi l1), (2, vi l2), (3, vi l3)] [vi (if l3 ≠ 0 then (j_idiv (h3 123 l2) 100) else (j_irem (h3 123 l2) 100))] h3 (qi Q) := by
          exact E_retI dX11_candidate_61 rfl hP
        refine E_if_ne 52 dX11_candidate_37 rfl (fun hc => ?_) (fun hc => ?_)
        · have hp37 := (hc : l3 ≠ 0)
          refine E_aload_n 0 0 dX11_candidate_52 rfl rfl ?_
          refine E_gR 123 29 dX11_candidate_53 FX11_68 ic_103 (by decide) ?_
          refine E_iload_n 2 2 dX11_candidate_56 rfl rfl ?_
          refine E_iaload dX11_candidate_57 ic_123 (v8_0 (by omega)).1 (v8_0 (by omega)).2 ?_
          refine E_bipush dX11_candidate_58 (by decide) ?_
          refine E_idiv dX11_candidate_60 (by decide) ?_
          exact E_top (by first | exact (if_pos (by omega)).symm | exact (if_neg (by omega)).symm | (repeat first | rw [if_pos (by omega)] | rw [if_neg (by omega)])) hJ
        · have hp37 := (by omega : l3 = 0)
          refine E_aload_n 0 0 dX11_candidate_40 rfl rfl ?_
          refine E_gR 123 29 dX11_candidate_41 FX11_68 ic_103 (by decide) ?_
          refine E_iload_n 2 2 dX11_candidate_44 rfl rfl ?_
          refine E_iaload dX11_candidate_45 ic_123 (v8_1 (by omega)).1 (v8_1 (by omega)).2 ?_
          refine E_bipush dX11_candidate_46 (by decide) ?_
          refine E_irem dX11_candidate_48 (by decide) ?_
          refine E_goto 61 dX11_candidate_49 rfl ?_
          exact E_top (by first | exact (if_pos (by omega)).symm | exact (if_neg (by omega)).symm | (repeat first | rw [if_pos (by omega)] | rw [if_neg (by omega)])) hJ
      · replace hP := hP.2 (by have := ite0 hc; omega)
        refine E_bipush dX11_candidate_33 (by decide) ?_
        exact E_retI dX11_candidate_35 rfl hP
  · replace hP := hP.2 (by have := ite0 hc; omega)
    refine E_iconst dX11_candidate_7 (rg_of rfl) ?_
    exact E_retI dX11_candidate_8 rfl hP
theorem dX11_grow_0 : decode prog_13_method_59_code 0 = .ok (.iload_n 1, 1) := by decide +kernel
theorem dX11_grow_1 : decode prog_13_method_59_code 1 = .ok (.invokestatic 88, 3) := by decide +kernel
theorem dX11_grow_4 : decode prog_13_method_59_code 4 = .ok (.ifCond .ne 5, 3) := by decide +kernel
theorem dX11_grow_7 : decode prog_13_method_59_code 7 = .ok (.iconst (-1), 1) := by decide +kernel
theorem dX11_grow_8 : decode prog_13_method_59_code 8 = .ok (.ireturn, 1) := by decide +kernel
theorem dX11_grow_9 : decode prog_13_method_59_code 9 = .ok (.aload_n 0, 1) := by decide +kernel
theorem dX11_grow_10 : decode prog_13_method_59_code 10 = .ok (.iload_n 1, 1) := by decide +kernel
theorem dX11_grow_11 : decode prog_13_method_59_code 11 = .ok (.iconst (-1), 1) := by decide +kernel
theorem dX11_grow_12 : decode prog_13_method_59_code 12 = .ok (.invokevirtual 160, 3) := by decide +kernel
theorem dX11_grow_15 : decode prog_13_method_59_code 15 = .ok (.ifCond .eq 6, 3) := by decide +kernel
theorem dX11_grow_18 : decode prog_13_method_59_code 18 = .ok (.bipush (-5), 2) := by decide +kernel
theorem dX11_grow_20 : decode prog_13_method_59_code 20 = .ok (.ireturn, 1) := by decide +kernel
theorem dX11_grow_21 : decode prog_13_method_59_code 21 = .ok (.aload_n 0, 1) := by decide +kernel
theorem dX11_grow_22 : decode prog_13_method_59_code 22 = .ok (.getfield 13, 3) := by decide +kernel
theorem dX11_grow_25 : decode prog_13_method_59_code 25 = .ok (.iload_n 1, 1) := by decide +kernel
theorem dX11_grow_26 : decode prog_13_method_59_code 26 = .ok (.iaload, 1) := by decide +kernel
theorem dX11_grow_27 : decode prog_13_method_59_code 27 = .ok (.bipush 40, 2) := by decide +kernel
theorem dX11_grow_29 : decode prog_13_method_59_code 29 = .ok (.if_icmp .ne 6, 3) := by decide +kernel
theorem dX11_grow_32 : decode prog_13_method_59_code 32 = .ok (.bipush (-3), 2) := by decide +kernel
theorem dX11_grow_34 : decode prog_13_method_59_code 34 = .ok (.ireturn, 1) := by decide +kernel
theorem dX11_grow_35 : decode prog_13_method_59_code 35 = .ok (.aload_n 0, 1) := by decide +kernel
theorem dX11_grow_36 : decode prog_13_method_59_code 36 = .ok (.invokevirtual 92, 3) := by decide +kernel
theorem dX11_grow_39 : decode prog_13_method_59_code 39 = .ok (.aload_n 0, 1) := by decide +kernel
theorem dX11_grow_40 : decode prog_13_method_59_code 40 = .ok (.iload_n 1, 1) := by decide +kernel
theorem dX11_grow_41 : decode prog_13_method_59_code 41 = .ok (.invokevirtual 201, 3) := by decide +kernel
theorem dX11_grow_44 : decode prog_13_method_59_code 44 = .ok (.istore_n 2, 1) := by decide +kernel
theorem dX11_grow_45 : decode prog_13_method_59_code 45 = .ok (.aload_n 0, 1) := by decide +kernel
theorem dX11_grow_46 : decode prog_13_method_59_code 46 = .ok (.iload_n 1, 1) := by decide +kernel
theorem dX11_grow_47 : decode prog_13_method_59_code 47 = .ok (.aload_n 0, 1) := by decide +kernel
theorem dX11_grow_48 : decode prog_13_method_59_code 48 = .ok (.getfield 13, 3) := by decide +kernel
theorem dX11_grow_51 : decode prog_13_method_59_code 51 = .ok (.iload_n 1, 1) := by decide +kernel
theorem dX11_grow_52 : decode prog_13_method_59_code 52 = .ok (.iaload, 1) := by decide +kernel
theorem dX11_grow_53 : decode prog_13_method_59_code 53 = .ok (.aload_n 0, 1) := by decide +kernel
theorem dX11_grow_54 : decode prog_13_method_59_code 54 = .ok (.getfield 68, 3) := by decide +kernel
theorem dX11_grow_57 : decode prog_13_method_59_code 57 = .ok (.iconst 0, 1) := by decide +kernel
theorem dX11_grow_58 : decode prog_13_method_59_code 58 = .ok (.iaload, 1) := by decide +kernel
theorem dX11_grow_59 : decode prog_13_method_59_code 59 = .ok (.bipush 100, 2) := by decide +kernel
theorem dX11_grow_61 : decode prog_13_method_59_code 61 = .ok (.irem, 1) := by decide +kernel
theorem dX11_grow_62 : decode prog_13_method_59_code 62 = .ok (.bipush 10, 2) := by decide +kernel
theorem dX11_grow_64 : decode prog_13_method_59_code 64 = .ok (.idiv, 1) := by decide +kernel
theorem dX11_grow_65 : decode prog_13_method_59_code 65 = .ok (.aload_n 0, 1) := by decide +kernel
theorem dX11_grow_66 : decode prog_13_method_59_code 66 = .ok (.getfield 68, 3) := by decide +kernel
theorem dX11_grow_69 : decode prog_13_method_59_code 69 = .ok (.iconst 0, 1) := by decide +kernel
theorem dX11_grow_70 : decode prog_13_method_59_code 70 = .ok (.iaload, 1) := by decide +kernel
theorem dX11_grow_71 : decode prog_13_method_59_code 71 = .ok (.bipush 10, 2) := by decide +kernel
theorem dX11_grow_73 : decode prog_13_method_59_code 73 = .ok (.irem, 1) := by decide +kernel
theorem dX11_grow_74 : decode prog_13_method_59_code 74 = .ok (.invokevirtual 106, 3) := by decide +kernel
theorem dX11_grow_77 : decode prog_13_method_59_code 77 = .ok (.aload_n 0, 1) := by decide +kernel
theorem dX11_grow_78 : decode prog_13_method_59_code 78 = .ok (.getfield 68, 3) := by decide +kernel
theorem dX11_grow_81 : decode prog_13_method_59_code 81 = .ok (.iconst 0, 1) := by decide +kernel
theorem dX11_grow_82 : decode prog_13_method_59_code 82 = .ok (.iaload, 1) := by decide +kernel
theorem dX11_grow_83 : decode prog_13_method_59_code 83 = .ok (.bipush 100, 2) := by decide +kernel
theorem dX11_grow_85 : decode prog_13_method_59_code 85 = .ok (.idiv, 1) := by decide +kernel
theorem dX11_grow_86 : decode prog_13_method_59_code 86 = .ok (.ireturn, 1) := by decide +kernel
theorem sX11_grow {Q : Int → Hp → Prop} {h : Hp} {l1 : Int}
    (hP : ((l1 ≥ 0 ∧ l1 ≤ 3) →
     CI 1 mX11_isSorter [vr 103, vi l1, vi (-1)] h (fun r4 h3 =>
      ((r4 = 0) →
       (ix l1 4) ∧
       (((h3 105 l1) ≠ 40) →
        CV 0 mX11_remembers [vr 103] h3 (fun h8 =>
         CI 2 mX11_lists [vr 103, vi l1] h8 (fun r11 h10 =>
          (ix l1 4 ∧ ix 0 28) ∧
          CV 0 mX11_puts [vr 103, vi l1, vi (h10 105 l1), vi (j_idiv (j_irem (h10 123 0) 100) 10), vi (j_irem (h10 123 0) 10)] h10 (fun h13 =>
           (ix 0 28) ∧
           Q (j_idiv (h13 123 0) 100) h13)))) ∧
       (((h3 105 l1) = 40) →
        Q (-3) h3)) ∧
      ((r4 ≠ 0) →
       Q (-5) h3))) ∧
    ((l1 < 0 ∨ l1 > 3) →
     Q (-1) h)) :
    CI 3 mX11_grow [vr 103, vi l1] h Q := by
  refine CI_of_E fX11_grow.1 rfl (Nat.le_of_ble_eq_true rfl) ?_
  show E 3 mX11_grow 0 [(0, vr 103), (1, vi l1)] [] h (qi Q)
  refine E_iload_n 1 1 dX11_grow_0 rfl rfl ?_
  refine E_invSI [vi l1] dX11_grow_1 fX11_isNet lX11_88 (by decide) rfl rfl (Nat.le_of_ble_eq_true rfl) (sX11_isNet (h := h) (l0 := l1) ?_)
  refine E_if_ne 9 dX11_grow_4 rfl (fun hc => ?_) (fun hc => ?_)
  · replace hP := hP.1 (by have := ite1' hc; omega)
    refine E_aload_n 0 0 dX11_grow_9 rfl rfl ?_
    refine E_iload_n 1 1 dX11_grow_10 rfl rfl ?_
    refine E_iconst dX11_grow_11 (rg_of rfl) ?_
    refine E_invVI [vi l1, vi (-1)] dX11_grow_12 fX11_isSorter lX11_160 ic_103 rfl (by decide) rfl rfl (Nat.le_of_ble_eq_true rfl) (CI_mono hP (fun r4 h3 hP => ?_))
    refine E_if_eq 21 dX11_grow_15 rfl (fun hc => ?_) (fun hc => ?_)
    · replace hP := hP.1 (hc)
      obtain ⟨v6_0, hP⟩ := hP
      refine E_aload_n 0 0 dX11_grow_21 rfl rfl ?_
      refine E_gR 105 1 dX11_grow_22 FX11_13 ic_103 (by decide) ?_
      refine E_iload_n 1 1 dX11_grow_25 rfl rfl ?_
      refine E_iaload dX11_grow_26 ic_105 v6_0.1 v6_0.2 ?_
      refine E_bipush dX11_grow_27 (by decide) ?_
      refine E_icmp_ne 35 dX11_grow_29 rfl (fun hc => ?_) (fun hc => ?_)
      · replace hP := hP.1 (hc)
        refine E_aload_n 0 0 dX11_grow_35 rfl rfl ?_
        refine E_invVV [] dX11_grow_36 fX11_remembers lX11_92 ic_103 rfl (by decide) rfl rfl (Nat.le_of_ble_eq_true rfl) (CV_mono hP (fun h8 hP => ?_))
        refine E_aload_n 0 0 dX11_grow_39 rfl rfl ?_
        refine E_iload_n 1 1 dX11_grow_40 rfl rfl ?_
        refine E_invVI [vi l1] dX11_grow_41 fX11_lists lX11_201 ic_103 rfl (by decide) rfl rfl (Nat.le_of_ble_eq_true rfl) (CI_mono hP (fun r11 h10 hP => ?_))
        obtain ⟨⟨v12_0, v12_1⟩, hP⟩ := hP
        refine E_istore_n dX11_grow_44 rfl (by decide) rfl ?_
        refine E_aload_n 1 0 dX11_grow_45 rfl rfl ?_
        refine E_iload_n 2 1 dX11_grow_46 rfl rfl ?_
        refine E_aload_n 1 0 dX11_grow_47 rfl rfl ?_
        refine E_gR 105 1 dX11_grow_48 FX11_13 ic_103 (by decide) ?_
        refine E_iload_n 2 1 dX11_grow_51 rfl rfl ?_
        refine E_iaload dX11_grow_52 ic_105 v12_0.1 v12_0.2 ?_
        refine E_aload_n 1 0 dX11_grow_53 rfl rfl ?_
        refine E_gR 123 29 dX11_grow_54 FX11_68 ic_103 (by decide) ?_
        refine E_iconst dX11_grow_57 (rg_of rfl) ?_
        refine E_iaload dX11_grow_58 ic_123 v12_1.1 v12_1.2 ?_
        refine E_bipush dX11_grow_59 (by decide) ?_
        refine E_irem dX11_grow_61 (by decide) ?_
        refine E_bipush dX11_grow_62 (by decide) ?_
        refine E_idiv dX11_grow_64 (by decide) ?_
        refine E_aload_n 1 0 dX11_grow_65 rfl rfl ?_
        refine E_gR 123 29 dX11_grow_66 FX11_68 ic_103 (by decide) ?_
        refine E_iconst dX11_grow_69 (rg_of rfl) ?_
        refine E_iaload dX11_grow_70 ic_123 v12_1.1 v12_1.2 ?_
        refine E_bipush dX11_grow_71 (by decide) ?_
        refine E_irem dX11_grow_73 (by decide) ?_
        refine E_invVV [vi l1, vi (h10 105 l1), vi (j_idiv (j_irem (h10 123 0) 100) 10), vi (j_irem (h10 123 0) 10)] dX11_grow_74 fX11_puts lX11_106 ic_103 rfl (by decide) rfl rfl (Nat.le_of_ble_eq_true rfl) (CV_mono hP (fun h13 hP => ?_))
        obtain ⟨v14_0, hP⟩ := hP
        refine E_aload_n 1 0 dX11_grow_77 rfl rfl ?_
        refine E_gR 123 29 dX11_grow_78 FX11_68 ic_103 (by decide) ?_
        refine E_iconst dX11_grow_81 (rg_of rfl) ?_
        refine E_iaload dX11_grow_82 ic_123 v14_0.1 v14_0.2 ?_
        refine E_bipush dX11_grow_83 (by decide) ?_
        refine E_idiv dX11_grow_85 (by decide) ?_
        exact E_retI dX11_grow_86 rfl hP
      · replace hP := hP.2 (by omega)
        refine E_bipush dX11_grow_32 (by decide) ?_
        exact E_retI dX11_grow_34 rfl hP
    · replace hP := hP.2 (by omega)
      refine E_bipush dX11_grow_18 (by decide) ?_
      exact E_retI dX11_grow_20 rfl hP
  · replace hP := hP.2 (by have := ite0 hc; omega)
    refine E_iconst dX11_grow_7 (rg_of rfl) ?_
    exact E_retI dX11_grow_8 rfl hP
theorem dX11_areSorted_0 : decode prog_13_method_60_code 0 = .ok (.iconst 0, 1) := by decide +kernel
theorem dX11_areSorted_1 : decode prog_13_method_60_code 1 = .ok (.istore_n 3, 1) := by decide +kernel
theorem dX11_areSorted_2 : decode prog_13_method_60_code 2 = .ok (.iload_n 3, 1) := by decide +kernel
theorem dX11_areSorted_3 : decode prog_13_method_60_code 3 = .ok (.iconst 1, 1) := by decide +kernel
theorem dX11_areSorted_4 : decode prog_13_method_60_code 4 = .ok (.iload_n 1, 1) := by decide +kernel
theorem dX11_areSorted_5 : decode prog_13_method_60_code 5 = .ok (.ishl, 1) := by decide +kernel
theorem dX11_areSorted_6 : decode prog_13_method_60_code 6 = .ok (.if_icmp .ge 25, 3) := by decide +kernel
theorem dX11_areSorted_9 : decode prog_13_method_60_code 9 = .ok (.aload_n 2, 1) := by decide +kernel
theorem dX11_areSorted_10 : decode prog_13_method_60_code 10 = .ok (.iload_n 3, 1) := by decide +kernel
theorem dX11_areSorted_11 : decode prog_13_method_60_code 11 = .ok (.baload, 1) := by decide +kernel
theorem dX11_areSorted_12 : decode prog_13_method_60_code 12 = .ok (.ifCond .eq 13, 3) := by decide +kernel
theorem dX11_areSorted_15 : decode prog_13_method_60_code 15 = .ok (.iload_n 1, 1) := by decide +kernel
theorem dX11_areSorted_16 : decode prog_13_method_60_code 16 = .ok (.iload_n 3, 1) := by decide +kernel
theorem dX11_areSorted_17 : decode prog_13_method_60_code 17 = .ok (.invokestatic 153, 3) := by decide +kernel
theorem dX11_areSorted_20 : decode prog_13_method_60_code 20 = .ok (.ifCond .ne 5, 3) := by decide +kernel
theorem dX11_areSorted_23 : decode prog_13_method_60_code 23 = .ok (.iconst 0, 1) := by decide +kernel
theorem dX11_areSorted_24 : decode prog_13_method_60_code 24 = .ok (.ireturn, 1) := by decide +kernel
theorem dX11_areSorted_25 : decode prog_13_method_60_code 25 = .ok (.iinc 3 1, 3) := by decide +kernel
theorem dX11_areSorted_28 : decode prog_13_method_60_code 28 = .ok (.goto (-26), 3) := by decide +kernel
theorem dX11_areSorted_31 : decode prog_13_method_60_code 31 = .ok (.iconst 1, 1) := by decide +kernel
theorem dX11_areSorted_32 : decode prog_13_method_60_code 32 = .ok (.ireturn, 1) := by decide +kernel
theorem sX11_areSorted_2 {Q : Int → Hp → Prop} {h : Hp} {l1 r2 l3 : Int}
    (hP : ((l3 ≥ (j_ishl 1 l1)) →
     Q 1 h) ∧
    ((l3 < (j_ishl 1 l1)) →
     (setA r2 ∧ ix l3 256) ∧
     (((h r2 l3) = 0) →
      (rj (l3 + 1)) ∧
      E 1 mX11_areSorted 2 [(1, vi l1), (2, vr r2), (3, vi (l3 + 1))] [] h (qi Q)) ∧
     (((h r2 l3) ≠ 0) →
      CI 0 mX11_isSorted [vi l1, vi l3] h (fun r7 h6 =>
       ((r7 ≠ 0) →
        (rj (l3 + 1)) ∧
        E 1 mX11_areSorted 2 [(1, vi l1), (2, vr r2), (3, vi (l3 + 1))] [] h6 (qi Q)) ∧
       ((r7 = 0) →
        Q 0 h6))))) :
    E 1 mX11_areSorted 2 [(1, vi l1), (2, vr r2), (3, vi l3)] [] h (qi Q) := by
  refine E_iload_n 2 3 dX11_areSorted_2 rfl rfl ?_
  refine E_iconst dX11_areSorted_3 (rg_of rfl) ?_
  refine E_iload_n 0 1 dX11_areSorted_4 rfl rfl ?_
  refine E_ishl dX11_areSorted_5 ?_
  refine E_icmp_ge 31 dX11_areSorted_6 rfl (fun hc => ?_) (fun hc => ?_)
  · replace hP := hP.1 (hc)
    refine E_iconst dX11_areSorted_31 (rg_of rfl) ?_
    exact E_retZ dX11_areSorted_32 rfl (Or.inr rfl) hP
  · replace hP := hP.2 (by omega)
    obtain ⟨⟨v3_0, v3_1⟩, hP⟩ := hP
    refine E_aload_n 1 2 dX11_areSorted_9 rfl rfl ?_
    refine E_iload_n 2 3 dX11_areSorted_10 rfl rfl ?_
    refine E_baload dX11_areSorted_11 (icSet v3_0) v3_1.1 v3_1.2 ?_
    refine E_if_eq 25 dX11_areSorted_12 rfl (fun hc => ?_) (fun hc => ?_)
    · replace hP := hP.1 (hc)
      obtain ⟨v4_0, hP⟩ := hP
      refine E_iinc 2 dX11_areSorted_25 rfl (rgI v4_0) (by decide) rfl ?_
      refine E_goto 2 dX11_areSorted_28 rfl ?_
      exact E_sub [1, 2, 0] rfl hP
    · replace hP := hP.2 (by omega)
      refine E_iload_n 0 1 dX11_areSorted_15 rfl rfl ?_
      refine E_iload_n 2 3 dX11_areSorted_16 rfl rfl ?_
      refine E_invSI [vi l1, vi l3] dX11_areSorted_17 fX11_isSorted lX11_153 (by decide) rfl rfl (Nat.le_of_ble_eq_true rfl) (CI_mono hP (fun r7 h6 hP => ?_))
      refine E_if_ne 25 dX11_areSorted_20 rfl (fun hc => ?_) (fun hc => ?_)
      · replace hP := hP.1 (hc)
        obtain ⟨v9_0, hP⟩ := hP
        refine E_iinc 2 dX11_areSorted_25 rfl (rgI v9_0) (by decide) rfl ?_
        refine E_goto 2 dX11_areSorted_28 rfl ?_
        exact E_sub [1, 2, 0] rfl hP
      · replace hP := hP.2 (by omega)
        refine E_iconst dX11_areSorted_23 (rg_of rfl) ?_
        exact E_retZ dX11_areSorted_24 rfl (Or.inl rfl) hP
theorem sX11_areSorted {Q : Int → Hp → Prop} {h : Hp} {l1 r2 : Int}
    (hP : E 1 mX11_areSorted 2 [(1, vi l1), (2, vr r2), (3, vi 0)] [] h (qi Q)) :
    CI 1 mX11_areSorted [vr 103, vi l1, vr r2] h Q := by
  refine CI_of_E fX11_areSorted.1 rfl (Nat.le_of_ble_eq_true rfl) ?_
  show E 1 mX11_areSorted 0 [(0, vr 103), (1, vi l1), (2, vr r2)] [] h (qi Q)
  refine E_iconst dX11_areSorted_0 (rg_of rfl) ?_
  refine E_istore_n dX11_areSorted_1 rfl (by decide) rfl ?_
  exact E_sub [2, 3, 0] rfl hP
theorem dX11_isOneEnough_0 : decode prog_13_method_61_code 0 = .ok (.iconst 0, 1) := by decide +kernel
theorem dX11_isOneEnough_1 : decode prog_13_method_61_code 1 = .ok (.istore_n 2, 1) := by decide +kernel
theorem dX11_isOneEnough_2 : decode prog_13_method_61_code 2 = .ok (.iload_n 2, 1) := by decide +kernel
theorem dX11_isOneEnough_3 : decode prog_13_method_61_code 3 = .ok (.iload_n 1, 1) := by decide +kernel
theorem dX11_isOneEnough_4 : decode prog_13_method_61_code 4 = .ok (.if_icmp .ge 47, 3) := by decide +kernel
theorem dX11_isOneEnough_7 : decode prog_13_method_61_code 7 = .ok (.iload_n 2, 1) := by decide +kernel
theorem dX11_isOneEnough_8 : decode prog_13_method_61_code 8 = .ok (.iconst 1, 1) := by decide +kernel
theorem dX11_isOneEnough_9 : decode prog_13_method_61_code 9 = .ok (.iadd, 1) := by decide +kernel
theorem dX11_isOneEnough_10 : decode prog_13_method_61_code 10 = .ok (.istore_n 3, 1) := by decide +kernel
theorem dX11_isOneEnough_11 : decode prog_13_method_61_code 11 = .ok (.iload_n 3, 1) := by decide +kernel
theorem dX11_isOneEnough_12 : decode prog_13_method_61_code 12 = .ok (.iload_n 1, 1) := by decide +kernel
theorem dX11_isOneEnough_13 : decode prog_13_method_61_code 13 = .ok (.if_icmp .ge 32, 3) := by decide +kernel
theorem dX11_isOneEnough_16 : decode prog_13_method_61_code 16 = .ok (.aload_n 0, 1) := by decide +kernel
theorem dX11_isOneEnough_17 : decode prog_13_method_61_code 17 = .ok (.iload_n 1, 1) := by decide +kernel
theorem dX11_isOneEnough_18 : decode prog_13_method_61_code 18 = .ok (.iload_n 2, 1) := by decide +kernel
theorem dX11_isOneEnough_19 : decode prog_13_method_61_code 19 = .ok (.iload_n 3, 1) := by decide +kernel
theorem dX11_isOneEnough_20 : decode prog_13_method_61_code 20 = .ok (.invokevirtual 198, 3) := by decide +kernel
theorem dX11_isOneEnough_23 : decode prog_13_method_61_code 23 = .ok (.istore 4, 2) := by decide +kernel
theorem dX11_isOneEnough_25 : decode prog_13_method_61_code 25 = .ok (.aload_n 0, 1) := by decide +kernel
theorem dX11_isOneEnough_26 : decode prog_13_method_61_code 26 = .ok (.iload_n 1, 1) := by decide +kernel
theorem dX11_isOneEnough_27 : decode prog_13_method_61_code 27 = .ok (.aload_n 0, 1) := by decide +kernel
theorem dX11_isOneEnough_28 : decode prog_13_method_61_code 28 = .ok (.getfield 59, 3) := by decide +kernel
theorem dX11_isOneEnough_31 : decode prog_13_method_61_code 31 = .ok (.invokevirtual 204, 3) := by decide +kernel
theorem dX11_isOneEnough_34 : decode prog_13_method_61_code 34 = .ok (.ifCond .eq 5, 3) := by decide +kernel
theorem dX11_isOneEnough_37 : decode prog_13_method_61_code 37 = .ok (.iconst 1, 1) := by decide +kernel
theorem dX11_isOneEnough_38 : decode prog_13_method_61_code 38 = .ok (.ireturn, 1) := by decide +kernel
theorem dX11_isOneEnough_39 : decode prog_13_method_61_code 39 = .ok (.iinc 3 1, 3) := by decide +kernel
theorem dX11_isOneEnough_42 : decode prog_13_method_61_code 42 = .ok (.goto (-31), 3) := by decide +kernel
theorem dX11_isOneEnough_45 : decode prog_13_method_61_code 45 = .ok (.iinc 2 1, 3) := by decide +kernel
theorem dX11_isOneEnough_48 : decode prog_13_method_61_code 48 = .ok (.goto (-46), 3) := by decide +kernel
theorem dX11_isOneEnough_51 : decode prog_13_method_61_code 51 = .ok (.iconst 0, 1) := by decide +kernel
theorem dX11_isOneEnough_52 : decode prog_13_method_61_code 52 = .ok (.ireturn, 1) := by decide +kernel
theorem sX11_isOneEnough_11 {Q : Int → Hp → Prop} {h : Hp} {l1 l2 l3 : Int}
    (hP : ((l3 ≥ l1) →
     (rj (l2 + 1)) ∧
     E 2 mX11_isOneEnough 2 [(0, vr 103), (1, vi l1), (2, vi (l2 + 1))] [] h (qi Q)) ∧
    ((l3 < l1) →
     CI 0 mX11_counts [vr 103, vi l1, vi l2, vi l3] h (fun r5 h4 =>
      CI 1 mX11_areSorted [vr 103, vi l1, vr 120] h4 (fun r8 h7 =>
       ((r8 = 0) →
        (rj (l3 + 1)) ∧
        E 2 mX11_isOneEnough 11 [(0, vr 103), (1, vi l1), (2, vi l2), (3, vi (l3 + 1))] [] h7 (qi Q)) ∧
       ((r8 ≠ 0) →
        Q 1 h7))))) :
    E 2 mX11_isOneEnough 11 [(0, vr 103), (1, vi l1), (2, vi l2), (3, vi l3)] [] h (qi Q) := by
  refine E_iload_n 3 3 dX11_isOneEnough_11 rfl rfl ?_
  refine E_iload_n 1 1 dX11_isOneEnough_12 rfl rfl ?_
  refine E_icmp_ge 45 dX11_isOneEnough_13 rfl (fun hc => ?_) (fun hc => ?_)
  · replace hP := hP.1 (hc)
    obtain ⟨v2_0, hP⟩ := hP
    refine E_iinc 2 dX11_isOneEnough_45 rfl (rgI v2_0) (by decide) rfl ?_
    refine E_goto 2 dX11_isOneEnough_48 rfl ?_
    exact E_sub [1, 2, 0] rfl hP
  · replace hP := hP.2 (by omega)
    refine E_aload_n 0 0 dX11_isOneEnough_16 rfl rfl ?_
    refine E_iload_n 1 1 dX11_isOneEnough_17 rfl rfl ?_
    refine E_iload_n 2 2 dX11_isOneEnough_18 rfl rfl ?_
    refine E_iload_n 3 3 dX11_isOneEnough_19 rfl rfl ?_
    refine E_invVI [vi l1, vi l2, vi l3] dX11_isOneEnough_20 fX11_counts lX11_198 ic_103 rfl (by decide) rfl rfl (Nat.le_of_ble_eq_true rfl) (CI_mono hP (fun r5 h4 hP => ?_))
    refine E_istore dX11_isOneEnough_23 (by decide) rfl ?_
    refine E_aload_n 1 0 dX11_isOneEnough_25 rfl rfl ?_
    refine E_iload_n 2 1 dX11_isOneEnough_26 rfl rfl ?_
    refine E_aload_n 1 0 dX11_isOneEnough_27 rfl rfl ?_
    refine E_gR 120 22 dX11_isOneEnough_28 FX11_59 ic_103 (by decide) ?_
    refine E_invVI [vi l1, vr 120] dX11_isOneEnough_31 fX11_areSorted lX11_204 ic_103 rfl (by decide) rfl rfl (Nat.le_of_ble_eq_true rfl) (CI_mono hP (fun r8 h7 hP => ?_))
    refine E_if_eq 39 dX11_isOneEnough_34 rfl (fun hc => ?_) (fun hc => ?_)
    · replace hP := hP.1 (hc)
      obtain ⟨v10_0, hP⟩ := hP
      refine E_iinc 4 dX11_isOneEnough_39 rfl (rgI v10_0) (by decide) rfl ?_
      refine E_goto 11 dX11_isOneEnough_42 rfl ?_
      exact E_sub [2, 3, 4, 0] rfl hP
    · replace hP := hP.2 (by omega)
      refine E_iconst dX11_isOneEnough_37 (rg_of rfl) ?_
      exact E_retZ dX11_isOneEnough_38 rfl (Or.inr rfl) hP
theorem sX11_isOneEnough_2 {Q : Int → Hp → Prop} {h : Hp} {l1 l2 : Int}
    (hP : ((l2 ≥ l1) →
     Q 0 h) ∧
    ((l2 < l1) →
     (rj (l2 + 1)) ∧
     E 2 mX11_isOneEnough 11 [(0, vr 103), (1, vi l1), (2, vi l2), (3, vi (l2 + 1))] [] h (qi Q))) :
    E 2 mX11_isOneEnough 2 [(0, vr 103), (1, vi l1), (2, vi l2)] [] h (qi Q) := by
  refine E_iload_n 2 2 dX11_isOneEnough_2 rfl rfl ?_
  refine E_iload_n 1 1 dX11_isOneEnough_3 rfl rfl ?_
  refine E_icmp_ge 51 dX11_isOneEnough_4 rfl (fun hc => ?_) (fun hc => ?_)
  · replace hP := hP.1 (hc)
    refine E_iconst dX11_isOneEnough_51 (rg_of rfl) ?_
    exact E_retZ dX11_isOneEnough_52 rfl (Or.inl rfl) hP
  · replace hP := hP.2 (by omega)
    obtain ⟨v3_0, hP⟩ := hP
    refine E_iload_n 2 2 dX11_isOneEnough_7 rfl rfl ?_
    refine E_iconst dX11_isOneEnough_8 (rg_of rfl) ?_
    refine E_iadd dX11_isOneEnough_9 (rgI v3_0) ?_
    refine E_istore_n dX11_isOneEnough_10 rfl (by decide) rfl ?_
    exact E_sub [1, 2, 3, 0] rfl hP
theorem sX11_isOneEnough {Q : Int → Hp → Prop} {h : Hp} {l1 : Int}
    (hP : E 2 mX11_isOneEnough 2 [(0, vr 103), (1, vi l1), (2, vi 0)] [] h (qi Q)) :
    CI 2 mX11_isOneEnough [vr 103, vi l1] h Q := by
  refine CI_of_E fX11_isOneEnough.1 rfl (Nat.le_of_ble_eq_true rfl) ?_
  show E 2 mX11_isOneEnough 0 [(0, vr 103), (1, vi l1)] [] h (qi Q)
  refine E_iconst dX11_isOneEnough_0 (rg_of rfl) ?_
  refine E_istore_n dX11_isOneEnough_1 rfl (by decide) rfl ?_
  exact E_sub [1, 2, 0] rfl hP
theorem dX11_missing_0 : decode prog_13_method_62_code 0 = .ok (.iload_n 1, 1) := by decide +kernel
theorem dX11_missing_1 : decode prog_13_method_62_code 1 = .ok (.invokestatic 88, 3) := by decide +kernel
theorem dX11_missing_4 : decode prog_13_method_62_code 4 = .ok (.ifCond .ne 5, 3) := by decide +kernel
theorem dX11_missing_7 : decode prog_13_method_62_code 7 = .ok (.iconst (-1), 1) := by decide +kernel
theorem dX11_missing_8 : decode prog_13_method_62_code 8 = .ok (.ireturn, 1) := by decide +kernel
theorem dX11_missing_9 : decode prog_13_method_62_code 9 = .ok (.iload_n 2, 1) := by decide +kernel
theorem dX11_missing_10 : decode prog_13_method_62_code 10 = .ok (.iconst 0, 1) := by decide +kernel
theorem dX11_missing_11 : decode prog_13_method_62_code 11 = .ok (.iconst 2, 1) := by decide +kernel
theorem dX11_missing_12 : decode prog_13_method_62_code 12 = .ok (.invokestatic 80, 3) := by decide +kernel
theorem dX11_missing_15 : decode prog_13_method_62_code 15 = .ok (.ifCond .ne 6, 3) := by decide +kernel
theorem dX11_missing_18 : decode prog_13_method_62_code 18 = .ok (.bipush (-2), 2) := by decide +kernel
theorem dX11_missing_20 : decode prog_13_method_62_code 20 = .ok (.ireturn, 1) := by decide +kernel
theorem dX11_missing_21 : decode prog_13_method_62_code 21 = .ok (.aload_n 0, 1) := by decide +kernel
theorem dX11_missing_22 : decode prog_13_method_62_code 22 = .ok (.iload_n 1, 1) := by decide +kernel
theorem dX11_missing_23 : decode prog_13_method_62_code 23 = .ok (.aload_n 0, 1) := by decide +kernel
theorem dX11_missing_24 : decode prog_13_method_62_code 24 = .ok (.getfield 71, 3) := by decide +kernel
theorem dX11_missing_27 : decode prog_13_method_62_code 27 = .ok (.invokevirtual 156, 3) := by decide +kernel
theorem dX11_missing_30 : decode prog_13_method_62_code 30 = .ok (.istore_n 3, 1) := by decide +kernel
theorem dX11_missing_31 : decode prog_13_method_62_code 31 = .ok (.aload_n 0, 1) := by decide +kernel
theorem dX11_missing_32 : decode prog_13_method_62_code 32 = .ok (.aload_n 0, 1) := by decide +kernel
theorem dX11_missing_33 : decode prog_13_method_62_code 33 = .ok (.getfield 9, 3) := by decide +kernel
theorem dX11_missing_36 : decode prog_13_method_62_code 36 = .ok (.iload_n 1, 1) := by decide +kernel
theorem dX11_missing_37 : decode prog_13_method_62_code 37 = .ok (.iaload, 1) := by decide +kernel
theorem dX11_missing_38 : decode prog_13_method_62_code 38 = .ok (.aload_n 0, 1) := by decide +kernel
theorem dX11_missing_39 : decode prog_13_method_62_code 39 = .ok (.getfield 71, 3) := by decide +kernel
theorem dX11_missing_42 : decode prog_13_method_62_code 42 = .ok (.invokevirtual 204, 3) := by decide +kernel
theorem dX11_missing_45 : decode prog_13_method_62_code 45 = .ok (.ifCond .eq 5, 3) := by decide +kernel
theorem dX11_missing_48 : decode prog_13_method_62_code 48 = .ok (.iconst 0, 1) := by decide +kernel
theorem dX11_missing_49 : decode prog_13_method_62_code 49 = .ok (.ireturn, 1) := by decide +kernel
theorem dX11_missing_50 : decode prog_13_method_62_code 50 = .ok (.iconst 0, 1) := by decide +kernel
theorem dX11_missing_51 : decode prog_13_method_62_code 51 = .ok (.istore 4, 2) := by decide +kernel
theorem dX11_missing_53 : decode prog_13_method_62_code 53 = .ok (.iload 4, 2) := by decide +kernel
theorem dX11_missing_55 : decode prog_13_method_62_code 55 = .ok (.sipush 256, 3) := by decide +kernel
theorem dX11_missing_58 : decode prog_13_method_62_code 58 = .ok (.if_icmp .ge 23, 3) := by decide +kernel
theorem dX11_missing_61 : decode prog_13_method_62_code 61 = .ok (.aload_n 0, 1) := by decide +kernel
theorem dX11_missing_62 : decode prog_13_method_62_code 62 = .ok (.getfield 55, 3) := by decide +kernel
theorem dX11_missing_65 : decode prog_13_method_62_code 65 = .ok (.iload 4, 2) := by decide +kernel
theorem dX11_missing_67 : decode prog_13_method_62_code 67 = .ok (.aload_n 0, 1) := by decide +kernel
theorem dX11_missing_68 : decode prog_13_method_62_code 68 = .ok (.getfield 71, 3) := by decide +kernel
theorem dX11_missing_71 : decode prog_13_method_62_code 71 = .ok (.iload 4, 2) := by decide +kernel
theorem dX11_missing_73 : decode prog_13_method_62_code 73 = .ok (.baload, 1) := by decide +kernel
theorem dX11_missing_74 : decode prog_13_method_62_code 74 = .ok (.bastore, 1) := by decide +kernel
theorem dX11_missing_75 : decode prog_13_method_62_code 75 = .ok (.iinc 4 1, 3) := by decide +kernel
theorem dX11_missing_78 : decode prog_13_method_62_code 78 = .ok (.goto (-25), 3) := by decide +kernel
theorem dX11_missing_81 : decode prog_13_method_62_code 81 = .ok (.iload_n 2, 1) := by decide +kernel
theorem dX11_missing_82 : decode prog_13_method_62_code 82 = .ok (.iconst 1, 1) := by decide +kernel
theorem dX11_missing_83 : decode prog_13_method_62_code 83 = .ok (.if_icmp .lt 18, 3) := by decide +kernel
theorem dX11_missing_86 : decode prog_13_method_62_code 86 = .ok (.aload_n 0, 1) := by decide +kernel
theorem dX11_missing_87 : decode prog_13_method_62_code 87 = .ok (.aload_n 0, 1) := by decide +kernel
theorem dX11_missing_88 : decode prog_13_method_62_code 88 = .ok (.getfield 9, 3) := by decide +kernel
theorem dX11_missing_91 : decode prog_13_method_62_code 91 = .ok (.iload_n 1, 1) := by decide +kernel
theorem dX11_missing_92 : decode prog_13_method_62_code 92 = .ok (.iaload, 1) := by decide +kernel
theorem dX11_missing_93 : decode prog_13_method_62_code 93 = .ok (.invokevirtual 208, 3) := by decide +kernel
theorem dX11_missing_96 : decode prog_13_method_62_code 96 = .ok (.ifCond .eq 5, 3) := by decide +kernel
theorem dX11_missing_99 : decode prog_13_method_62_code 99 = .ok (.iconst 1, 1) := by decide +kernel
theorem dX11_missing_100 : decode prog_13_method_62_code 100 = .ok (.ireturn, 1) := by decide +kernel
theorem dX11_missing_101 : decode prog_13_method_62_code 101 = .ok (.iconst 0, 1) := by decide +kernel
theorem dX11_missing_102 : decode prog_13_method_62_code 102 = .ok (.istore 4, 2) := by decide +kernel
theorem dX11_missing_104 : decode prog_13_method_62_code 104 = .ok (.iload_n 2, 1) := by decide +kernel
theorem dX11_missing_105 : decode prog_13_method_62_code 105 = .ok (.iconst 2, 1) := by decide +kernel
theorem dX11_missing_106 : decode prog_13_method_62_code 106 = .ok (.if_icmp .ne 136, 3) := by decide +kernel
theorem dX11_missing_109 : decode prog_13_method_62_code 109 = .ok (.iload 4, 2) := by decide +kernel
theorem dX11_missing_111 : decode prog_13_method_62_code 111 = .ok (.aload_n 0, 1) := by decide +kernel
theorem dX11_missing_112 : decode prog_13_method_62_code 112 = .ok (.getfield 9, 3) := by decide +kernel
theorem dX11_missing_115 : decode prog_13_method_62_code 115 = .ok (.iload_n 1, 1) := by decide +kernel
theorem dX11_missing_116 : decode prog_13_method_62_code 116 = .ok (.iaload, 1) := by decide +kernel
theorem dX11_missing_117 : decode prog_13_method_62_code 117 = .ok (.if_icmp .ge 125, 3) := by decide +kernel
theorem dX11_missing_120 : decode prog_13_method_62_code 120 = .ok (.iload 4, 2) := by decide +kernel
theorem dX11_missing_122 : decode prog_13_method_62_code 122 = .ok (.iconst 1, 1) := by decide +kernel
theorem dX11_missing_123 : decode prog_13_method_62_code 123 = .ok (.iadd, 1) := by decide +kernel
theorem dX11_missing_124 : decode prog_13_method_62_code 124 = .ok (.istore 5, 2) := by decide +kernel
theorem dX11_missing_126 : decode prog_13_method_62_code 126 = .ok (.iload 5, 2) := by decide +kernel
theorem dX11_missing_128 : decode prog_13_method_62_code 128 = .ok (.aload_n 0, 1) := by decide +kernel
theorem dX11_missing_129 : decode prog_13_method_62_code 129 = .ok (.getfield 9, 3) := by decide +kernel
theorem dX11_missing_132 : decode prog_13_method_62_code 132 = .ok (.iload_n 1, 1) := by decide +kernel
theorem dX11_missing_133 : decode prog_13_method_62_code 133 = .ok (.iaload, 1) := by decide +kernel
theorem dX11_missing_134 : decode prog_13_method_62_code 134 = .ok (.if_icmp .ge 102, 3) := by decide +kernel
theorem dX11_missing_137 : decode prog_13_method_62_code 137 = .ok (.iconst 0, 1) := by decide +kernel
theorem dX11_missing_138 : decode prog_13_method_62_code 138 = .ok (.istore 6, 2) := by decide +kernel
theorem dX11_missing_140 : decode prog_13_method_62_code 140 = .ok (.iload 6, 2) := by decide +kernel
theorem dX11_missing_142 : decode prog_13_method_62_code 142 = .ok (.sipush 256, 3) := by decide +kernel
theorem dX11_missing_145 : decode prog_13_method_62_code 145 = .ok (.if_icmp .ge 23, 3) := by decide +kernel
theorem dX11_missing_148 : decode prog_13_method_62_code 148 = .ok (.aload_n 0, 1) := by decide +kernel
theorem dX11_missing_149 : decode prog_13_method_62_code 149 = .ok (.getfield 55, 3) := by decide +kernel
theorem dX11_missing_152 : decode prog_13_method_62_code 152 = .ok (.iload 6, 2) := by decide +kernel
theorem dX11_missing_154 : decode prog_13_method_62_code 154 = .ok (.aload_n 0, 1) := by decide +kernel
theorem dX11_missing_155 : decode prog_13_method_62_code 155 = .ok (.getfield 71, 3) := by decide +kernel
theorem dX11_missing_158 : decode prog_13_method_62_code 158 = .ok (.iload 6, 2) := by decide +kernel
theorem dX11_missing_160 : decode prog_13_method_62_code 160 = .ok (.baload, 1) := by decide +kernel
theorem dX11_missing_161 : decode prog_13_method_62_code 161 = .ok (.bastore, 1) := by decide +kernel
theorem dX11_missing_162 : decode prog_13_method_62_code 162 = .ok (.iinc 6 1, 3) := by decide +kernel
theorem dX11_missing_165 : decode prog_13_method_62_code 165 = .ok (.goto (-25), 3) := by decide +kernel
theorem dX11_missing_168 : decode prog_13_method_62_code 168 = .ok (.aload_n 0, 1) := by decide +kernel
theorem dX11_missing_169 : decode prog_13_method_62_code 169 = .ok (.aload_n 0, 1) := by decide +kernel
theorem dX11_missing_170 : decode prog_13_method_62_code 170 = .ok (.getfield 9, 3) := by decide +kernel
theorem dX11_missing_173 : decode prog_13_method_62_code 173 = .ok (.iload_n 1, 1) := by decide +kernel
theorem dX11_missing_174 : decode prog_13_method_62_code 174 = .ok (.iaload, 1) := by decide +kernel
theorem dX11_missing_175 : decode prog_13_method_62_code 175 = .ok (.iload 4, 2) := by decide +kernel
theorem dX11_missing_177 : decode prog_13_method_62_code 177 = .ok (.iload 5, 2) := by decide +kernel
theorem dX11_missing_179 : decode prog_13_method_62_code 179 = .ok (.invokevirtual 198, 3) := by decide +kernel
theorem dX11_missing_182 : decode prog_13_method_62_code 182 = .ok (.istore 6, 2) := by decide +kernel
theorem dX11_missing_184 : decode prog_13_method_62_code 184 = .ok (.iconst 0, 1) := by decide +kernel
theorem dX11_missing_185 : decode prog_13_method_62_code 185 = .ok (.istore 7, 2) := by decide +kernel
theorem dX11_missing_187 : decode prog_13_method_62_code 187 = .ok (.iload 7, 2) := by decide +kernel
theorem dX11_missing_189 : decode prog_13_method_62_code 189 = .ok (.sipush 256, 3) := by decide +kernel
theorem dX11_missing_192 : decode prog_13_method_62_code 192 = .ok (.if_icmp .ge 23, 3) := by decide +kernel
theorem dX11_missing_195 : decode prog_13_method_62_code 195 = .ok (.aload_n 0, 1) := by decide +kernel
theorem dX11_missing_196 : decode prog_13_method_62_code 196 = .ok (.getfield 55, 3) := by decide +kernel
theorem dX11_missing_199 : decode prog_13_method_62_code 199 = .ok (.iload 7, 2) := by decide +kernel
theorem dX11_missing_201 : decode prog_13_method_62_code 201 = .ok (.aload_n 0, 1) := by decide +kernel
theorem dX11_missing_202 : decode prog_13_method_62_code 202 = .ok (.getfield 59, 3) := by decide +kernel
theorem dX11_missing_205 : decode prog_13_method_62_code 205 = .ok (.iload 7, 2) := by decide +kernel
theorem dX11_missing_207 : decode prog_13_method_62_code 207 = .ok (.baload, 1) := by decide +kernel
theorem dX11_missing_208 : decode prog_13_method_62_code 208 = .ok (.bastore, 1) := by decide +kernel
theorem dX11_missing_209 : decode prog_13_method_62_code 209 = .ok (.iinc 7 1, 3) := by decide +kernel
theorem dX11_missing_212 : decode prog_13_method_62_code 212 = .ok (.goto (-25), 3) := by decide +kernel
theorem dX11_missing_215 : decode prog_13_method_62_code 215 = .ok (.aload_n 0, 1) := by decide +kernel
theorem dX11_missing_216 : decode prog_13_method_62_code 216 = .ok (.aload_n 0, 1) := by decide +kernel
theorem dX11_missing_217 : decode prog_13_method_62_code 217 = .ok (.getfield 9, 3) := by decide +kernel
theorem dX11_missing_220 : decode prog_13_method_62_code 220 = .ok (.iload_n 1, 1) := by decide +kernel
theorem dX11_missing_221 : decode prog_13_method_62_code 221 = .ok (.iaload, 1) := by decide +kernel
theorem dX11_missing_222 : decode prog_13_method_62_code 222 = .ok (.invokevirtual 208, 3) := by decide +kernel
theorem dX11_missing_225 : decode prog_13_method_62_code 225 = .ok (.ifCond .eq 5, 3) := by decide +kernel
theorem dX11_missing_228 : decode prog_13_method_62_code 228 = .ok (.iconst 2, 1) := by decide +kernel
theorem dX11_missing_229 : decode prog_13_method_62_code 229 = .ok (.ireturn, 1) := by decide +kernel
theorem dX11_missing_230 : decode prog_13_method_62_code 230 = .ok (.iinc 5 1, 3) := by decide +kernel
theorem dX11_missing_233 : decode prog_13_method_62_code 233 = .ok (.goto (-107), 3) := by decide +kernel
theorem dX11_missing_236 : decode prog_13_method_62_code 236 = .ok (.iinc 4 1, 3) := by decide +kernel
theorem dX11_missing_239 : decode prog_13_method_62_code 239 = .ok (.goto (-135), 3) := by decide +kernel
theorem dX11_missing_242 : decode prog_13_method_62_code 242 = .ok (.bipush (-4), 2) := by decide +kernel
theorem dX11_missing_244 : decode prog_13_method_62_code 244 = .ok (.ireturn, 1) := by decide +kernel
theorem sX11_missing_187 {Q : Int → Hp → Prop} {h : Hp} {l1 l2 l4 l5 l7 : Int}
    (hP : ((l7 ≥ 256) →
     (ix l1 4) ∧
     CI 2 mX11_isOneEnough [vr 103, vi (h 104 l1)] h (fun r4 h3 =>
      ((r4 = 0) →
       (rj (l5 + 1)) ∧
       E 3 mX11_missing 126 [(0, vr 103), (1, vi l1), (2, vi l2), (4, vi l4), (5, vi (l5 + 1))] [] h3 (qi Q)) ∧
      ((r4 ≠ 0) →
       Q 2 h3))) ∧
    ((l7 < 256) →
     (ix l7 256 ∧ ((h 120 l7) = 0 ∨ (h 120 l7) = 1) ∧ rj (l7 + 1)) ∧
     E 3 mX11_missing 187 [(0, vr 103), (1, vi l1), (2, vi l2), (4, vi l4), (5, vi l5), (7, vi (l7 + 1))] [] (up h 119 l7 (h 120 l7)) (qi Q))) :
    E 3 mX11_missing 187 [(0, vr 103), (1, vi l1), (2, vi l2), (4, vi l4), (5, vi l5), (7, vi l7)] [] h (qi Q) := by
  refine E_iload 5 dX11_missing_187 rfl ?_
  refine E_sipush dX11_missing_189 (by decide) ?_
  refine E_icmp_ge 215 dX11_missing_192 rfl (fun hc => ?_) (fun hc => ?_)
  · replace hP := hP.1 (hc)
    obtain ⟨v2_0, hP⟩ := hP
    refine E_aload_n 0 0 dX11_missing_215 rfl rfl ?_
    refine E_aload_n 0 0 dX11_missing_216 rfl rfl ?_
    refine E_gR 104 0 dX11_missing_217 FX11_9 ic_103 (by decide) ?_
    refine E_iload_n 1 1 dX11_missing_220 rfl rfl ?_
    refine E_iaload dX11_missing_221 ic_104 v2_0.1 v2_0.2 ?_
    refine E_invVI [vi (h 104 l1)] dX11_missing_222 fX11_isOneEnough lX11_208 ic_103 rfl (by decide) rfl rfl (Nat.le_of_ble_eq_true rfl) (CI_mono hP (fun r4 h3 hP => ?_))
    refine E_if_eq 230 dX11_missing_225 rfl (fun hc => ?_) (fun hc => ?_)
    · replace hP := hP.1 (hc)
      obtain ⟨v6_0, hP⟩ := hP
      refine E_iinc 4 dX11_missing_230 rfl (rgI v6_0) (by decide) rfl ?_
      refine E_goto 126 dX11_missing_233 rfl ?_
      exact E_sub [1, 2, 3, 4, 0] rfl hP
    · replace hP := hP.2 (by omega)
      refine E_iconst dX11_missing_228 (rg_of rfl) ?_
      exact E_retI dX11_missing_229 rfl hP
  · replace hP := hP.2 (by omega)
    obtain ⟨⟨v8_0, v8_1, v8_2⟩, hP⟩ := hP
    refine E_aload_n 0 0 dX11_missing_195 rfl rfl ?_
    refine E_gR 119 21 dX11_missing_196 FX11_55 ic_103 (by decide) ?_
    refine E_iload 5 dX11_missing_199 rfl ?_
    refine E_aload_n 0 0 dX11_missing_201 rfl rfl ?_
    refine E_gR 120 22 dX11_missing_202 FX11_59 ic_103 (by decide) ?_
    refine E_iload 5 dX11_missing_205 rfl ?_
    refine E_baload dX11_missing_207 ic_120 v8_0.1 v8_0.2 ?_
    refine E_bastore dX11_missing_208 ic_119 v8_0.1 v8_0.2 v8_1 ?_
    refine E_iinc 5 dX11_missing_209 rfl (rgI v8_2) (by decide) rfl ?_
    refine E_goto 187 dX11_missing_212 rfl ?_
    exact E_sub [1, 2, 3, 4, 5, 0] rfl hP
theorem sX11_missing_140 {Q : Int → Hp → Prop} {h : Hp} {l1 l2 l4 l5 l6 : Int}
    (hP : ((l6 ≥ 256) →
     (ix l1 4) ∧
     CI 0 mX11_counts [vr 103, vi (h 104 l1), vi l4, vi l5] h (fun r4 h3 =>
      E 3 mX11_missing 187 [(0, vr 103), (1, vi l1), (2, vi l2), (4, vi l4), (5, vi l5), (7, vi 0)] [] h3 (qi Q))) ∧
    ((l6 < 256) →
     (ix l6 256 ∧ ((h 124 l6) = 0 ∨ (h 124 l6) = 1) ∧ rj (l6 + 1)) ∧
     E 3 mX11_missing 140 [(0, vr 103), (1, vi l1), (2, vi l2), (4, vi l4), (5, vi l5), (6, vi (l6 + 1))] [] (up h 119 l6 (h 124 l6)) (qi Q))) :
    E 3 mX11_missing 140 [(0, vr 103), (1, vi l1), (2, vi l2), (4, vi l4), (5, vi l5), (6, vi l6)] [] h (qi Q) := by
  refine E_iload 5 dX11_missing_140 rfl ?_
  refine E_sipush dX11_missing_142 (by decide) ?_
  refine E_icmp_ge 168 dX11_missing_145 rfl (fun hc => ?_) (fun hc => ?_)
  · replace hP := hP.1 (hc)
    obtain ⟨v2_0, hP⟩ := hP
    refine E_aload_n 0 0 dX11_missing_168 rfl rfl ?_
    refine E_aload_n 0 0 dX11_missing_169 rfl rfl ?_
    refine E_gR 104 0 dX11_missing_170 FX11_9 ic_103 (by decide) ?_
    refine E_iload_n 1 1 dX11_missing_173 rfl rfl ?_
    refine E_iaload dX11_missing_174 ic_104 v2_0.1 v2_0.2 ?_
    refine E_iload 3 dX11_missing_175 rfl ?_
    refine E_iload 4 dX11_missing_177 rfl ?_
    refine E_invVI [vi (h 104 l1), vi l4, vi l5] dX11_missing_179 fX11_counts lX11_198 ic_103 rfl (by decide) rfl rfl (Nat.le_of_ble_eq_true rfl) (CI_mono hP (fun r4 h3 hP => ?_))
    refine E_istore dX11_missing_182 (by decide) rfl ?_
    refine E_iconst dX11_missing_184 (rg_of rfl) ?_
    refine E_istore dX11_missing_185 (by decide) rfl ?_
    exact E_sub [2, 3, 4, 5, 6, 0] rfl hP
  · replace hP := hP.2 (by omega)
    obtain ⟨⟨v6_0, v6_1, v6_2⟩, hP⟩ := hP
    refine E_aload_n 0 0 dX11_missing_148 rfl rfl ?_
    refine E_gR 119 21 dX11_missing_149 FX11_55 ic_103 (by decide) ?_
    refine E_iload 5 dX11_missing_152 rfl ?_
    refine E_aload_n 0 0 dX11_missing_154 rfl rfl ?_
    refine E_gR 124 30 dX11_missing_155 FX11_71 ic_103 (by decide) ?_
    refine E_iload 5 dX11_missing_158 rfl ?_
    refine E_baload dX11_missing_160 ic_124 v6_0.1 v6_0.2 ?_
    refine E_bastore dX11_missing_161 ic_119 v6_0.1 v6_0.2 v6_1 ?_
    refine E_iinc 5 dX11_missing_162 rfl (rgI v6_2) (by decide) rfl ?_
    refine E_goto 140 dX11_missing_165 rfl ?_
    exact E_sub [1, 2, 3, 4, 5, 0] rfl hP
theorem sX11_missing_126 {Q : Int → Hp → Prop} {h : Hp} {l1 l2 l4 l5 : Int}
    (hP : (ix l1 4) ∧
    ((l5 ≥ (h 104 l1)) →
     (rj (l4 + 1)) ∧
     E 3 mX11_missing 104 [(0, vr 103), (1, vi l1), (2, vi l2), (4, vi (l4 + 1))] [] h (qi Q)) ∧
    ((l5 < (h 104 l1)) →
     E 3 mX11_missing 140 [(0, vr 103), (1, vi l1), (2, vi l2), (4, vi l4), (5, vi l5), (6, vi 0)] [] h (qi Q))) :
    E 3 mX11_missing 126 [(0, vr 103), (1, vi l1), (2, vi l2), (4, vi l4), (5, vi l5)] [] h (qi Q) := by
  obtain ⟨v1_0, hP⟩ := hP
  refine E_iload 4 dX11_missing_126 rfl ?_
  refine E_aload_n 0 0 dX11_missing_128 rfl rfl ?_
  refine E_gR 104 0 dX11_missing_129 FX11_9 ic_103 (by decide) ?_
  refine E_iload_n 1 1 dX11_missing_132 rfl rfl ?_
  refine E_iaload dX11_missing_133 ic_104 v1_0.1 v1_0.2 ?_
  refine E_icmp_ge 236 dX11_missing_134 rfl (fun hc => ?_) (fun hc => ?_)
  · replace hP := hP.1 (hc)
    obtain ⟨v2_0, hP⟩ := hP
    refine E_iinc 3 dX11_missing_236 rfl (rgI v2_0) (by decide) rfl ?_
    refine E_goto 104 dX11_missing_239 rfl ?_
    exact E_sub [1, 2, 3, 0] rfl hP
  · replace hP := hP.2 (by omega)
    refine E_iconst dX11_missing_137 (rg_of rfl) ?_
    refine E_istore dX11_missing_138 (by decide) rfl ?_
    exact E_sub [1, 2, 3, 4, 5, 0] rfl hP
theorem sX11_missing_104 {Q : Int → Hp → Prop} {h : Hp} {l1 l2 l4 : Int}
    (hP : ((l2 ≠ 2) →
     Q (-4) h) ∧
    ((l2 = 2) →
     (ix l1 4) ∧
     ((l4 ≥ (h 104 l1)) →
      Q (-4) h) ∧
     ((l4 < (h 104 l1)) →
      (rj (l4 + 1)) ∧
      E 3 mX11_missing 126 [(0, vr 103), (1, vi l1), (2, vi l2), (4, vi l4), (5, vi (l4 + 1))] [] h (qi Q)))) :
    E 3 mX11_missing 104 [(0, vr 103), (1, vi l1), (2, vi l2), (4, vi l4)] [] h (qi Q) := by
  refine E_iload_n 2 2 dX11_missing_104 rfl rfl ?_
  refine E_iconst dX11_missing_105 (rg_of rfl) ?_
  refine E_icmp_ne 242 dX11_missing_106 rfl (fun hc => ?_) (fun hc => ?_)
  · replace hP := hP.1 (hc)
    refine E_bipush dX11_missing_242 (by decide) ?_
    exact E_retI dX11_missing_244 rfl hP
  · replace hP := hP.2 (by omega)
    obtain ⟨v3_0, hP⟩ := hP
    refine E_iload 3 dX11_missing_109 rfl ?_
    refine E_aload_n 0 0 dX11_missing_111 rfl rfl ?_
    refine E_gR 104 0 dX11_missing_112 FX11_9 ic_103 (by decide) ?_
    refine E_iload_n 1 1 dX11_missing_115 rfl rfl ?_
    refine E_iaload dX11_missing_116 ic_104 v3_0.1 v3_0.2 ?_
    refine E_icmp_ge 242 dX11_missing_117 rfl (fun hc => ?_) (fun hc => ?_)
    · replace hP := hP.1 (hc)
      refine E_bipush dX11_missing_242 (by decide) ?_
      exact E_retI dX11_missing_244 rfl hP
    · replace hP := hP.2 (by omega)
      obtain ⟨v5_0, hP⟩ := hP
      refine E_iload 3 dX11_missing_120 rfl ?_
      refine E_iconst dX11_missing_122 (rg_of rfl) ?_
      refine E_iadd dX11_missing_123 (rgI v5_0) ?_
      refine E_istore dX11_missing_124 (by decide) rfl ?_
      exact E_sub [1, 2, 3, 4, 0] rfl hP
theorem sX11_missing_81 {Q : Int → Hp → Prop} {h : Hp} {l1 l2 : Int}
    (hP : ((l2 < 1) →
     E 3 mX11_missing 104 [(0, vr 103), (1, vi l1), (2, vi l2), (4, vi 0)] [] h (qi Q)) ∧
    ((l2 ≥ 1) →
     (ix l1 4) ∧
     CI 2 mX11_isOneEnough [vr 103, vi (h 104 l1)] h (fun r5 h4 =>
      ((r5 = 0) →
       E 3 mX11_missing 104 [(0, vr 103), (1, vi l1), (2, vi l2), (4, vi 0)] [] h4 (qi Q)) ∧
      ((r5 ≠ 0) →
       Q 1 h4)))) :
    E 3 mX11_missing 81 [(0, vr 103), (1, vi l1), (2, vi l2)] [] h (qi Q) := by
  refine E_iload_n 2 2 dX11_missing_81 rfl rfl ?_
  refine E_iconst dX11_missing_82 (rg_of rfl) ?_
  refine E_icmp_lt 101 dX11_missing_83 rfl (fun hc => ?_) (fun hc => ?_)
  · replace hP := hP.1 (hc)
    refine E_iconst dX11_missing_101 (rg_of rfl) ?_
    refine E_istore dX11_missing_102 (by decide) rfl ?_
    exact E_sub [1, 2, 3, 0] rfl hP
  · replace hP := hP.2 (by omega)
    obtain ⟨v3_0, hP⟩ := hP
    refine E_aload_n 0 0 dX11_missing_86 rfl rfl ?_
    refine E_aload_n 0 0 dX11_missing_87 rfl rfl ?_
    refine E_gR 104 0 dX11_missing_88 FX11_9 ic_103 (by decide) ?_
    refine E_iload_n 1 1 dX11_missing_91 rfl rfl ?_
    refine E_iaload dX11_missing_92 ic_104 v3_0.1 v3_0.2 ?_
    refine E_invVI [vi (h 104 l1)] dX11_missing_93 fX11_isOneEnough lX11_208 ic_103 rfl (by decide) rfl rfl (Nat.le_of_ble_eq_true rfl) (CI_mono hP (fun r5 h4 hP => ?_))
    refine E_if_eq 101 dX11_missing_96 rfl (fun hc => ?_) (fun hc => ?_)
    · replace hP := hP.1 (hc)
      refine E_iconst dX11_missing_101 (rg_of rfl) ?_
      refine E_istore dX11_missing_102 (by decide) rfl ?_
      exact E_sub [1, 2, 3, 0] rfl hP
    · replace hP := hP.2 (by omega)
      refine E_iconst dX11_missing_99 (rg_of rfl) ?_
      exact E_retI dX11_missing_100 rfl hP
theorem sX11_missing_53 {Q : Int → Hp → Prop} {h : Hp} {l1 l2 l4 : Int}
    (hP : ((l4 ≥ 256) →
     E 3 mX11_missing 81 [(0, vr 103), (1, vi l1), (2, vi l2)] [] h (qi Q)) ∧
    ((l4 < 256) →
     (ix l4 256 ∧ ((h 124 l4) = 0 ∨ (h 124 l4) = 1) ∧ rj (l4 + 1)) ∧
     E 3 mX11_missing 53 [(0, vr 103), (1, vi l1), (2, vi l2), (4, vi (l4 + 1))] [] (up h 119 l4 (h 124 l4)) (qi Q))) :
    E 3 mX11_missing 53 [(0, vr 103), (1, vi l1), (2, vi l2), (4, vi l4)] [] h (qi Q) := by
  refine E_iload 3 dX11_missing_53 rfl ?_
  refine E_sipush dX11_missing_55 (by decide) ?_
  refine E_icmp_ge 81 dX11_missing_58 rfl (fun hc => ?_) (fun hc => ?_)
  · replace hP := hP.1 (hc)
    exact E_sub [0, 1, 2] rfl hP
  · replace hP := hP.2 (by omega)
    obtain ⟨⟨v3_0, v3_1, v3_2⟩, hP⟩ := hP
    refine E_aload_n 0 0 dX11_missing_61 rfl rfl ?_
    refine E_gR 119 21 dX11_missing_62 FX11_55 ic_103 (by decide) ?_
    refine E_iload 3 dX11_missing_65 rfl ?_
    refine E_aload_n 0 0 dX11_missing_67 rfl rfl ?_
    refine E_gR 124 30 dX11_missing_68 FX11_71 ic_103 (by decide) ?_
    refine E_iload 3 dX11_missing_71 rfl ?_
    refine E_baload dX11_missing_73 ic_124 v3_0.1 v3_0.2 ?_
    refine E_bastore dX11_missing_74 ic_119 v3_0.1 v3_0.2 v3_1 ?_
    refine E_iinc 3 dX11_missing_75 rfl (rgI v3_2) (by decide) rfl ?_
    refine E_goto 53 dX11_missing_78 rfl ?_
    exact E_sub [1, 2, 3, 0] rfl hP
theorem sX11_missing {Q : Int → Hp → Prop} {h : Hp} {l1 l2 : Int}
    (hP : ((l1 ≥ 0 ∧ l1 ≤ 3) →
     ((l2 ≥ 0 ∧ l2 ≤ 2) →
      CI 1 mX11_finds [vr 103, vi l1, vr 124] h (fun r5 h4 =>
       (ix l1 4) ∧
       CI 1 mX11_areSorted [vr 103, vi (h4 104 l1), vr 124] h4 (fun r8 h7 =>
        ((r8 = 0) →
         E 3 mX11_missing 53 [(0, vr 103), (1, vi l1), (2, vi l2), (4, vi 0)] [] h7 (qi Q)) ∧
        ((r8 ≠ 0) →
         Q 0 h7)))) ∧
     ((l2 < 0 ∨ l2 > 2) →
      Q (-2) h)) ∧
    ((l1 < 0 ∨ l1 > 3) →
     Q (-1) h)) :
    CI 3 mX11_missing [vr 103, vi l1, vi l2] h Q := by
  refine CI_of_E fX11_missing.1 rfl (Nat.le_of_ble_eq_true rfl) ?_
  show E 3 mX11_missing 0 [(0, vr 103), (1, vi l1), (2, vi l2)] [] h (qi Q)
  refine E_iload_n 1 1 dX11_missing_0 rfl rfl ?_
  refine E_invSI [vi l1] dX11_missing_1 fX11_isNet lX11_88 (by decide) rfl rfl (Nat.le_of_ble_eq_true rfl) (sX11_isNet (h := h) (l0 := l1) ?_)
  refine E_if_ne 9 dX11_missing_4 rfl (fun hc => ?_) (fun hc => ?_)
  · replace hP := hP.1 (by have := ite1' hc; omega)
    refine E_iload_n 2 2 dX11_missing_9 rfl rfl ?_
    refine E_iconst dX11_missing_10 (rg_of rfl) ?_
    refine E_iconst dX11_missing_11 (rg_of rfl) ?_
    refine E_invSI [vi l2, vi 0, vi 2] dX11_missing_12 fX11_isIn lX11_80 (by decide) rfl rfl (Nat.le_of_ble_eq_true rfl) (sX11_isIn (h := h) (l0 := l2) (l1 := 0) (l2 := 2) ?_)
    refine E_if_ne 21 dX11_missing_15 rfl (fun hc => ?_) (fun hc => ?_)
    · replace hP := hP.1 (by have := ite1' hc; omega)
      refine E_aload_n 0 0 dX11_missing_21 rfl rfl ?_
      refine E_iload_n 1 1 dX11_missing_22 rfl rfl ?_
      refine E_aload_n 0 0 dX11_missing_23 rfl rfl ?_
      refine E_gR 124 30 dX11_missing_24 FX11_71 ic_103 (by decide) ?_
      refine E_invVI [vi l1, vr 124] dX11_missing_27 fX11_finds lX11_156 ic_103 rfl (by decide) rfl rfl (Nat.le_of_ble_eq_true rfl) (CI_mono hP (fun r5 h4 hP => ?_))
      obtain ⟨v6_0, hP⟩ := hP
      refine E_istore_n dX11_missing_30 rfl (by decide) rfl ?_
      refine E_aload_n 1 0 dX11_missing_31 rfl rfl ?_
      refine E_aload_n 1 0 dX11_missing_32 rfl rfl ?_
      refine E_gR 104 0 dX11_missing_33 FX11_9 ic_103 (by decide) ?_
      refine E_iload_n 2 1 dX11_missing_36 rfl rfl ?_
      refine E_iaload dX11_missing_37 ic_104 v6_0.1 v6_0.2 ?_
      refine E_aload_n 1 0 dX11_missing_38 rfl rfl ?_
      refine E_gR 124 30 dX11_missing_39 FX11_71 ic_103 (by decide) ?_
      refine E_invVI [vi (h4 104 l1), vr 124] dX11_missing_42 fX11_areSorted lX11_204 ic_103 rfl (by decide) rfl rfl (Nat.le_of_ble_eq_true rfl) (CI_mono hP (fun r8 h7 hP => ?_))
      refine E_if_eq 50 dX11_missing_45 rfl (fun hc => ?_) (fun hc => ?_)
      · replace hP := hP.1 (hc)
        refine E_iconst dX11_missing_50 (rg_of rfl) ?_
        refine E_istore dX11_missing_51 (by decide) rfl ?_
        exact E_sub [2, 3, 4, 0] rfl hP
      · replace hP := hP.2 (by omega)
        refine E_iconst dX11_missing_48 (rg_of rfl) ?_
        exact E_retI dX11_missing_49 rfl hP
    · replace hP := hP.2 (by have := ite0 hc; omega)
      refine E_bipush dX11_missing_18 (by decide) ?_
      exact E_retI dX11_missing_20 rfl hP
  · replace hP := hP.2 (by have := ite0 hc; omega)
    refine E_iconst dX11_missing_7 (rg_of rfl) ?_
    exact E_retI dX11_missing_8 rfl hP
theorem dX11_unlike_0 : decode prog_13_method_63_code 0 = .ok (.iload_n 1, 1) := by decide +kernel
theorem dX11_unlike_1 : decode prog_13_method_63_code 1 = .ok (.invokestatic 88, 3) := by decide +kernel
theorem dX11_unlike_4 : decode prog_13_method_63_code 4 = .ok (.ifCond .eq 10, 3) := by decide +kernel
theorem dX11_unlike_7 : decode prog_13_method_63_code 7 = .ok (.iload_n 2, 1) := by decide +kernel
theorem dX11_unlike_8 : decode prog_13_method_63_code 8 = .ok (.invokestatic 88, 3) := by decide +kernel
theorem dX11_unlike_11 : decode prog_13_method_63_code 11 = .ok (.ifCond .ne 7, 3) := by decide +kernel
theorem dX11_unlike_14 : decode prog_13_method_63_code 14 = .ok (.iconst (-1), 1) := by decide +kernel
theorem dX11_unlike_15 : decode prog_13_method_63_code 15 = .ok (.goto 24, 3) := by decide +kernel
theorem dX11_unlike_18 : decode prog_13_method_63_code 18 = .ok (.aload_n 0, 1) := by decide +kernel
theorem dX11_unlike_19 : decode prog_13_method_63_code 19 = .ok (.getfield 9, 3) := by decide +kernel
theorem dX11_unlike_22 : decode prog_13_method_63_code 22 = .ok (.iload_n 1, 1) := by decide +kernel
theorem dX11_unlike_23 : decode prog_13_method_63_code 23 = .ok (.iaload, 1) := by decide +kernel
theorem dX11_unlike_24 : decode prog_13_method_63_code 24 = .ok (.aload_n 0, 1) := by decide +kernel
theorem dX11_unlike_25 : decode prog_13_method_63_code 25 = .ok (.getfield 9, 3) := by decide +kernel
theorem dX11_unlike_28 : decode prog_13_method_63_code 28 = .ok (.iload_n 2, 1) := by decide +kernel
theorem dX11_unlike_29 : decode prog_13_method_63_code 29 = .ok (.iaload, 1) := by decide +kernel
theorem dX11_unlike_30 : decode prog_13_method_63_code 30 = .ok (.if_icmp .eq 8, 3) := by decide +kernel
theorem dX11_unlike_33 : decode prog_13_method_63_code 33 = .ok (.bipush (-2), 2) := by decide +kernel
theorem dX11_unlike_35 : decode prog_13_method_63_code 35 = .ok (.goto 4, 3) := by decide +kernel
theorem dX11_unlike_38 : decode prog_13_method_63_code 38 = .ok (.iconst 0, 1) := by decide +kernel
theorem dX11_unlike_39 : decode prog_13_method_63_code 39 = .ok (.ireturn, 1) := by decide +kernel
theorem sX11_unlike {Q : Int → Hp → Prop} {h : Hp} {l1 l2 : Int}
    (hP : ((((l1 ≥ 0 ∧ l1 ≤ 3) ∧ (l2 ≥ 0 ∧ l2 ≤ 3)) → (ix l1 4)) ∧ (((l1 ≥ 0 ∧ l1 ≤ 3) ∧ (l2 ≥ 0 ∧ l2 ≤ 3)) → (ix l2 4))) ∧
    Q (if l1 < 0 ∨ l1 > 3 then (-1) else (if l2 ≥ 0 ∧ l2 ≤ 3 then (if (h 104 l1) = (h 104 l2) then 0 else (-2)) else (-1))) h) :
    CI 2 mX11_unlike [vr 103, vi l1, vi l2] h Q := by
  refine CI_of_E fX11_unlike.1 rfl (Nat.le_of_ble_eq_true rfl) ?_
  show E 2 mX11_unlike 0 [(0, vr 103), (1, vi l1), (2, vi l2)] [] h (qi Q)
  obtain ⟨⟨v1_0, v1_1⟩, hP⟩ := hP
  refine E_iload_n 1 1 dX11_unlike_0 rfl rfl ?_
  refine E_invSI [vi l1] dX11_unlike_1 fX11_isNet lX11_88 (by decide) rfl rfl (Nat.le_of_ble_eq_true rfl) (sX11_isNet (h := h) (l0 := l1) ?_)
  have hJ : E 2 mX11_unlike 39 [(0, vr 103), (1, vi l1), (2, vi l2)] [vi (if l1 < 0 ∨ l1 > 3 then (-1) else (if l2 ≥ 0 ∧ l2 ≤ 3 then (if (h 104 l1) = (h 104 l2) then 0 else (-2)) else (-1)))] h (qi Q) := by
    exact E_retI dX11_unlike_39 rfl hP
  refine E_if_eq 14 dX11_unlike_4 rfl (fun hc => ?_) (fun hc => ?_)
  · have hp4 := (by have := ite0 hc; omega : l1 < 0 ∨ l1 > 3)
    refine E_iconst dX11_unlike_14 (rg_of rfl) ?_
    refine E_goto 39 dX11_unlike_15 rfl ?_
    exact E_top (by first | exact (if_pos (by omega)).symm | exact (if_neg (by omega)).symm | (repeat first | rw [if_pos (by omega)] | rw [if_neg (by omega)])) hJ
  · have hp4 := (by have := ite1 hc; omega : l1 ≥ 0 ∧ l1 ≤ 3)
    refine E_iload_n 2 2 dX11_unlike_7 rfl rfl ?_
    refine E_invSI [vi l2] dX11_unlike_8 fX11_isNet lX11_88 (by decide) rfl rfl (Nat.le_of_ble_eq_true rfl) (sX11_isNet (h := h) (l0 := l2) ?_)
    refine E_if_ne 18 dX11_unlike_11 rfl (fun hc => ?_) (fun hc => ?_)
    · have hp11 := (by have := ite1' hc; omega : l2 ≥ 0 ∧ l2 ≤ 3)
      refine E_aload_n 0 0 dX11_unlike_18 rfl rfl ?_
      refine E_gR 104 0 dX11_unlike_19 FX11_9 ic_103 (by decide) ?_
      refine E_iload_n 1 1 dX11_unlike_22 rfl rfl ?_
      refine E_iaload dX11_unlike_23 ic_104 (v1_0 (by omega)).1 (v1_0 (by omega)).2 ?_
      refine E_aload_n 0 0 dX11_unlike_24 rfl rfl ?_
      refine E_gR 104 0 dX11_unlike_25 FX11_9 ic_103 (by decide) ?_
      refine E_iload_n 2 2 dX11_unlike_28 rfl rfl ?_
      refine E_iaload dX11_unlike_29 ic_104 (v1_1 (by omega)).1 (v1_1 (by omega)).2 ?_
      refine E_icmp_eq 38 dX11_unlike_30 rfl (fun hc => ?_) (fun hc => ?_)
      · have hp30 := (hc : (h 104 l1) = (h 104 l2))
        refine E_iconst dX11_unlike_38 (rg_of rfl) ?_
        exact E_top (by first | exact (if_pos (by omega)).symm | exact (if_neg (by omega)).symm | (repeat first | rw [if_pos (by omega)] | rw [if_neg (by omega)])) hJ
      · have hp30 := (by omega : (h 104 l1) ≠ (h 104 l2))
        refine E_bipush dX11_unlike_33 (by decide) ?_
        refine E_goto 39 dX11_unlike_35 rfl ?_
        exact E_top (by first | exact (if_pos (by omega)).symm | exact (if_neg (by omega)).symm | (repeat first | rw [if_pos (by omega)] | rw [if_neg (by omega)])) hJ
    · have hp11 := (by have := ite0 hc; omega : l2 < 0 ∨ l2 > 3)
      refine E_iconst dX11_unlike_14 (rg_of rfl) ?_
      refine E_goto 39 dX11_unlike_15 rfl ?_
      exact E_top (by first | exact (if_pos (by omega)).symm | exact (if_neg (by omega)).symm | (repeat first | rw [if_pos (by omega)] | rw [if_neg (by omega)])) hJ
theorem dX11_sameOutputs_0 : decode prog_13_method_64_code 0 = .ok (.aload_n 0, 1) := by decide +kernel
theorem dX11_sameOutputs_1 : decode prog_13_method_64_code 1 = .ok (.iload_n 1, 1) := by decide +kernel
theorem dX11_sameOutputs_2 : decode prog_13_method_64_code 2 = .ok (.iload_n 2, 1) := by decide +kernel
theorem dX11_sameOutputs_3 : decode prog_13_method_64_code 3 = .ok (.invokevirtual 211, 3) := by decide +kernel
theorem dX11_sameOutputs_6 : decode prog_13_method_64_code 6 = .ok (.istore_n 3, 1) := by decide +kernel
theorem dX11_sameOutputs_7 : decode prog_13_method_64_code 7 = .ok (.iload_n 3, 1) := by decide +kernel
theorem dX11_sameOutputs_8 : decode prog_13_method_64_code 8 = .ok (.ifCond .ge 5, 3) := by decide +kernel
theorem dX11_sameOutputs_11 : decode prog_13_method_64_code 11 = .ok (.iload_n 3, 1) := by decide +kernel
theorem dX11_sameOutputs_12 : decode prog_13_method_64_code 12 = .ok (.ireturn, 1) := by decide +kernel
theorem dX11_sameOutputs_13 : decode prog_13_method_64_code 13 = .ok (.aload_n 0, 1) := by decide +kernel
theorem dX11_sameOutputs_14 : decode prog_13_method_64_code 14 = .ok (.iload_n 1, 1) := by decide +kernel
theorem dX11_sameOutputs_15 : decode prog_13_method_64_code 15 = .ok (.aload_n 0, 1) := by decide +kernel
theorem dX11_sameOutputs_16 : decode prog_13_method_64_code 16 = .ok (.getfield 55, 3) := by decide +kernel
theorem dX11_sameOutputs_19 : decode prog_13_method_64_code 19 = .ok (.invokevirtual 156, 3) := by decide +kernel
theorem dX11_sameOutputs_22 : decode prog_13_method_64_code 22 = .ok (.istore 4, 2) := by decide +kernel
theorem dX11_sameOutputs_24 : decode prog_13_method_64_code 24 = .ok (.aload_n 0, 1) := by decide +kernel
theorem dX11_sameOutputs_25 : decode prog_13_method_64_code 25 = .ok (.iload_n 2, 1) := by decide +kernel
theorem dX11_sameOutputs_26 : decode prog_13_method_64_code 26 = .ok (.aload_n 0, 1) := by decide +kernel
theorem dX11_sameOutputs_27 : decode prog_13_method_64_code 27 = .ok (.getfield 59, 3) := by decide +kernel
theorem dX11_sameOutputs_30 : decode prog_13_method_64_code 30 = .ok (.invokevirtual 156, 3) := by decide +kernel
theorem dX11_sameOutputs_33 : decode prog_13_method_64_code 33 = .ok (.istore 5, 2) := by decide +kernel
theorem dX11_sameOutputs_35 : decode prog_13_method_64_code 35 = .ok (.iconst 0, 1) := by decide +kernel
theorem dX11_sameOutputs_36 : decode prog_13_method_64_code 36 = .ok (.istore 6, 2) := by decide +kernel
theorem dX11_sameOutputs_38 : decode prog_13_method_64_code 38 = .ok (.iload 6, 2) := by decide +kernel
theorem dX11_sameOutputs_40 : decode prog_13_method_64_code 40 = .ok (.sipush 256, 3) := by decide +kernel
theorem dX11_sameOutputs_43 : decode prog_13_method_64_code 43 = .ok (.if_icmp .ge 28, 3) := by decide +kernel
theorem dX11_sameOutputs_46 : decode prog_13_method_64_code 46 = .ok (.aload_n 0, 1) := by decide +kernel
theorem dX11_sameOutputs_47 : decode prog_13_method_64_code 47 = .ok (.getfield 55, 3) := by decide +kernel
theorem dX11_sameOutputs_50 : decode prog_13_method_64_code 50 = .ok (.iload 6, 2) := by decide +kernel
theorem dX11_sameOutputs_52 : decode prog_13_method_64_code 52 = .ok (.baload, 1) := by decide +kernel
theorem dX11_sameOutputs_53 : decode prog_13_method_64_code 53 = .ok (.aload_n 0, 1) := by decide +kernel
theorem dX11_sameOutputs_54 : decode prog_13_method_64_code 54 = .ok (.getfield 59, 3) := by decide +kernel
theorem dX11_sameOutputs_57 : decode prog_13_method_64_code 57 = .ok (.iload 6, 2) := by decide +kernel
theorem dX11_sameOutputs_59 : decode prog_13_method_64_code 59 = .ok (.baload, 1) := by decide +kernel
theorem dX11_sameOutputs_60 : decode prog_13_method_64_code 60 = .ok (.if_icmp .eq 5, 3) := by decide +kernel
theorem dX11_sameOutputs_63 : decode prog_13_method_64_code 63 = .ok (.iconst 0, 1) := by decide +kernel
theorem dX11_sameOutputs_64 : decode prog_13_method_64_code 64 = .ok (.ireturn, 1) := by decide +kernel
theorem dX11_sameOutputs_65 : decode prog_13_method_64_code 65 = .ok (.iinc 6 1, 3) := by decide +kernel
theorem dX11_sameOutputs_68 : decode prog_13_method_64_code 68 = .ok (.goto (-30), 3) := by decide +kernel
theorem dX11_sameOutputs_71 : decode prog_13_method_64_code 71 = .ok (.iconst 1, 1) := by decide +kernel
theorem dX11_sameOutputs_72 : decode prog_13_method_64_code 72 = .ok (.ireturn, 1) := by decide +kernel
theorem sX11_sameOutputs_38 {Q : Int → Hp → Prop} {h : Hp} {l6 : Int}
    (hP : ((l6 ≥ 256) →
     Q 1 h) ∧
    ((l6 < 256) →
     (ix l6 256) ∧
     (((h 119 l6) = (h 120 l6)) →
      (rj (l6 + 1)) ∧
      E 3 mX11_sameOutputs 38 [(0, vr 103), (6, vi (l6 + 1))] [] h (qi Q)) ∧
     (((h 119 l6) ≠ (h 120 l6)) →
      Q 0 h))) :
    E 3 mX11_sameOutputs 38 [(0, vr 103), (6, vi l6)] [] h (qi Q) := by
  refine E_iload 1 dX11_sameOutputs_38 rfl ?_
  refine E_sipush dX11_sameOutputs_40 (by decide) ?_
  refine E_icmp_ge 71 dX11_sameOutputs_43 rfl (fun hc => ?_) (fun hc => ?_)
  · replace hP := hP.1 (hc)
    refine E_iconst dX11_sameOutputs_71 (rg_of rfl) ?_
    exact E_retI dX11_sameOutputs_72 rfl hP
  · replace hP := hP.2 (by omega)
    obtain ⟨v3_0, hP⟩ := hP
    refine E_aload_n 0 0 dX11_sameOutputs_46 rfl rfl ?_
    refine E_gR 119 21 dX11_sameOutputs_47 FX11_55 ic_103 (by decide) ?_
    refine E_iload 1 dX11_sameOutputs_50 rfl ?_
    refine E_baload dX11_sameOutputs_52 ic_119 v3_0.1 v3_0.2 ?_
    refine E_aload_n 0 0 dX11_sameOutputs_53 rfl rfl ?_
    refine E_gR 120 22 dX11_sameOutputs_54 FX11_59 ic_103 (by decide) ?_
    refine E_iload 1 dX11_sameOutputs_57 rfl ?_
    refine E_baload dX11_sameOutputs_59 ic_120 v3_0.1 v3_0.2 ?_
    refine E_icmp_eq 65 dX11_sameOutputs_60 rfl (fun hc => ?_) (fun hc => ?_)
    · replace hP := hP.1 (hc)
      obtain ⟨v4_0, hP⟩ := hP
      refine E_iinc 1 dX11_sameOutputs_65 rfl (rgI v4_0) (by decide) rfl ?_
      refine E_goto 38 dX11_sameOutputs_68 rfl ?_
      exact E_sub [1, 0] rfl hP
    · replace hP := hP.2 (by omega)
      refine E_iconst dX11_sameOutputs_63 (rg_of rfl) ?_
      exact E_retI dX11_sameOutputs_64 rfl hP
theorem sX11_sameOutputs {Q : Int → Hp → Prop} {h : Hp} {l1 l2 : Int}
    (hP : ((((l1 ≥ 0 ∧ l1 ≤ 3) ∧ (l2 ≥ 0 ∧ l2 ≤ 3)) → (ix l1 4)) ∧ (((l1 ≥ 0 ∧ l1 ≤ 3) ∧ (l2 ≥ 0 ∧ l2 ≤ 3)) → (ix l2 4))) ∧
    (∀ x2 : Int, x2 = (if l1 < 0 ∨ l1 > 3 then (-1) else (if l2 ≥ 0 ∧ l2 ≤ 3 then (if (h 104 l1) = (h 104 l2) then 0 else (-2)) else (-1))) →
    ((x2 ≥ 0) →
     CI 1 mX11_finds [vr 103, vi l1, vr 119] h (fun r6 h5 =>
      CI 1 mX11_finds [vr 103, vi l2, vr 120] h5 (fun r9 h8 =>
       E 3 mX11_sameOutputs 38 [(0, vr 103), (6, vi 0)] [] h8 (qi Q)))) ∧
    ((x2 < 0) →
     Q x2 h))) :
    CI 3 mX11_sameOutputs [vr 103, vi l1, vi l2] h Q := by
  refine CI_of_E fX11_sameOutputs.1 rfl (Nat.le_of_ble_eq_true rfl) ?_
  show E 3 mX11_sameOutputs 0 [(0, vr 103), (1, vi l1), (2, vi l2)] [] h (qi Q)
  obtain ⟨⟨v1_0, v1_1⟩, hP⟩ := hP
  refine E_aload_n 0 0 dX11_sameOutputs_0 rfl rfl ?_
  refine E_iload_n 1 1 dX11_sameOutputs_1 rfl rfl ?_
  refine E_iload_n 2 2 dX11_sameOutputs_2 rfl rfl ?_
  refine E_invVI [vi l1, vi l2] dX11_sameOutputs_3 fX11_unlike lX11_211 ic_103 rfl (by decide) rfl rfl (Nat.le_of_ble_eq_true rfl) (sX11_unlike (h := h) (l1 := l1) (l2 := l2) ⟨⟨v1_0, v1_1⟩, ?_⟩)
  obtain ⟨x2, hx2⟩ : ∃ x : Int, x = (if l1 < 0 ∨ l1 > 3 then (-1) else (if l2 ≥ 0 ∧ l2 ≤ 3 then (if (h 104 l1) = (h 104 l2) then 0 else (-2)) else (-1))) := ⟨_, rfl⟩
  refine E_top hx2.symm ?_
  replace hP := hP x2 hx2
  refine E_istore_n dX11_sameOutputs_6 rfl (by decide) rfl ?_
  refine E_iload_n 0 3 dX11_sameOutputs_7 rfl rfl ?_
  refine E_if_ge 13 dX11_sameOutputs_8 rfl (fun hc => ?_) (fun hc => ?_)
  · replace hP := hP.1 (hc)
    refine E_aload_n 1 0 dX11_sameOutputs_13 rfl rfl ?_
    refine E_iload_n 2 1 dX11_sameOutputs_14 rfl rfl ?_
    refine E_aload_n 1 0 dX11_sameOutputs_15 rfl rfl ?_
    refine E_gR 119 21 dX11_sameOutputs_16 FX11_55 ic_103 (by decide) ?_
    refine E_invVI [vi l1, vr 119] dX11_sameOutputs_19 fX11_finds lX11_156 ic_103 rfl (by decide) rfl rfl (Nat.le_of_ble_eq_true rfl) (CI_mono hP (fun r6 h5 hP => ?_))
    refine E_istore dX11_sameOutputs_22 (by decide) rfl ?_
    refine E_aload_n 2 0 dX11_sameOutputs_24 rfl rfl ?_
    refine E_iload_n 4 2 dX11_sameOutputs_25 rfl rfl ?_
    refine E_aload_n 2 0 dX11_sameOutputs_26 rfl rfl ?_
    refine E_gR 120 22 dX11_sameOutputs_27 FX11_59 ic_103 (by decide) ?_
    refine E_invVI [vi l2, vr 120] dX11_sameOutputs_30 fX11_finds lX11_156 ic_103 rfl (by decide) rfl rfl (Nat.le_of_ble_eq_true rfl) (CI_mono hP (fun r9 h8 hP => ?_))
    refine E_istore dX11_sameOutputs_33 (by decide) rfl ?_
    refine E_iconst dX11_sameOutputs_35 (rg_of rfl) ?_
    refine E_istore dX11_sameOutputs_36 (by decide) rfl ?_
    exact E_sub [4, 0] rfl hP
  · replace hP := hP.2 (by omega)
    refine E_iload_n 0 3 dX11_sameOutputs_11 rfl rfl ?_
    exact E_retI dX11_sameOutputs_12 rfl hP
theorem dX11_isIsomorphic_0 : decode prog_13_method_65_code 0 = .ok (.aload_n 0, 1) := by decide +kernel
theorem dX11_isIsomorphic_1 : decode prog_13_method_65_code 1 = .ok (.iload_n 1, 1) := by decide +kernel
theorem dX11_isIsomorphic_2 : decode prog_13_method_65_code 2 = .ok (.iload_n 2, 1) := by decide +kernel
theorem dX11_isIsomorphic_3 : decode prog_13_method_65_code 3 = .ok (.invokevirtual 211, 3) := by decide +kernel
theorem dX11_isIsomorphic_6 : decode prog_13_method_65_code 6 = .ok (.istore_n 3, 1) := by decide +kernel
theorem dX11_isIsomorphic_7 : decode prog_13_method_65_code 7 = .ok (.iload_n 3, 1) := by decide +kernel
theorem dX11_isIsomorphic_8 : decode prog_13_method_65_code 8 = .ok (.ifCond .ge 5, 3) := by decide +kernel
theorem dX11_isIsomorphic_11 : decode prog_13_method_65_code 11 = .ok (.iload_n 3, 1) := by decide +kernel
theorem dX11_isIsomorphic_12 : decode prog_13_method_65_code 12 = .ok (.ireturn, 1) := by decide +kernel
theorem dX11_isIsomorphic_13 : decode prog_13_method_65_code 13 = .ok (.aload_n 0, 1) := by decide +kernel
theorem dX11_isIsomorphic_14 : decode prog_13_method_65_code 14 = .ok (.getfield 13, 3) := by decide +kernel
theorem dX11_isIsomorphic_17 : decode prog_13_method_65_code 17 = .ok (.iload_n 1, 1) := by decide +kernel
theorem dX11_isIsomorphic_18 : decode prog_13_method_65_code 18 = .ok (.iaload, 1) := by decide +kernel
theorem dX11_isIsomorphic_19 : decode prog_13_method_65_code 19 = .ok (.aload_n 0, 1) := by decide +kernel
theorem dX11_isIsomorphic_20 : decode prog_13_method_65_code 20 = .ok (.getfield 13, 3) := by decide +kernel
theorem dX11_isIsomorphic_23 : decode prog_13_method_65_code 23 = .ok (.iload_n 2, 1) := by decide +kernel
theorem dX11_isIsomorphic_24 : decode prog_13_method_65_code 24 = .ok (.iaload, 1) := by decide +kernel
theorem dX11_isIsomorphic_25 : decode prog_13_method_65_code 25 = .ok (.if_icmp .eq 5, 3) := by decide +kernel
theorem dX11_isIsomorphic_28 : decode prog_13_method_65_code 28 = .ok (.iconst 0, 1) := by decide +kernel
theorem dX11_isIsomorphic_29 : decode prog_13_method_65_code 29 = .ok (.ireturn, 1) := by decide +kernel
theorem dX11_isIsomorphic_30 : decode prog_13_method_65_code 30 = .ok (.aload_n 0, 1) := by decide +kernel
theorem dX11_isIsomorphic_31 : decode prog_13_method_65_code 31 = .ok (.invokevirtual 181, 3) := by decide +kernel
theorem dX11_isIsomorphic_34 : decode prog_13_method_65_code 34 = .ok (.iconst 1, 1) := by decide +kernel
theorem dX11_isIsomorphic_35 : decode prog_13_method_65_code 35 = .ok (.istore 4, 2) := by decide +kernel
theorem dX11_isIsomorphic_37 : decode prog_13_method_65_code 37 = .ok (.iload 4, 2) := by decide +kernel
theorem dX11_isIsomorphic_39 : decode prog_13_method_65_code 39 = .ok (.ifCond .eq 124, 3) := by decide +kernel
theorem dX11_isIsomorphic_42 : decode prog_13_method_65_code 42 = .ok (.iconst 1, 1) := by decide +kernel
theorem dX11_isIsomorphic_43 : decode prog_13_method_65_code 43 = .ok (.istore 5, 2) := by decide +kernel
theorem dX11_isIsomorphic_45 : decode prog_13_method_65_code 45 = .ok (.iconst 0, 1) := by decide +kernel
theorem dX11_isIsomorphic_46 : decode prog_13_method_65_code 46 = .ok (.istore 6, 2) := by decide +kernel
theorem dX11_isIsomorphic_48 : decode prog_13_method_65_code 48 = .ok (.iload 6, 2) := by decide +kernel
theorem dX11_isIsomorphic_50 : decode prog_13_method_65_code 50 = .ok (.aload_n 0, 1) := by decide +kernel
theorem dX11_isIsomorphic_51 : decode prog_13_method_65_code 51 = .ok (.getfield 13, 3) := by decide +kernel
theorem dX11_isIsomorphic_54 : decode prog_13_method_65_code 54 = .ok (.iload_n 1, 1) := by decide +kernel
theorem dX11_isIsomorphic_55 : decode prog_13_method_65_code 55 = .ok (.iaload, 1) := by decide +kernel
theorem dX11_isIsomorphic_56 : decode prog_13_method_65_code 56 = .ok (.if_icmp .ge 85, 3) := by decide +kernel
theorem dX11_isIsomorphic_59 : decode prog_13_method_65_code 59 = .ok (.iload 5, 2) := by decide +kernel
theorem dX11_isIsomorphic_61 : decode prog_13_method_65_code 61 = .ok (.ifCond .eq 80, 3) := by decide +kernel
theorem dX11_isIsomorphic_64 : decode prog_13_method_65_code 64 = .ok (.aload_n 0, 1) := by decide +kernel
theorem dX11_isIsomorphic_65 : decode prog_13_method_65_code 65 = .ok (.getfield 62, 3) := by decide +kernel
theorem dX11_isIsomorphic_68 : decode prog_13_method_65_code 68 = .ok (.aload_n 0, 1) := by decide +kernel
theorem dX11_isIsomorphic_69 : decode prog_13_method_65_code 69 = .ok (.getfield 16, 3) := by decide +kernel
theorem dX11_isIsomorphic_72 : decode prog_13_method_65_code 72 = .ok (.bipush 40, 2) := by decide +kernel
theorem dX11_isIsomorphic_74 : decode prog_13_method_65_code 74 = .ok (.iload_n 1, 1) := by decide +kernel
theorem dX11_isIsomorphic_75 : decode prog_13_method_65_code 75 = .ok (.imul, 1) := by decide +kernel
theorem dX11_isIsomorphic_76 : decode prog_13_method_65_code 76 = .ok (.iload 6, 2) := by decide +kernel
theorem dX11_isIsomorphic_78 : decode prog_13_method_65_code 78 = .ok (.iadd, 1) := by decide +kernel
theorem dX11_isIsomorphic_79 : decode prog_13_method_65_code 79 = .ok (.iaload, 1) := by decide +kernel
theorem dX11_isIsomorphic_80 : decode prog_13_method_65_code 80 = .ok (.iaload, 1) := by decide +kernel
theorem dX11_isIsomorphic_81 : decode prog_13_method_65_code 81 = .ok (.aload_n 0, 1) := by decide +kernel
theorem dX11_isIsomorphic_82 : decode prog_13_method_65_code 82 = .ok (.getfield 16, 3) := by decide +kernel
theorem dX11_isIsomorphic_85 : decode prog_13_method_65_code 85 = .ok (.bipush 40, 2) := by decide +kernel
theorem dX11_isIsomorphic_87 : decode prog_13_method_65_code 87 = .ok (.iload_n 2, 1) := by decide +kernel
theorem dX11_isIsomorphic_88 : decode prog_13_method_65_code 88 = .ok (.imul, 1) := by decide +kernel
theorem dX11_isIsomorphic_89 : decode prog_13_method_65_code 89 = .ok (.iload 6, 2) := by decide +kernel
theorem dX11_isIsomorphic_91 : decode prog_13_method_65_code 91 = .ok (.iadd, 1) := by decide +kernel
theorem dX11_isIsomorphic_92 : decode prog_13_method_65_code 92 = .ok (.iaload, 1) := by decide +kernel
theorem dX11_isIsomorphic_93 : decode prog_13_method_65_code 93 = .ok (.if_icmp .ne 39, 3) := by decide +kernel
theorem dX11_isIsomorphic_96 : decode prog_13_method_65_code 96 = .ok (.aload_n 0, 1) := by decide +kernel
theorem dX11_isIsomorphic_97 : decode prog_13_method_65_code 97 = .ok (.getfield 62, 3) := by decide +kernel
theorem dX11_isIsomorphic_100 : decode prog_13_method_65_code 100 = .ok (.aload_n 0, 1) := by decide +kernel
theorem dX11_isIsomorphic_101 : decode prog_13_method_65_code 101 = .ok (.getfield 19, 3) := by decide +kernel
theorem dX11_isIsomorphic_104 : decode prog_13_method_65_code 104 = .ok (.bipush 40, 2) := by decide +kernel
theorem dX11_isIsomorphic_106 : decode prog_13_method_65_code 106 = .ok (.iload_n 1, 1) := by decide +kernel
theorem dX11_isIsomorphic_107 : decode prog_13_method_65_code 107 = .ok (.imul, 1) := by decide +kernel
theorem dX11_isIsomorphic_108 : decode prog_13_method_65_code 108 = .ok (.iload 6, 2) := by decide +kernel
theorem dX11_isIsomorphic_110 : decode prog_13_method_65_code 110 = .ok (.iadd, 1) := by decide +kernel
theorem dX11_isIsomorphic_111 : decode prog_13_method_65_code 111 = .ok (.iaload, 1) := by decide +kernel
theorem dX11_isIsomorphic_112 : decode prog_13_method_65_code 112 = .ok (.iaload, 1) := by decide +kernel
theorem dX11_isIsomorphic_113 : decode prog_13_method_65_code 113 = .ok (.aload_n 0, 1) := by decide +kernel
theorem dX11_isIsomorphic_114 : decode prog_13_method_65_code 114 = .ok (.getfield 19, 3) := by decide +kernel
theorem dX11_isIsomorphic_117 : decode prog_13_method_65_code 117 = .ok (.bipush 40, 2) := by decide +kernel
theorem dX11_isIsomorphic_119 : decode prog_13_method_65_code 119 = .ok (.iload_n 2, 1) := by decide +kernel
theorem dX11_isIsomorphic_120 : decode prog_13_method_65_code 120 = .ok (.imul, 1) := by decide +kernel
theorem dX11_isIsomorphic_121 : decode prog_13_method_65_code 121 = .ok (.iload 6, 2) := by decide +kernel
theorem dX11_isIsomorphic_123 : decode prog_13_method_65_code 123 = .ok (.iadd, 1) := by decide +kernel
theorem dX11_isIsomorphic_124 : decode prog_13_method_65_code 124 = .ok (.iaload, 1) := by decide +kernel
theorem dX11_isIsomorphic_125 : decode prog_13_method_65_code 125 = .ok (.if_icmp .ne 7, 3) := by decide +kernel
theorem dX11_isIsomorphic_128 : decode prog_13_method_65_code 128 = .ok (.iconst 1, 1) := by decide +kernel
theorem dX11_isIsomorphic_129 : decode prog_13_method_65_code 129 = .ok (.goto 4, 3) := by decide +kernel
theorem dX11_isIsomorphic_132 : decode prog_13_method_65_code 132 = .ok (.iconst 0, 1) := by decide +kernel
theorem dX11_isIsomorphic_133 : decode prog_13_method_65_code 133 = .ok (.istore 5, 2) := by decide +kernel
theorem dX11_isIsomorphic_135 : decode prog_13_method_65_code 135 = .ok (.iinc 6 1, 3) := by decide +kernel
theorem dX11_isIsomorphic_138 : decode prog_13_method_65_code 138 = .ok (.goto (-90), 3) := by decide +kernel
theorem dX11_isIsomorphic_141 : decode prog_13_method_65_code 141 = .ok (.iload 5, 2) := by decide +kernel
theorem dX11_isIsomorphic_143 : decode prog_13_method_65_code 143 = .ok (.ifCond .eq 5, 3) := by decide +kernel
theorem dX11_isIsomorphic_146 : decode prog_13_method_65_code 146 = .ok (.iconst 1, 1) := by decide +kernel
theorem dX11_isIsomorphic_147 : decode prog_13_method_65_code 147 = .ok (.ireturn, 1) := by decide +kernel
theorem dX11_isIsomorphic_148 : decode prog_13_method_65_code 148 = .ok (.aload_n 0, 1) := by decide +kernel
theorem dX11_isIsomorphic_149 : decode prog_13_method_65_code 149 = .ok (.aload_n 0, 1) := by decide +kernel
theorem dX11_isIsomorphic_150 : decode prog_13_method_65_code 150 = .ok (.getfield 9, 3) := by decide +kernel
theorem dX11_isIsomorphic_153 : decode prog_13_method_65_code 153 = .ok (.iload_n 1, 1) := by decide +kernel
theorem dX11_isIsomorphic_154 : decode prog_13_method_65_code 154 = .ok (.iaload, 1) := by decide +kernel
theorem dX11_isIsomorphic_155 : decode prog_13_method_65_code 155 = .ok (.invokevirtual 187, 3) := by decide +kernel
theorem dX11_isIsomorphic_158 : decode prog_13_method_65_code 158 = .ok (.istore 4, 2) := by decide +kernel
theorem dX11_isIsomorphic_160 : decode prog_13_method_65_code 160 = .ok (.goto (-123), 3) := by decide +kernel
theorem dX11_isIsomorphic_163 : decode prog_13_method_65_code 163 = .ok (.iconst 0, 1) := by decide +kernel
theorem dX11_isIsomorphic_164 : decode prog_13_method_65_code 164 = .ok (.ireturn, 1) := by decide +kernel
theorem sX11_isIsomorphic_48 {Q : Int → Hp → Prop} {h : Hp} {l1 l2 l5 l6 : Int}
    (hP : (ix l1 4) ∧
    ((l6 ≥ (h 105 l1)) →
     ((l5 = 0) →
      (ix l1 4) ∧
      CI 1 mX11_isNext [vr 103, vi (h 104 l1)] h (fun r5 h4 =>
       E 3 mX11_isIsomorphic 37 [(0, vr 103), (1, vi l1), (2, vi l2), (4, vi r5)] [] h4 (qi Q))) ∧
     ((l5 ≠ 0) →
      Q 1 h)) ∧
    ((l6 < (h 105 l1)) →
     ((l5 = 0) →
      ((l5 = 0) →
       (ix l1 4) ∧
       CI 1 mX11_isNext [vr 103, vi (h 104 l1)] h (fun r12 h11 =>
        E 3 mX11_isIsomorphic 37 [(0, vr 103), (1, vi l1), (2, vi l2), (4, vi r12)] [] h11 (qi Q))) ∧
      ((l5 ≠ 0) →
       Q 1 h)) ∧
     ((l5 ≠ 0) →
      (rj (40 * l1) ∧ rj ((40 * l1) + l6) ∧ ix ((40 * l1) + l6) 160 ∧ ix (h 106 ((40 * l1) + l6)) 8 ∧ rj (40 * l2) ∧ rj ((40 * l2) + l6) ∧ ix ((40 * l2) + l6) 160 ∧ (((h 121 (h 106 ((40 * l1) + l6))) = (h 106 ((40 * l2) + l6))) → (ix (h 107 ((40 * l1) + l6)) 8))) ∧
      (rj (l6 + 1)) ∧
      E 3 mX11_isIsomorphic 48 [(0, vr 103), (1, vi l1), (2, vi l2), (5, vi (if (h 121 (h 106 ((40 * l1) + l6))) = (h 106 ((40 * l2) + l6)) ∧ (h 121 (h 107 ((40 * l1) + l6))) = (h 107 ((40 * l2) + l6)) then (1 : Int) else 0)), (6, vi (l6 + 1))] [] h (qi Q)))) :
    E 3 mX11_isIsomorphic 48 [(0, vr 103), (1, vi l1), (2, vi l2), (5, vi l5), (6, vi l6)] [] h (qi Q) := by
  obtain ⟨v1_0, hP⟩ := hP
  refine E_iload 4 dX11_isIsomorphic_48 rfl ?_
  refine E_aload_n 0 0 dX11_isIsomorphic_50 rfl rfl ?_
  refine E_gR 105 1 dX11_isIsomorphic_51 FX11_13 ic_103 (by decide) ?_
  refine E_iload_n 1 1 dX11_isIsomorphic_54 rfl rfl ?_
  refine E_iaload dX11_isIsomorphic_55 ic_105 v1_0.1 v1_0.2 ?_
  refine E_icmp_ge 141 dX11_isIsomorphic_56 rfl (fun hc => ?_) (fun hc => ?_)
  · replace hP := hP.1 (hc)
    refine E_iload 3 dX11_isIsomorphic_141 rfl ?_
    refine E_if_eq 148 dX11_isIsomorphic_143 rfl (fun hc => ?_) (fun hc => ?_)
    · replace hP := hP.1 (hc)
      obtain ⟨v3_0, hP⟩ := hP
      refine E_aload_n 0 0 dX11_isIsomorphic_148 rfl rfl ?_
      refine E_aload_n 0 0 dX11_isIsomorphic_149 rfl rfl ?_
      refine E_gR 104 0 dX11_isIsomorphic_150 FX11_9 ic_103 (by decide) ?_
      refine E_iload_n 1 1 dX11_isIsomorphic_153 rfl rfl ?_
      refine E_iaload dX11_isIsomorphic_154 ic_104 v3_0.1 v3_0.2 ?_
      refine E_invVI [vi (h 104 l1)] dX11_isIsomorphic_155 fX11_isNext lX11_187 ic_103 rfl (by decide) rfl rfl (Nat.le_of_ble_eq_true rfl) (CI_mono hP (fun r5 h4 hP => ?_))
      refine E_istore dX11_isIsomorphic_158 (by decide) rfl ?_
      refine E_goto 37 dX11_isIsomorphic_160 rfl ?_
      exact E_sub [1, 2, 3, 0] rfl hP
    · replace hP := hP.2 (by omega)
      refine E_iconst dX11_isIsomorphic_146 (rg_of rfl) ?_
      exact E_retI dX11_isIsomorphic_147 rfl hP
  · replace hP := hP.2 (by omega)
    refine E_iload 3 dX11_isIsomorphic_59 rfl ?_
    refine E_if_eq 141 dX11_isIsomorphic_61 rfl (fun hc => ?_) (fun hc => ?_)
    · replace hP := hP.1 (hc)
      refine E_iload 3 dX11_isIsomorphic_141 rfl ?_
      refine E_if_eq 148 dX11_isIsomorphic_143 rfl (fun hc => ?_) (fun hc => ?_)
      · replace hP := hP.1 (hc)
        obtain ⟨v10_0, hP⟩ := hP
        refine E_aload_n 0 0 dX11_isIsomorphic_148 rfl rfl ?_
        refine E_aload_n 0 0 dX11_isIsomorphic_149 rfl rfl ?_
        refine E_gR 104 0 dX11_isIsomorphic_150 FX11_9 ic_103 (by decide) ?_
        refine E_iload_n 1 1 dX11_isIsomorphic_153 rfl rfl ?_
        refine E_iaload dX11_isIsomorphic_154 ic_104 v10_0.1 v10_0.2 ?_
        refine E_invVI [vi (h 104 l1)] dX11_isIsomorphic_155 fX11_isNext lX11_187 ic_103 rfl (by decide) rfl rfl (Nat.le_of_ble_eq_true rfl) (CI_mono hP (fun r12 h11 hP => ?_))
        refine E_istore dX11_isIsomorphic_158 (by decide) rfl ?_
        refine E_goto 37 dX11_isIsomorphic_160 rfl ?_
        exact E_sub [1, 2, 3, 0] rfl hP
      · replace hP := hP.2 (by omega)
        refine E_iconst dX11_isIsomorphic_146 (rg_of rfl) ?_
        exact E_retI dX11_isIsomorphic_147 rfl hP
    · replace hP := hP.2 (by omega)
      obtain ⟨⟨v15_0, v15_1, v15_2, v15_3, v15_4, v15_5, v15_6, v15_7⟩, hP⟩ := hP
      refine E_aload_n 0 0 dX11_isIsomorphic_64 rfl rfl ?_
      refine E_gR 121 23 dX11_isIsomorphic_65 FX11_62 ic_103 (by decide) ?_
      refine E_aload_n 0 0 dX11_isIsomorphic_68 rfl rfl ?_
      refine E_gR 106 2 dX11_isIsomorphic_69 FX11_16 ic_103 (by decide) ?_
      refine E_bipush dX11_isIsomorphic_72 (by decide) ?_
      refine E_iload_n 1 1 dX11_isIsomorphic_74 rfl rfl ?_
      refine E_imul dX11_isIsomorphic_75 (rgI v15_0) ?_
      refine E_iload 4 dX11_isIsomorphic_76 rfl ?_
      refine E_iadd dX11_isIsomorphic_78 (rgI v15_1) ?_
      refine E_iaload dX11_isIsomorphic_79 ic_106 v15_2.1 v15_2.2 ?_
      refine E_iaload dX11_isIsomorphic_80 ic_121 v15_3.1 v15_3.2 ?_
      refine E_aload_n 0 0 dX11_isIsomorphic_81 rfl rfl ?_
      refine E_gR 106 2 dX11_isIsomorphic_82 FX11_16 ic_103 (by decide) ?_
      refine E_bipush dX11_isIsomorphic_85 (by decide) ?_
      refine E_iload_n 2 2 dX11_isIsomorphic_87 rfl rfl ?_
      refine E_imul dX11_isIsomorphic_88 (rgI v15_4) ?_
      refine E_iload 4 dX11_isIsomorphic_89 rfl ?_
      refine E_iadd dX11_isIsomorphic_91 (rgI v15_5) ?_
      refine E_iaload dX11_isIsomorphic_92 ic_106 v15_6.1 v15_6.2 ?_
      have hJ : E 3 mX11_isIsomorphic 133 [(0, vr 103), (1, vi l1), (2, vi l2), (5, vi l5), (6, vi l6)] [vi (if (h 121 (h 106 ((40 * l1) + l6))) = (h 106 ((40 * l2) + l6)) ∧ (h 121 (h 107 ((40 * l1) + l6))) = (h 107 ((40 * l2) + l6)) then (1 : Int) else 0)] h (qi Q) := by
        obtain ⟨v16_0, hP⟩ := hP
        refine E_istore dX11_isIsomorphic_133 (by decide) rfl ?_
        refine E_iinc 4 dX11_isIsomorphic_135 rfl (rgI v16_0) (by decide) rfl ?_
        refine E_goto 48 dX11_isIsomorphic_138 rfl ?_
        exact E_sub [2, 3, 4, 1, 0] rfl hP
      refine E_icmp_ne 132 dX11_isIsomorphic_93 rfl (fun hc => ?_) (fun hc => ?_)
      · have hp93 := (hc : (h 121 (h 106 ((40 * l1) + l6))) ≠ (h 106 ((40 * l2) + l6)))
        refine E_iconst dX11_isIsomorphic_132 (rg_of rfl) ?_
        exact E_top (if_neg (by omega)).symm hJ
      · have hp93 := (by omega : (h 121 (h 106 ((40 * l1) + l6))) = (h 106 ((40 * l2) + l6)))
        refine E_aload_n 0 0 dX11_isIsomorphic_96 rfl rfl ?_
        refine E_gR 121 23 dX11_isIsomorphic_97 FX11_62 ic_103 (by decide) ?_
        refine E_aload_n 0 0 dX11_isIsomorphic_100 rfl rfl ?_
        refine E_gR 107 3 dX11_isIsomorphic_101 FX11_19 ic_103 (by decide) ?_
        refine E_bipush dX11_isIsomorphic_104 (by decide) ?_
        refine E_iload_n 1 1 dX11_isIsomorphic_106 rfl rfl ?_
        refine E_imul dX11_isIsomorphic_107 (rgI v15_0) ?_
        refine E_iload 4 dX11_isIsomorphic_108 rfl ?_
        refine E_iadd dX11_isIsomorphic_110 (rgI v15_1) ?_
        refine E_iaload dX11_isIsomorphic_111 ic_107 v15_2.1 v15_2.2 ?_
        refine E_iaload dX11_isIsomorphic_112 ic_121 (v15_7 (by omega)).1 (v15_7 (by omega)).2 ?_
        refine E_aload_n 0 0 dX11_isIsomorphic_113 rfl rfl ?_
        refine E_gR 107 3 dX11_isIsomorphic_114 FX11_19 ic_103 (by decide) ?_
        refine E_bipush dX11_isIsomorphic_117 (by decide) ?_
        refine E_iload_n 2 2 dX11_isIsomorphic_119 rfl rfl ?_
        refine E_imul dX11_isIsomorphic_120 (rgI v15_4) ?_
        refine E_iload 4 dX11_isIsomorphic_121 rfl ?_
        refine E_iadd dX11_isIsomorphic_123 (rgI v15_5) ?_
        refine E_iaload dX11_isIsomorphic_124 ic_107 v15_6.1 v15_6.2 ?_
        refine E_icmp_ne 132 dX11_isIsomorphic_125 rfl (fun hc => ?_) (fun hc => ?_)
        · have hp125 := (hc : (h 121 (h 107 ((40 * l1) + l6))) ≠ (h 107 ((40 * l2) + l6)))
          refine E_iconst dX11_isIsomorphic_132 (rg_of rfl) ?_
          exact E_top (if_neg (by omega)).symm hJ
        · have hp125 := (by omega : (h 121 (h 107 ((40 * l1) + l6))) = (h 107 ((40 * l2) + l6)))
          refine E_iconst dX11_isIsomorphic_128 (rg_of rfl) ?_
          refine E_goto 133 dX11_isIsomorphic_129 rfl ?_
          exact E_top (if_pos (by omega)).symm hJ
theorem sX11_isIsomorphic_37 {Q : Int → Hp → Prop} {h : Hp} {l1 l2 l4 : Int}
    (hP : ((l4 = 0) →
     Q 0 h) ∧
    ((l4 ≠ 0) →
     E 3 mX11_isIsomorphic 48 [(0, vr 103), (1, vi l1), (2, vi l2), (5, vi 1), (6, vi 0)] [] h (qi Q))) :
    E 3 mX11_isIsomorphic 37 [(0, vr 103), (1, vi l1), (2, vi l2), (4, vi l4)] [] h (qi Q) := by
  refine E_iload 3 dX11_isIsomorphic_37 rfl ?_
  refine E_if_eq 163 dX11_isIsomorphic_39 rfl (fun hc => ?_) (fun hc => ?_)
  · replace hP := hP.1 (hc)
    refine E_iconst dX11_isIsomorphic_163 (rg_of rfl) ?_
    exact E_retI dX11_isIsomorphic_164 rfl hP
  · replace hP := hP.2 (by omega)
    refine E_iconst dX11_isIsomorphic_42 (rg_of rfl) ?_
    refine E_istore dX11_isIsomorphic_43 (by decide) rfl ?_
    refine E_iconst dX11_isIsomorphic_45 (rg_of rfl) ?_
    refine E_istore dX11_isIsomorphic_46 (by decide) rfl ?_
    exact E_sub [2, 3, 4, 1, 0] rfl hP
theorem sX11_isIsomorphic {Q : Int → Hp → Prop} {h : Hp} {l1 l2 : Int}
    (hP : ((((l1 ≥ 0 ∧ l1 ≤ 3) ∧ (l2 ≥ 0 ∧ l2 ≤ 3)) → (ix l1 4)) ∧ (((l1 ≥ 0 ∧ l1 ≤ 3) ∧ (l2 ≥ 0 ∧ l2 ≤ 3)) → (ix l2 4))) ∧
    (∀ x2 : Int, x2 = (if l1 < 0 ∨ l1 > 3 then (-1) else (if l2 ≥ 0 ∧ l2 ≤ 3 then (if (h 104 l1) = (h 104 l2) then 0 else (-2)) else (-1))) →
    ((x2 ≥ 0) →
     (ix l1 4 ∧ ix l2 4) ∧
     (((h 105 l1) = (h 105 l2)) →
      CV 0 mX11_begins [vr 103] h (fun h6 =>
       E 3 mX11_isIsomorphic 37 [(0, vr 103), (1, vi l1), (2, vi l2), (4, vi 1)] [] h6 (qi Q))) ∧
     (((h 105 l1) ≠ (h 105 l2)) →
      Q 0 h)) ∧
    ((x2 < 0) →
     Q x2 h))) :
    CI 3 mX11_isIsomorphic [vr 103, vi l1, vi l2] h Q := by
  refine CI_of_E fX11_isIsomorphic.1 rfl (Nat.le_of_ble_eq_true rfl) ?_
  show E 3 mX11_isIsomorphic 0 [(0, vr 103), (1, vi l1), (2, vi l2)] [] h (qi Q)
  obtain ⟨⟨v1_0, v1_1⟩, hP⟩ := hP
  refine E_aload_n 0 0 dX11_isIsomorphic_0 rfl rfl ?_
  refine E_iload_n 1 1 dX11_isIsomorphic_1 rfl rfl ?_
  refine E_iload_n 2 2 dX11_isIsomorphic_2 rfl rfl ?_
  refine E_invVI [vi l1, vi l2] dX11_isIsomorphic_3 fX11_unlike lX11_211 ic_103 rfl (by decide) rfl rfl (Nat.le_of_ble_eq_true rfl) (sX11_unlike (h := h) (l1 := l1) (l2 := l2) ⟨⟨v1_0, v1_1⟩, ?_⟩)
  obtain ⟨x2, hx2⟩ : ∃ x : Int, x = (if l1 < 0 ∨ l1 > 3 then (-1) else (if l2 ≥ 0 ∧ l2 ≤ 3 then (if (h 104 l1) = (h 104 l2) then 0 else (-2)) else (-1))) := ⟨_, rfl⟩
  refine E_top hx2.symm ?_
  replace hP := hP x2 hx2
  refine E_istore_n dX11_isIsomorphic_6 rfl (by decide) rfl ?_
  refine E_iload_n 0 3 dX11_isIsomorphic_7 rfl rfl ?_
  refine E_if_ge 13 dX11_isIsomorphic_8 rfl (fun hc => ?_) (fun hc => ?_)
  · replace hP := hP.1 (hc)
    obtain ⟨⟨v4_0, v4_1⟩, hP⟩ := hP
    refine E_aload_n 1 0 dX11_isIsomorphic_13 rfl rfl ?_
    refine E_gR 105 1 dX11_isIsomorphic_14 FX11_13 ic_103 (by decide) ?_
    refine E_iload_n 2 1 dX11_isIsomorphic_17 rfl rfl ?_
    refine E_iaload dX11_isIsomorphic_18 ic_105 v4_0.1 v4_0.2 ?_
    refine E_aload_n 1 0 dX11_isIsomorphic_19 rfl rfl ?_
    refine E_gR 105 1 dX11_isIsomorphic_20 FX11_13 ic_103 (by decide) ?_
    refine E_iload_n 3 2 dX11_isIsomorphic_23 rfl rfl ?_
    refine E_iaload dX11_isIsomorphic_24 ic_105 v4_1.1 v4_1.2 ?_
    refine E_icmp_eq 30 dX11_isIsomorphic_25 rfl (fun hc => ?_) (fun hc => ?_)
    · replace hP := hP.1 (hc)
      refine E_aload_n 1 0 dX11_isIsomorphic_30 rfl rfl ?_
      refine E_invVV [] dX11_isIsomorphic_31 fX11_begins lX11_181 ic_103 rfl (by decide) rfl rfl (Nat.le_of_ble_eq_true rfl) (CV_mono hP (fun h6 hP => ?_))
      refine E_iconst dX11_isIsomorphic_34 (rg_of rfl) ?_
      refine E_istore dX11_isIsomorphic_35 (by decide) rfl ?_
      exact E_sub [2, 3, 4, 0] rfl hP
    · replace hP := hP.2 (by omega)
      refine E_iconst dX11_isIsomorphic_28 (rg_of rfl) ?_
      exact E_retI dX11_isIsomorphic_29 rfl hP
  · replace hP := hP.2 (by omega)
    refine E_iload_n 0 3 dX11_isIsomorphic_11 rfl rfl ?_
    exact E_retI dX11_isIsomorphic_12 rfl hP
theorem dX11_subsumes_0 : decode prog_13_method_66_code 0 = .ok (.aload_n 0, 1) := by decide +kernel
theorem dX11_subsumes_1 : decode prog_13_method_66_code 1 = .ok (.iload_n 1, 1) := by decide +kernel
theorem dX11_subsumes_2 : decode prog_13_method_66_code 2 = .ok (.iload_n 2, 1) := by decide +kernel
theorem dX11_subsumes_3 : decode prog_13_method_66_code 3 = .ok (.invokevirtual 211, 3) := by decide +kernel
theorem dX11_subsumes_6 : decode prog_13_method_66_code 6 = .ok (.istore_n 3, 1) := by decide +kernel
theorem dX11_subsumes_7 : decode prog_13_method_66_code 7 = .ok (.iload_n 3, 1) := by decide +kernel
theorem dX11_subsumes_8 : decode prog_13_method_66_code 8 = .ok (.ifCond .ge 5, 3) := by decide +kernel
theorem dX11_subsumes_11 : decode prog_13_method_66_code 11 = .ok (.iload_n 3, 1) := by decide +kernel
theorem dX11_subsumes_12 : decode prog_13_method_66_code 12 = .ok (.ireturn, 1) := by decide +kernel
theorem dX11_subsumes_13 : decode prog_13_method_66_code 13 = .ok (.aload_n 0, 1) := by decide +kernel
theorem dX11_subsumes_14 : decode prog_13_method_66_code 14 = .ok (.getfield 9, 3) := by decide +kernel
theorem dX11_subsumes_17 : decode prog_13_method_66_code 17 = .ok (.iload_n 1, 1) := by decide +kernel
theorem dX11_subsumes_18 : decode prog_13_method_66_code 18 = .ok (.iaload, 1) := by decide +kernel
theorem dX11_subsumes_19 : decode prog_13_method_66_code 19 = .ok (.bipush 6, 2) := by decide +kernel
theorem dX11_subsumes_21 : decode prog_13_method_66_code 21 = .ok (.if_icmp .le 6, 3) := by decide +kernel
theorem dX11_subsumes_24 : decode prog_13_method_66_code 24 = .ok (.bipush (-6), 2) := by decide +kernel
theorem dX11_subsumes_26 : decode prog_13_method_66_code 26 = .ok (.ireturn, 1) := by decide +kernel
theorem dX11_subsumes_27 : decode prog_13_method_66_code 27 = .ok (.aload_n 0, 1) := by decide +kernel
theorem dX11_subsumes_28 : decode prog_13_method_66_code 28 = .ok (.iload_n 1, 1) := by decide +kernel
theorem dX11_subsumes_29 : decode prog_13_method_66_code 29 = .ok (.aload_n 0, 1) := by decide +kernel
theorem dX11_subsumes_30 : decode prog_13_method_66_code 30 = .ok (.getfield 55, 3) := by decide +kernel
theorem dX11_subsumes_33 : decode prog_13_method_66_code 33 = .ok (.invokevirtual 156, 3) := by decide +kernel
theorem dX11_subsumes_36 : decode prog_13_method_66_code 36 = .ok (.istore 4, 2) := by decide +kernel
theorem dX11_subsumes_38 : decode prog_13_method_66_code 38 = .ok (.aload_n 0, 1) := by decide +kernel
theorem dX11_subsumes_39 : decode prog_13_method_66_code 39 = .ok (.iload_n 2, 1) := by decide +kernel
theorem dX11_subsumes_40 : decode prog_13_method_66_code 40 = .ok (.aload_n 0, 1) := by decide +kernel
theorem dX11_subsumes_41 : decode prog_13_method_66_code 41 = .ok (.getfield 59, 3) := by decide +kernel
theorem dX11_subsumes_44 : decode prog_13_method_66_code 44 = .ok (.invokevirtual 156, 3) := by decide +kernel
theorem dX11_subsumes_47 : decode prog_13_method_66_code 47 = .ok (.istore 5, 2) := by decide +kernel
theorem dX11_subsumes_49 : decode prog_13_method_66_code 49 = .ok (.aload_n 0, 1) := by decide +kernel
theorem dX11_subsumes_50 : decode prog_13_method_66_code 50 = .ok (.invokevirtual 181, 3) := by decide +kernel
theorem dX11_subsumes_53 : decode prog_13_method_66_code 53 = .ok (.iconst 1, 1) := by decide +kernel
theorem dX11_subsumes_54 : decode prog_13_method_66_code 54 = .ok (.istore 6, 2) := by decide +kernel
theorem dX11_subsumes_56 : decode prog_13_method_66_code 56 = .ok (.iload 6, 2) := by decide +kernel
theorem dX11_subsumes_58 : decode prog_13_method_66_code 58 = .ok (.ifCond .eq 125, 3) := by decide +kernel
theorem dX11_subsumes_61 : decode prog_13_method_66_code 61 = .ok (.iconst 1, 1) := by decide +kernel
theorem dX11_subsumes_62 : decode prog_13_method_66_code 62 = .ok (.istore 7, 2) := by decide +kernel
theorem dX11_subsumes_64 : decode prog_13_method_66_code 64 = .ok (.iconst 0, 1) := by decide +kernel
theorem dX11_subsumes_65 : decode prog_13_method_66_code 65 = .ok (.istore 8, 2) := by decide +kernel
theorem dX11_subsumes_67 : decode prog_13_method_66_code 67 = .ok (.iload 8, 2) := by decide +kernel
theorem dX11_subsumes_69 : decode prog_13_method_66_code 69 = .ok (.iconst 1, 1) := by decide +kernel
theorem dX11_subsumes_70 : decode prog_13_method_66_code 70 = .ok (.aload_n 0, 1) := by decide +kernel
theorem dX11_subsumes_71 : decode prog_13_method_66_code 71 = .ok (.getfield 9, 3) := by decide +kernel
theorem dX11_subsumes_74 : decode prog_13_method_66_code 74 = .ok (.iload_n 1, 1) := by decide +kernel
theorem dX11_subsumes_75 : decode prog_13_method_66_code 75 = .ok (.iaload, 1) := by decide +kernel
theorem dX11_subsumes_76 : decode prog_13_method_66_code 76 = .ok (.ishl, 1) := by decide +kernel
theorem dX11_subsumes_77 : decode prog_13_method_66_code 77 = .ok (.if_icmp .ge 84, 3) := by decide +kernel
theorem dX11_subsumes_80 : decode prog_13_method_66_code 80 = .ok (.iload 7, 2) := by decide +kernel
theorem dX11_subsumes_82 : decode prog_13_method_66_code 82 = .ok (.ifCond .eq 79, 3) := by decide +kernel
theorem dX11_subsumes_85 : decode prog_13_method_66_code 85 = .ok (.iconst 0, 1) := by decide +kernel
theorem dX11_subsumes_86 : decode prog_13_method_66_code 86 = .ok (.istore 9, 2) := by decide +kernel
theorem dX11_subsumes_88 : decode prog_13_method_66_code 88 = .ok (.iconst 0, 1) := by decide +kernel
theorem dX11_subsumes_89 : decode prog_13_method_66_code 89 = .ok (.istore 10, 2) := by decide +kernel
theorem dX11_subsumes_91 : decode prog_13_method_66_code 91 = .ok (.iload 10, 2) := by decide +kernel
theorem dX11_subsumes_93 : decode prog_13_method_66_code 93 = .ok (.aload_n 0, 1) := by decide +kernel
theorem dX11_subsumes_94 : decode prog_13_method_66_code 94 = .ok (.getfield 9, 3) := by decide +kernel
theorem dX11_subsumes_97 : decode prog_13_method_66_code 97 = .ok (.iload_n 1, 1) := by decide +kernel
theorem dX11_subsumes_98 : decode prog_13_method_66_code 98 = .ok (.iaload, 1) := by decide +kernel
theorem dX11_subsumes_99 : decode prog_13_method_66_code 99 = .ok (.if_icmp .ge 29, 3) := by decide +kernel
theorem dX11_subsumes_102 : decode prog_13_method_66_code 102 = .ok (.iload 9, 2) := by decide +kernel
theorem dX11_subsumes_104 : decode prog_13_method_66_code 104 = .ok (.iload 8, 2) := by decide +kernel
theorem dX11_subsumes_106 : decode prog_13_method_66_code 106 = .ok (.iload 10, 2) := by decide +kernel
theorem dX11_subsumes_108 : decode prog_13_method_66_code 108 = .ok (.ishr, 1) := by decide +kernel
theorem dX11_subsumes_109 : decode prog_13_method_66_code 109 = .ok (.iconst 1, 1) := by decide +kernel
theorem dX11_subsumes_110 : decode prog_13_method_66_code 110 = .ok (.iand, 1) := by decide +kernel
theorem dX11_subsumes_111 : decode prog_13_method_66_code 111 = .ok (.aload_n 0, 1) := by decide +kernel
theorem dX11_subsumes_112 : decode prog_13_method_66_code 112 = .ok (.getfield 62, 3) := by decide +kernel
theorem dX11_subsumes_115 : decode prog_13_method_66_code 115 = .ok (.iload 10, 2) := by decide +kernel
theorem dX11_subsumes_117 : decode prog_13_method_66_code 117 = .ok (.iaload, 1) := by decide +kernel
theorem dX11_subsumes_118 : decode prog_13_method_66_code 118 = .ok (.ishl, 1) := by decide +kernel
theorem dX11_subsumes_119 : decode prog_13_method_66_code 119 = .ok (.ior, 1) := by decide +kernel
theorem dX11_subsumes_120 : decode prog_13_method_66_code 120 = .ok (.istore 9, 2) := by decide +kernel
theorem dX11_subsumes_122 : decode prog_13_method_66_code 122 = .ok (.iinc 10 1, 3) := by decide +kernel
theorem dX11_subsumes_125 : decode prog_13_method_66_code 125 = .ok (.goto (-34), 3) := by decide +kernel
theorem dX11_subsumes_128 : decode prog_13_method_66_code 128 = .ok (.aload_n 0, 1) := by decide +kernel
theorem dX11_subsumes_129 : decode prog_13_method_66_code 129 = .ok (.getfield 55, 3) := by decide +kernel
theorem dX11_subsumes_132 : decode prog_13_method_66_code 132 = .ok (.iload 8, 2) := by decide +kernel
theorem dX11_subsumes_134 : decode prog_13_method_66_code 134 = .ok (.baload, 1) := by decide +kernel
theorem dX11_subsumes_135 : decode prog_13_method_66_code 135 = .ok (.ifCond .eq 13, 3) := by decide +kernel
theorem dX11_subsumes_138 : decode prog_13_method_66_code 138 = .ok (.aload_n 0, 1) := by decide +kernel
theorem dX11_subsumes_139 : decode prog_13_method_66_code 139 = .ok (.getfield 59, 3) := by decide +kernel
theorem dX11_subsumes_142 : decode prog_13_method_66_code 142 = .ok (.iload 9, 2) := by decide +kernel
theorem dX11_subsumes_144 : decode prog_13_method_66_code 144 = .ok (.baload, 1) := by decide +kernel
theorem dX11_subsumes_145 : decode prog_13_method_66_code 145 = .ok (.ifCond .eq 7, 3) := by decide +kernel
theorem dX11_subsumes_148 : decode prog_13_method_66_code 148 = .ok (.iconst 1, 1) := by decide +kernel
theorem dX11_subsumes_149 : decode prog_13_method_66_code 149 = .ok (.goto 4, 3) := by decide +kernel
theorem dX11_subsumes_152 : decode prog_13_method_66_code 152 = .ok (.iconst 0, 1) := by decide +kernel
theorem dX11_subsumes_153 : decode prog_13_method_66_code 153 = .ok (.istore 7, 2) := by decide +kernel
theorem dX11_subsumes_155 : decode prog_13_method_66_code 155 = .ok (.iinc 8 1, 3) := by decide +kernel
theorem dX11_subsumes_158 : decode prog_13_method_66_code 158 = .ok (.goto (-91), 3) := by decide +kernel
theorem dX11_subsumes_161 : decode prog_13_method_66_code 161 = .ok (.iload 7, 2) := by decide +kernel
theorem dX11_subsumes_163 : decode prog_13_method_66_code 163 = .ok (.ifCond .eq 5, 3) := by decide +kernel
theorem dX11_subsumes_166 : decode prog_13_method_66_code 166 = .ok (.iconst 1, 1) := by decide +kernel
theorem dX11_subsumes_167 : decode prog_13_method_66_code 167 = .ok (.ireturn, 1) := by decide +kernel
theorem dX11_subsumes_168 : decode prog_13_method_66_code 168 = .ok (.aload_n 0, 1) := by decide +kernel
theorem dX11_subsumes_169 : decode prog_13_method_66_code 169 = .ok (.aload_n 0, 1) := by decide +kernel
theorem dX11_subsumes_170 : decode prog_13_method_66_code 170 = .ok (.getfield 9, 3) := by decide +kernel
theorem dX11_subsumes_173 : decode prog_13_method_66_code 173 = .ok (.iload_n 1, 1) := by decide +kernel
theorem dX11_subsumes_174 : decode prog_13_method_66_code 174 = .ok (.iaload, 1) := by decide +kernel
theorem dX11_subsumes_175 : decode prog_13_method_66_code 175 = .ok (.invokevirtual 187, 3) := by decide +kernel
theorem dX11_subsumes_178 : decode prog_13_method_66_code 178 = .ok (.istore 6, 2) := by decide +kernel
theorem dX11_subsumes_180 : decode prog_13_method_66_code 180 = .ok (.goto (-124), 3) := by decide +kernel
theorem dX11_subsumes_183 : decode prog_13_method_66_code 183 = .ok (.iconst 0, 1) := by decide +kernel
theorem dX11_subsumes_184 : decode prog_13_method_66_code 184 = .ok (.ireturn, 1) := by decide +kernel
theorem sX11_subsumes_128 {Q : Int → Hp → Prop} {h : Hp} {l1 l8 l9 : Int}
    (hP : (ix l8 256 ∧ (((h 119 l8) ≠ 0) → (ix l9 256))) ∧
    (rj (l8 + 1)) ∧
    E 3 mX11_subsumes 67 [(0, vr 103), (1, vi l1), (7, vi (if (h 119 l8) = 0 ∨ (h 120 l9) ≠ 0 then (1 : Int) else 0)), (8, vi (l8 + 1))] [] h (qi Q)) :
    E 3 mX11_subsumes 128 [(0, vr 103), (1, vi l1), (8, vi l8), (9, vi l9)] [] h (qi Q) := by
  obtain ⟨⟨v1_0, v1_1⟩, hP⟩ := hP
  refine E_aload_n 0 0 dX11_subsumes_128 rfl rfl ?_
  refine E_gR 119 21 dX11_subsumes_129 FX11_55 ic_103 (by decide) ?_
  refine E_iload 2 dX11_subsumes_132 rfl ?_
  refine E_baload dX11_subsumes_134 ic_119 v1_0.1 v1_0.2 ?_
  have hJ : E 3 mX11_subsumes 153 [(0, vr 103), (1, vi l1), (8, vi l8), (9, vi l9)] [vi (if (h 119 l8) = 0 ∨ (h 120 l9) ≠ 0 then (1 : Int) else 0)] h (qi Q) := by
    obtain ⟨v2_0, hP⟩ := hP
    refine E_istore dX11_subsumes_153 (by decide) rfl ?_
    refine E_iinc 3 dX11_subsumes_155 rfl (rgI v2_0) (by decide) rfl ?_
    refine E_goto 67 dX11_subsumes_158 rfl ?_
    exact E_sub [2, 3, 1, 0] rfl hP
  refine E_if_eq 148 dX11_subsumes_135 rfl (fun hc => ?_) (fun hc => ?_)
  · have hp135 := (hc : (h 119 l8) = 0)
    refine E_iconst dX11_subsumes_148 (rg_of rfl) ?_
    refine E_goto 153 dX11_subsumes_149 rfl ?_
    exact E_top (if_pos (by omega)).symm hJ
  · have hp135 := (by omega : (h 119 l8) ≠ 0)
    refine E_aload_n 0 0 dX11_subsumes_138 rfl rfl ?_
    refine E_gR 120 22 dX11_subsumes_139 FX11_59 ic_103 (by decide) ?_
    refine E_iload 3 dX11_subsumes_142 rfl ?_
    refine E_baload dX11_subsumes_144 ic_120 (v1_1 (by omega)).1 (v1_1 (by omega)).2 ?_
    refine E_if_eq 152 dX11_subsumes_145 rfl (fun hc => ?_) (fun hc => ?_)
    · have hp145 := (hc : (h 120 l9) = 0)
      refine E_iconst dX11_subsumes_152 (rg_of rfl) ?_
      exact E_top (if_neg (by omega)).symm hJ
    · have hp145 := (by omega : (h 120 l9) ≠ 0)
      refine E_iconst dX11_subsumes_148 (rg_of rfl) ?_
      refine E_goto 153 dX11_subsumes_149 rfl ?_
      exact E_top (if_pos (by omega)).symm hJ
theorem sX11_subsumes_91 {Q : Int → Hp → Prop} {h : Hp} {l1 l8 l9 l10 : Int}
    (hP : (ix l1 4) ∧
    ((l10 ≥ (h 104 l1)) →
     E 3 mX11_subsumes 128 [(0, vr 103), (1, vi l1), (8, vi l8), (9, vi l9)] [] h (qi Q)) ∧
    ((l10 < (h 104 l1)) →
     (ix l10 8) ∧
     (∀ x4 : Int, x4 = (j_ior l9 (j_ishl (j_iand (j_ishr l8 l10) 1) (h 121 l10))) →
     (rj (l10 + 1)) ∧
     E 3 mX11_subsumes 91 [(0, vr 103), (1, vi l1), (8, vi l8), (9, vi x4), (10, vi (l10 + 1))] [] h (qi Q)))) :
    E 3 mX11_subsumes 91 [(0, vr 103), (1, vi l1), (8, vi l8), (9, vi l9), (10, vi l10)] [] h (qi Q) := by
  obtain ⟨v1_0, hP⟩ := hP
  refine E_iload 4 dX11_subsumes_91 rfl ?_
  refine E_aload_n 0 0 dX11_subsumes_93 rfl rfl ?_
  refine E_gR 104 0 dX11_subsumes_94 FX11_9 ic_103 (by decide) ?_
  refine E_iload_n 1 1 dX11_subsumes_97 rfl rfl ?_
  refine E_iaload dX11_subsumes_98 ic_104 v1_0.1 v1_0.2 ?_
  refine E_icmp_ge 128 dX11_subsumes_99 rfl (fun hc => ?_) (fun hc => ?_)
  · replace hP := hP.1 (hc)
    exact E_sub [0, 1, 2, 3] rfl hP
  · replace hP := hP.2 (by omega)
    obtain ⟨v3_0, hP⟩ := hP
    refine E_iload 3 dX11_subsumes_102 rfl ?_
    refine E_iload 2 dX11_subsumes_104 rfl ?_
    refine E_iload 4 dX11_subsumes_106 rfl ?_
    refine E_ishr dX11_subsumes_108 ?_
    refine E_iconst dX11_subsumes_109 (rg_of rfl) ?_
    refine E_iand dX11_subsumes_110 ?_
    refine E_aload_n 0 0 dX11_subsumes_111 rfl rfl ?_
    refine E_gR 121 23 dX11_subsumes_112 FX11_62 ic_103 (by decide) ?_
    refine E_iload 4 dX11_subsumes_115 rfl ?_
    refine E_iaload dX11_subsumes_117 ic_121 v3_0.1 v3_0.2 ?_
    refine E_ishl dX11_subsumes_118 ?_
    refine E_ior dX11_subsumes_119 ?_
    obtain ⟨x4, hx4⟩ : ∃ x : Int, x = (j_ior l9 (j_ishl (j_iand (j_ishr l8 l10) 1) (h 121 l10))) := ⟨_, rfl⟩
    refine E_top hx4.symm ?_
    replace hP := hP x4 hx4
    refine E_istore dX11_subsumes_120 (by decide) rfl ?_
    obtain ⟨v5_0, hP⟩ := hP
    refine E_iinc 4 dX11_subsumes_122 rfl (rgI v5_0) (by decide) rfl ?_
    refine E_goto 91 dX11_subsumes_125 rfl ?_
    exact E_sub [2, 3, 4, 1, 0] rfl hP
theorem sX11_subsumes_67 {Q : Int → Hp → Prop} {h : Hp} {l1 l7 l8 : Int}
    (hP : (ix l1 4) ∧
    ((l8 ≥ (j_ishl 1 (h 104 l1))) →
     ((l7 = 0) →
      (ix l1 4) ∧
      CI 1 mX11_isNext [vr 103, vi (h 104 l1)] h (fun r5 h4 =>
       E 3 mX11_subsumes 56 [(0, vr 103), (1, vi l1), (6, vi r5)] [] h4 (qi Q))) ∧
     ((l7 ≠ 0) →
      Q 1 h)) ∧
    ((l8 < (j_ishl 1 (h 104 l1))) →
     ((l7 = 0) →
      ((l7 = 0) →
       (ix l1 4) ∧
       CI 1 mX11_isNext [vr 103, vi (h 104 l1)] h (fun r12 h11 =>
        E 3 mX11_subsumes 56 [(0, vr 103), (1, vi l1), (6, vi r12)] [] h11 (qi Q))) ∧
      ((l7 ≠ 0) →
       Q 1 h)) ∧
     ((l7 ≠ 0) →
      E 3 mX11_subsumes 91 [(0, vr 103), (1, vi l1), (8, vi l8), (9, vi 0), (10, vi 0)] [] h (qi Q)))) :
    E 3 mX11_subsumes 67 [(0, vr 103), (1, vi l1), (7, vi l7), (8, vi l8)] [] h (qi Q) := by
  obtain ⟨v1_0, hP⟩ := hP
  refine E_iload 3 dX11_subsumes_67 rfl ?_
  refine E_iconst dX11_subsumes_69 (rg_of rfl) ?_
  refine E_aload_n 0 0 dX11_subsumes_70 rfl rfl ?_
  refine E_gR 104 0 dX11_subsumes_71 FX11_9 ic_103 (by decide) ?_
  refine E_iload_n 1 1 dX11_subsumes_74 rfl rfl ?_
  refine E_iaload dX11_subsumes_75 ic_104 v1_0.1 v1_0.2 ?_
  refine E_ishl dX11_subsumes_76 ?_
  refine E_icmp_ge 161 dX11_subsumes_77 rfl (fun hc => ?_) (fun hc => ?_)
  · replace hP := hP.1 (hc)
    refine E_iload 2 dX11_subsumes_161 rfl ?_
    refine E_if_eq 168 dX11_subsumes_163 rfl (fun hc => ?_) (fun hc => ?_)
    · replace hP := hP.1 (hc)
      obtain ⟨v3_0, hP⟩ := hP
      refine E_aload_n 0 0 dX11_subsumes_168 rfl rfl ?_
      refine E_aload_n 0 0 dX11_subsumes_169 rfl rfl ?_
      refine E_gR 104 0 dX11_subsumes_170 FX11_9 ic_103 (by decide) ?_
      refine E_iload_n 1 1 dX11_subsumes_173 rfl rfl ?_
      refine E_iaload dX11_subsumes_174 ic_104 v3_0.1 v3_0.2 ?_
      refine E_invVI [vi (h 104 l1)] dX11_subsumes_175 fX11_isNext lX11_187 ic_103 rfl (by decide) rfl rfl (Nat.le_of_ble_eq_true rfl) (CI_mono hP (fun r5 h4 hP => ?_))
      refine E_istore dX11_subsumes_178 (by decide) rfl ?_
      refine E_goto 56 dX11_subsumes_180 rfl ?_
      exact E_sub [1, 2, 0] rfl hP
    · replace hP := hP.2 (by omega)
      refine E_iconst dX11_subsumes_166 (rg_of rfl) ?_
      exact E_retI dX11_subsumes_167 rfl hP
  · replace hP := hP.2 (by omega)
    refine E_iload 2 dX11_subsumes_80 rfl ?_
    refine E_if_eq 161 dX11_subsumes_82 rfl (fun hc => ?_) (fun hc => ?_)
    · replace hP := hP.1 (hc)
      refine E_iload 2 dX11_subsumes_161 rfl ?_
      refine E_if_eq 168 dX11_subsumes_163 rfl (fun hc => ?_) (fun hc => ?_)
      · replace hP := hP.1 (hc)
        obtain ⟨v10_0, hP⟩ := hP
        refine E_aload_n 0 0 dX11_subsumes_168 rfl rfl ?_
        refine E_aload_n 0 0 dX11_subsumes_169 rfl rfl ?_
        refine E_gR 104 0 dX11_subsumes_170 FX11_9 ic_103 (by decide) ?_
        refine E_iload_n 1 1 dX11_subsumes_173 rfl rfl ?_
        refine E_iaload dX11_subsumes_174 ic_104 v10_0.1 v10_0.2 ?_
        refine E_invVI [vi (h 104 l1)] dX11_subsumes_175 fX11_isNext lX11_187 ic_103 rfl (by decide) rfl rfl (Nat.le_of_ble_eq_true rfl) (CI_mono hP (fun r12 h11 hP => ?_))
        refine E_istore dX11_subsumes_178 (by decide) rfl ?_
        refine E_goto 56 dX11_subsumes_180 rfl ?_
        exact E_sub [1, 2, 0] rfl hP
      · replace hP := hP.2 (by omega)
        refine E_iconst dX11_subsumes_166 (rg_of rfl) ?_
        exact E_retI dX11_subsumes_167 rfl hP
    · replace hP := hP.2 (by omega)
      refine E_iconst dX11_subsumes_85 (rg_of rfl) ?_
      refine E_istore dX11_subsumes_86 (by decide) rfl ?_
      refine E_iconst dX11_subsumes_88 (rg_of rfl) ?_
      refine E_istore dX11_subsumes_89 (by decide) rfl ?_
      exact E_sub [2, 3, 5, 1, 0] rfl hP
theorem sX11_subsumes_56 {Q : Int → Hp → Prop} {h : Hp} {l1 l6 : Int}
    (hP : ((l6 = 0) →
     Q 0 h) ∧
    ((l6 ≠ 0) →
     E 3 mX11_subsumes 67 [(0, vr 103), (1, vi l1), (7, vi 1), (8, vi 0)] [] h (qi Q))) :
    E 3 mX11_subsumes 56 [(0, vr 103), (1, vi l1), (6, vi l6)] [] h (qi Q) := by
  refine E_iload 2 dX11_subsumes_56 rfl ?_
  refine E_if_eq 183 dX11_subsumes_58 rfl (fun hc => ?_) (fun hc => ?_)
  · replace hP := hP.1 (hc)
    refine E_iconst dX11_subsumes_183 (rg_of rfl) ?_
    exact E_retI dX11_subsumes_184 rfl hP
  · replace hP := hP.2 (by omega)
    refine E_iconst dX11_subsumes_61 (rg_of rfl) ?_
    refine E_istore dX11_subsumes_62 (by decide) rfl ?_
    refine E_iconst dX11_subsumes_64 (rg_of rfl) ?_
    refine E_istore dX11_subsumes_65 (by decide) rfl ?_
    exact E_sub [2, 3, 1, 0] rfl hP
theorem sX11_subsumes {Q : Int → Hp → Prop} {h : Hp} {l1 l2 : Int}
    (hP : ((((l1 ≥ 0 ∧ l1 ≤ 3) ∧ (l2 ≥ 0 ∧ l2 ≤ 3)) → (ix l1 4)) ∧ (((l1 ≥ 0 ∧ l1 ≤ 3) ∧ (l2 ≥ 0 ∧ l2 ≤ 3)) → (ix l2 4))) ∧
    (∀ x2 : Int, x2 = (if l1 < 0 ∨ l1 > 3 then (-1) else (if l2 ≥ 0 ∧ l2 ≤ 3 then (if (h 104 l1) = (h 104 l2) then 0 else (-2)) else (-1))) →
    ((x2 ≥ 0) →
     (ix l1 4) ∧
     (((h 104 l1) ≤ 6) →
      CI 1 mX11_finds [vr 103, vi l1, vr 119] h (fun r7 h6 =>
       CI 1 mX11_finds [vr 103, vi l2, vr 120] h6 (fun r10 h9 =>
        CV 0 mX11_begins [vr 103] h9 (fun h12 =>
         E 3 mX11_subsumes 56 [(0, vr 103), (1, vi l1), (6, vi 1)] [] h12 (qi Q))))) ∧
     (((h 104 l1) > 6) →
      Q (-6) h)) ∧
    ((x2 < 0) →
     Q x2 h))) :
    CI 3 mX11_subsumes [vr 103, vi l1, vi l2] h Q := by
  refine CI_of_E fX11_subsumes.1 rfl (Nat.le_of_ble_eq_true rfl) ?_
  show E 3 mX11_subsumes 0 [(0, vr 103), (1, vi l1), (2, vi l2)] [] h (qi Q)
  obtain ⟨⟨v1_0, v1_1⟩, hP⟩ := hP
  refine E_aload_n 0 0 dX11_subsumes_0 rfl rfl ?_
  refine E_iload_n 1 1 dX11_subsumes_1 rfl rfl ?_
  refine E_iload_n 2 2 dX11_subsumes_2 rfl rfl ?_
  refine E_invVI [vi l1, vi l2] dX11_subsumes_3 fX11_unlike lX11_211 ic_103 rfl (by decide) rfl rfl (Nat.le_of_ble_eq_true rfl) (sX11_unlike (h := h) (l1 := l1) (l2 := l2) ⟨⟨v1_0, v1_1⟩, ?_⟩)
  obtain ⟨x2, hx2⟩ : ∃ x : Int, x = (if l1 < 0 ∨ l1 > 3 then (-1) else (if l2 ≥ 0 ∧ l2 ≤ 3 then (if (h 104 l1) = (h 104 l2) then 0 else (-2)) else (-1))) := ⟨_, rfl⟩
  refine E_top hx2.symm ?_
  replace hP := hP x2 hx2
  refine E_istore_n dX11_subsumes_6 rfl (by decide) rfl ?_
  refine E_iload_n 0 3 dX11_subsumes_7 rfl rfl ?_
  refine E_if_ge 13 dX11_subsumes_8 rfl (fun hc => ?_) (fun hc => ?_)
  · replace hP := hP.1 (hc)
    obtain ⟨v4_0, hP⟩ := hP
    refine E_aload_n 1 0 dX11_subsumes_13 rfl rfl ?_
    refine E_gR 104 0 dX11_subsumes_14 FX11_9 ic_103 (by decide) ?_
    refine E_iload_n 2 1 dX11_subsumes_17 rfl rfl ?_
    refine E_iaload dX11_subsumes_18 ic_104 v4_0.1 v4_0.2 ?_
    refine E_bipush dX11_subsumes_19 (by decide) ?_
    refine E_icmp_le 27 dX11_subsumes_21 rfl (fun hc => ?_) (fun hc => ?_)
    · replace hP := hP.1 (hc)
      refine E_aload_n 1 0 dX11_subsumes_27 rfl rfl ?_
      refine E_iload_n 2 1 dX11_subsumes_28 rfl rfl ?_
      refine E_aload_n 1 0 dX11_subsumes_29 rfl rfl ?_
      refine E_gR 119 21 dX11_subsumes_30 FX11_55 ic_103 (by decide) ?_
      refine E_invVI [vi l1, vr 119] dX11_subsumes_33 fX11_finds lX11_156 ic_103 rfl (by decide) rfl rfl (Nat.le_of_ble_eq_true rfl) (CI_mono hP (fun r7 h6 hP => ?_))
      refine E_istore dX11_subsumes_36 (by decide) rfl ?_
      refine E_aload_n 2 0 dX11_subsumes_38 rfl rfl ?_
      refine E_iload_n 4 2 dX11_subsumes_39 rfl rfl ?_
      refine E_aload_n 2 0 dX11_subsumes_40 rfl rfl ?_
      refine E_gR 120 22 dX11_subsumes_41 FX11_59 ic_103 (by decide) ?_
      refine E_invVI [vi l2, vr 120] dX11_subsumes_44 fX11_finds lX11_156 ic_103 rfl (by decide) rfl rfl (Nat.le_of_ble_eq_true rfl) (CI_mono hP (fun r10 h9 hP => ?_))
      refine E_istore dX11_subsumes_47 (by decide) rfl ?_
      refine E_aload_n 3 0 dX11_subsumes_49 rfl rfl ?_
      refine E_invVV [] dX11_subsumes_50 fX11_begins lX11_181 ic_103 rfl (by decide) rfl rfl (Nat.le_of_ble_eq_true rfl) (CV_mono hP (fun h12 hP => ?_))
      refine E_iconst dX11_subsumes_53 (rg_of rfl) ?_
      refine E_istore dX11_subsumes_54 (by decide) rfl ?_
      exact E_sub [4, 5, 0] rfl hP
    · replace hP := hP.2 (by omega)
      refine E_bipush dX11_subsumes_24 (by decide) ?_
      exact E_retI dX11_subsumes_26 rfl hP
  · replace hP := hP.2 (by omega)
    refine E_iload_n 0 3 dX11_subsumes_11 rfl rfl ?_
    exact E_retI dX11_subsumes_12 rfl hP
theorem dX11_appends_0 : decode prog_13_method_67_code 0 = .ok (.aload_n 0, 1) := by decide +kernel
theorem dX11_appends_1 : decode prog_13_method_67_code 1 = .ok (.iload_n 1, 1) := by decide +kernel
theorem dX11_appends_2 : decode prog_13_method_67_code 2 = .ok (.aload_n 0, 1) := by decide +kernel
theorem dX11_appends_3 : decode prog_13_method_67_code 3 = .ok (.getfield 13, 3) := by decide +kernel
theorem dX11_appends_6 : decode prog_13_method_67_code 6 = .ok (.iload_n 1, 1) := by decide +kernel
theorem dX11_appends_7 : decode prog_13_method_67_code 7 = .ok (.iaload, 1) := by decide +kernel
theorem dX11_appends_8 : decode prog_13_method_67_code 8 = .ok (.iload_n 2, 1) := by decide +kernel
theorem dX11_appends_9 : decode prog_13_method_67_code 9 = .ok (.iload_n 3, 1) := by decide +kernel
theorem dX11_appends_10 : decode prog_13_method_67_code 10 = .ok (.invokevirtual 106, 3) := by decide +kernel
theorem dX11_appends_13 : decode prog_13_method_67_code 13 = .ok (.return_, 1) := by decide +kernel
theorem sX11_appends {Q : Hp → Prop} {h : Hp} {l1 l2 l3 : Int}
    (hP : (ix l1 4) ∧
    CV 0 mX11_puts [vr 103, vi l1, vi (h 105 l1), vi l2, vi l3] h (fun h2 =>
     Q h2)) :
    CV 1 mX11_appends [vr 103, vi l1, vi l2, vi l3] h Q := by
  refine CV_of_E fX11_appends.1 rfl (Nat.le_of_ble_eq_true rfl) ?_
  show E 1 mX11_appends 0 [(0, vr 103), (1, vi l1), (2, vi l2), (3, vi l3)] [] h (qv Q)
  obtain ⟨v1_0, hP⟩ := hP
  refine E_aload_n 0 0 dX11_appends_0 rfl rfl ?_
  refine E_iload_n 1 1 dX11_appends_1 rfl rfl ?_
  refine E_aload_n 0 0 dX11_appends_2 rfl rfl ?_
  refine E_gR 105 1 dX11_appends_3 FX11_13 ic_103 (by decide) ?_
  refine E_iload_n 1 1 dX11_appends_6 rfl rfl ?_
  refine E_iaload dX11_appends_7 ic_105 v1_0.1 v1_0.2 ?_
  refine E_iload_n 2 2 dX11_appends_8 rfl rfl ?_
  refine E_iload_n 3 3 dX11_appends_9 rfl rfl ?_
  refine E_invVV [vi l1, vi (h 105 l1), vi l2, vi l3] dX11_appends_10 fX11_puts lX11_106 ic_103 rfl (by decide) rfl rfl (Nat.le_of_ble_eq_true rfl) (CV_mono hP (fun h2 hP => ?_))
  exact E_retV dX11_appends_13 rfl hP
theorem dX11_merges_0 : decode prog_13_method_69_code 0 = .ok (.iconst 1, 1) := by decide +kernel
theorem dX11_merges_1 : decode prog_13_method_69_code 1 = .ok (.istore_n 2, 1) := by decide +kernel
theorem dX11_merges_2 : decode prog_13_method_69_code 2 = .ok (.iconst 2, 1) := by decide +kernel
theorem dX11_merges_3 : decode prog_13_method_69_code 3 = .ok (.iload_n 2, 1) := by decide +kernel
theorem dX11_merges_4 : decode prog_13_method_69_code 4 = .ok (.imul, 1) := by decide +kernel
theorem dX11_merges_5 : decode prog_13_method_69_code 5 = .ok (.aload_n 0, 1) := by decide +kernel
theorem dX11_merges_6 : decode prog_13_method_69_code 6 = .ok (.getfield 9, 3) := by decide +kernel
theorem dX11_merges_9 : decode prog_13_method_69_code 9 = .ok (.iload_n 1, 1) := by decide +kernel
theorem dX11_merges_10 : decode prog_13_method_69_code 10 = .ok (.iaload, 1) := by decide +kernel
theorem dX11_merges_11 : decode prog_13_method_69_code 11 = .ok (.if_icmp .ge 10, 3) := by decide +kernel
theorem dX11_merges_14 : decode prog_13_method_69_code 14 = .ok (.iload_n 2, 1) := by decide +kernel
theorem dX11_merges_15 : decode prog_13_method_69_code 15 = .ok (.iconst 2, 1) := by decide +kernel
theorem dX11_merges_16 : decode prog_13_method_69_code 16 = .ok (.imul, 1) := by decide +kernel
theorem dX11_merges_17 : decode prog_13_method_69_code 17 = .ok (.istore_n 2, 1) := by decide +kernel
theorem dX11_merges_18 : decode prog_13_method_69_code 18 = .ok (.goto (-16), 3) := by decide +kernel
theorem dX11_merges_21 : decode prog_13_method_69_code 21 = .ok (.iload_n 2, 1) := by decide +kernel
theorem dX11_merges_22 : decode prog_13_method_69_code 22 = .ok (.istore_n 3, 1) := by decide +kernel
theorem dX11_merges_23 : decode prog_13_method_69_code 23 = .ok (.iload_n 3, 1) := by decide +kernel
theorem dX11_merges_24 : decode prog_13_method_69_code 24 = .ok (.ifCond .le 102, 3) := by decide +kernel
theorem dX11_merges_27 : decode prog_13_method_69_code 27 = .ok (.iload_n 2, 1) := by decide +kernel
theorem dX11_merges_28 : decode prog_13_method_69_code 28 = .ok (.istore 4, 2) := by decide +kernel
theorem dX11_merges_30 : decode prog_13_method_69_code 30 = .ok (.iconst 0, 1) := by decide +kernel
theorem dX11_merges_31 : decode prog_13_method_69_code 31 = .ok (.istore 5, 2) := by decide +kernel
theorem dX11_merges_33 : decode prog_13_method_69_code 33 = .ok (.iload_n 3, 1) := by decide +kernel
theorem dX11_merges_34 : decode prog_13_method_69_code 34 = .ok (.istore 6, 2) := by decide +kernel
theorem dX11_merges_36 : decode prog_13_method_69_code 36 = .ok (.iconst 1, 1) := by decide +kernel
theorem dX11_merges_37 : decode prog_13_method_69_code 37 = .ok (.istore 7, 2) := by decide +kernel
theorem dX11_merges_39 : decode prog_13_method_69_code 39 = .ok (.iload 7, 2) := by decide +kernel
theorem dX11_merges_41 : decode prog_13_method_69_code 41 = .ok (.ifCond .eq 78, 3) := by decide +kernel
theorem dX11_merges_44 : decode prog_13_method_69_code 44 = .ok (.iconst 0, 1) := by decide +kernel
theorem dX11_merges_45 : decode prog_13_method_69_code 45 = .ok (.istore 8, 2) := by decide +kernel
theorem dX11_merges_47 : decode prog_13_method_69_code 47 = .ok (.iload 8, 2) := by decide +kernel
theorem dX11_merges_49 : decode prog_13_method_69_code 49 = .ok (.aload_n 0, 1) := by decide +kernel
theorem dX11_merges_50 : decode prog_13_method_69_code 50 = .ok (.getfield 9, 3) := by decide +kernel
theorem dX11_merges_53 : decode prog_13_method_69_code 53 = .ok (.iload_n 1, 1) := by decide +kernel
theorem dX11_merges_54 : decode prog_13_method_69_code 54 = .ok (.iaload, 1) := by decide +kernel
theorem dX11_merges_55 : decode prog_13_method_69_code 55 = .ok (.iload 6, 2) := by decide +kernel
theorem dX11_merges_57 : decode prog_13_method_69_code 57 = .ok (.isub, 1) := by decide +kernel
theorem dX11_merges_58 : decode prog_13_method_69_code 58 = .ok (.if_icmp .ge 30, 3) := by decide +kernel
theorem dX11_merges_61 : decode prog_13_method_69_code 61 = .ok (.iload 8, 2) := by decide +kernel
theorem dX11_merges_63 : decode prog_13_method_69_code 63 = .ok (.iload_n 3, 1) := by decide +kernel
theorem dX11_merges_64 : decode prog_13_method_69_code 64 = .ok (.iand, 1) := by decide +kernel
theorem dX11_merges_65 : decode prog_13_method_69_code 65 = .ok (.iload 5, 2) := by decide +kernel
theorem dX11_merges_67 : decode prog_13_method_69_code 67 = .ok (.if_icmp .ne 15, 3) := by decide +kernel
theorem dX11_merges_70 : decode prog_13_method_69_code 70 = .ok (.aload_n 0, 1) := by decide +kernel
theorem dX11_merges_71 : decode prog_13_method_69_code 71 = .ok (.iload_n 1, 1) := by decide +kernel
theorem dX11_merges_72 : decode prog_13_method_69_code 72 = .ok (.iload 8, 2) := by decide +kernel
theorem dX11_merges_74 : decode prog_13_method_69_code 74 = .ok (.iload 8, 2) := by decide +kernel
theorem dX11_merges_76 : decode prog_13_method_69_code 76 = .ok (.iload 6, 2) := by decide +kernel
theorem dX11_merges_78 : decode prog_13_method_69_code 78 = .ok (.iadd, 1) := by decide +kernel
theorem dX11_merges_79 : decode prog_13_method_69_code 79 = .ok (.invokevirtual 217, 3) := by decide +kernel
theorem dX11_merges_82 : decode prog_13_method_69_code 82 = .ok (.iinc 8 1, 3) := by decide +kernel
theorem dX11_merges_85 : decode prog_13_method_69_code 85 = .ok (.goto (-38), 3) := by decide +kernel
theorem dX11_merges_88 : decode prog_13_method_69_code 88 = .ok (.iload 4, 2) := by decide +kernel
theorem dX11_merges_90 : decode prog_13_method_69_code 90 = .ok (.iload_n 3, 1) := by decide +kernel
theorem dX11_merges_91 : decode prog_13_method_69_code 91 = .ok (.if_icmp .eq 7, 3) := by decide +kernel
theorem dX11_merges_94 : decode prog_13_method_69_code 94 = .ok (.iconst 1, 1) := by decide +kernel
theorem dX11_merges_95 : decode prog_13_method_69_code 95 = .ok (.goto 4, 3) := by decide +kernel
theorem dX11_merges_98 : decode prog_13_method_69_code 98 = .ok (.iconst 0, 1) := by decide +kernel
theorem dX11_merges_99 : decode prog_13_method_69_code 99 = .ok (.istore 7, 2) := by decide +kernel
theorem dX11_merges_101 : decode prog_13_method_69_code 101 = .ok (.iload 4, 2) := by decide +kernel
theorem dX11_merges_103 : decode prog_13_method_69_code 103 = .ok (.iload_n 3, 1) := by decide +kernel
theorem dX11_merges_104 : decode prog_13_method_69_code 104 = .ok (.isub, 1) := by decide +kernel
theorem dX11_merges_105 : decode prog_13_method_69_code 105 = .ok (.istore 6, 2) := by decide +kernel
theorem dX11_merges_107 : decode prog_13_method_69_code 107 = .ok (.iload 4, 2) := by decide +kernel
theorem dX11_merges_109 : decode prog_13_method_69_code 109 = .ok (.iconst 2, 1) := by decide +kernel
theorem dX11_merges_110 : decode prog_13_method_69_code 110 = .ok (.idiv, 1) := by decide +kernel
theorem dX11_merges_111 : decode prog_13_method_69_code 111 = .ok (.istore 4, 2) := by decide +kernel
theorem dX11_merges_113 : decode prog_13_method_69_code 113 = .ok (.iload_n 3, 1) := by decide +kernel
theorem dX11_merges_114 : decode prog_13_method_69_code 114 = .ok (.istore 5, 2) := by decide +kernel
theorem dX11_merges_116 : decode prog_13_method_69_code 116 = .ok (.goto (-77), 3) := by decide +kernel
theorem dX11_merges_119 : decode prog_13_method_69_code 119 = .ok (.iload_n 3, 1) := by decide +kernel
theorem dX11_merges_120 : decode prog_13_method_69_code 120 = .ok (.iconst 2, 1) := by decide +kernel
theorem dX11_merges_121 : decode prog_13_method_69_code 121 = .ok (.idiv, 1) := by decide +kernel
theorem dX11_merges_122 : decode prog_13_method_69_code 122 = .ok (.istore_n 3, 1) := by decide +kernel
theorem dX11_merges_123 : decode prog_13_method_69_code 123 = .ok (.goto (-100), 3) := by decide +kernel
theorem dX11_merges_126 : decode prog_13_method_69_code 126 = .ok (.return_, 1) := by decide +kernel
theorem sX11_merges_88 {Q : Hp → Prop} {h : Hp} {l1 l2 l3 l4 : Int}
    (hP : (rj (l4 - l3)) ∧
    E 2 mX11_merges 39 [(0, vr 103), (1, vi l1), (2, vi l2), (3, vi l3), (4, vi (j_idiv l4 2)), (5, vi l3), (6, vi (l4 - l3)), (7, vi (if l4 ≠ l3 then (1 : Int) else 0))] [] h (qv Q)) :
    E 2 mX11_merges 88 [(0, vr 103), (1, vi l1), (2, vi l2), (3, vi l3), (4, vi l4)] [] h (qv Q) := by
  refine E_iload 4 dX11_merges_88 rfl ?_
  refine E_iload_n 3 3 dX11_merges_90 rfl rfl ?_
  have hJ : E 2 mX11_merges 99 [(0, vr 103), (1, vi l1), (2, vi l2), (3, vi l3), (4, vi l4)] [vi (if l4 ≠ l3 then (1 : Int) else 0)] h (qv Q) := by
    obtain ⟨v2_0, hP⟩ := hP
    refine E_istore dX11_merges_99 (by decide) rfl ?_
    refine E_iload 5 dX11_merges_101 rfl ?_
    refine E_iload_n 4 3 dX11_merges_103 rfl rfl ?_
    refine E_isub dX11_merges_104 (rgI v2_0) ?_
    refine E_istore dX11_merges_105 (by decide) rfl ?_
    refine E_iload 6 dX11_merges_107 rfl ?_
    refine E_iconst dX11_merges_109 (rg_of rfl) ?_
    refine E_idiv dX11_merges_110 (by decide) ?_
    refine E_istore dX11_merges_111 (by decide) rfl ?_
    refine E_iload_n 6 3 dX11_merges_113 rfl rfl ?_
    refine E_istore dX11_merges_114 (by decide) rfl ?_
    refine E_goto 39 dX11_merges_116 rfl ?_
    exact E_sub [4, 5, 6, 7, 1, 0, 2, 3] rfl hP
  refine E_icmp_eq 98 dX11_merges_91 rfl (fun hc => ?_) (fun hc => ?_)
  · have hp91 := (hc : l4 = l3)
    refine E_iconst dX11_merges_98 (rg_of rfl) ?_
    exact E_top (if_neg (by omega)).symm hJ
  · have hp91 := (by omega : l4 ≠ l3)
    refine E_iconst dX11_merges_94 (rg_of rfl) ?_
    refine E_goto 99 dX11_merges_95 rfl ?_
    exact E_top (if_pos (by omega)).symm hJ
theorem sX11_merges_47 {Q : Hp → Prop} {h : Hp} {l1 l2 l3 l4 l5 l6 l8 : Int}
    (hP : (ix l1 4 ∧ rj ((h 104 l1) - l6)) ∧
    ((l8 ≥ ((h 104 l1) - l6)) →
     E 2 mX11_merges 88 [(0, vr 103), (1, vi l1), (2, vi l2), (3, vi l3), (4, vi l4)] [] h (qv Q)) ∧
    ((l8 < ((h 104 l1) - l6)) →
     (((j_iand l8 l3) ≠ l5) →
      (rj (l8 + 1)) ∧
      E 2 mX11_merges 47 [(0, vr 103), (1, vi l1), (2, vi l2), (3, vi l3), (4, vi l4), (5, vi l5), (6, vi l6), (8, vi (l8 + 1))] [] h (qv Q)) ∧
     (((j_iand l8 l3) = l5) →
      (rj (l8 + l6)) ∧
      CV 1 mX11_appends [vr 103, vi l1, vi l8, vi (l8 + l6)] h (fun h6 =>
       (rj (l8 + 1)) ∧
       E 2 mX11_merges 47 [(0, vr 103), (1, vi l1), (2, vi l2), (3, vi l3), (4, vi l4), (5, vi l5), (6, vi l6), (8, vi (l8 + 1))] [] h6 (qv Q))))) :
    E 2 mX11_merges 47 [(0, vr 103), (1, vi l1), (2, vi l2), (3, vi l3), (4, vi l4), (5, vi l5), (6, vi l6), (8, vi l8)] [] h (qv Q) := by
  obtain ⟨⟨v1_0, v1_1⟩, hP⟩ := hP
  refine E_iload 7 dX11_merges_47 rfl ?_
  refine E_aload_n 0 0 dX11_merges_49 rfl rfl ?_
  refine E_gR 104 0 dX11_merges_50 FX11_9 ic_103 (by decide) ?_
  refine E_iload_n 1 1 dX11_merges_53 rfl rfl ?_
  refine E_iaload dX11_merges_54 ic_104 v1_0.1 v1_0.2 ?_
  refine E_iload 6 dX11_merges_55 rfl ?_
  refine E_isub dX11_merges_57 (rgI v1_1) ?_
  refine E_icmp_ge 88 dX11_merges_58 rfl (fun hc => ?_) (fun hc => ?_)
  · replace hP := hP.1 (hc)
    exact E_sub [0, 1, 2, 3, 4] rfl hP
  · replace hP := hP.2 (by omega)
    refine E_iload 7 dX11_merges_61 rfl ?_
    refine E_iload_n 3 3 dX11_merges_63 rfl rfl ?_
    refine E_iand dX11_merges_64 ?_
    refine E_iload 5 dX11_merges_65 rfl ?_
    refine E_icmp_ne 82 dX11_merges_67 rfl (fun hc => ?_) (fun hc => ?_)
    · replace hP := hP.1 (hc)
      obtain ⟨v4_0, hP⟩ := hP
      refine E_iinc 7 dX11_merges_82 rfl (rgI v4_0) (by decide) rfl ?_
      refine E_goto 47 dX11_merges_85 rfl ?_
      exact E_sub [1, 2, 3, 4, 5, 6, 7, 0] rfl hP
    · replace hP := hP.2 (by omega)
      obtain ⟨v5_0, hP⟩ := hP
      refine E_aload_n 0 0 dX11_merges_70 rfl rfl ?_
      refine E_iload_n 1 1 dX11_merges_71 rfl rfl ?_
      refine E_iload 7 dX11_merges_72 rfl ?_
      refine E_iload 7 dX11_merges_74 rfl ?_
      refine E_iload 6 dX11_merges_76 rfl ?_
      refine E_iadd dX11_merges_78 (rgI v5_0) ?_
      refine E_invVV [vi l1, vi l8, vi (l8 + l6)] dX11_merges_79 fX11_appends lX11_217 ic_103 rfl (by decide) rfl rfl (Nat.le_of_ble_eq_true rfl) (CV_mono hP (fun h6 hP => ?_))
      obtain ⟨v7_0, hP⟩ := hP
      refine E_iinc 7 dX11_merges_82 rfl (rgI v7_0) (by decide) rfl ?_
      refine E_goto 47 dX11_merges_85 rfl ?_
      exact E_sub [1, 2, 3, 4, 5, 6, 7, 0] rfl hP
theorem sX11_merges_39 {Q : Hp → Prop} {h : Hp} {l1 l2 l3 l4 l5 l6 l7 : Int}
    (hP : ((l7 = 0) →
     E 2 mX11_merges 23 [(0, vr 103), (1, vi l1), (2, vi l2), (3, vi (j_idiv l3 2))] [] h (qv Q)) ∧
    ((l7 ≠ 0) →
     E 2 mX11_merges 47 [(0, vr 103), (1, vi l1), (2, vi l2), (3, vi l3), (4, vi l4), (5, vi l5), (6, vi l6), (8, vi 0)] [] h (qv Q))) :
    E 2 mX11_merges 39 [(0, vr 103), (1, vi l1), (2, vi l2), (3, vi l3), (4, vi l4), (5, vi l5), (6, vi l6), (7, vi l7)] [] h (qv Q) := by
  refine E_iload 7 dX11_merges_39 rfl ?_
  refine E_if_eq 119 dX11_merges_41 rfl (fun hc => ?_) (fun hc => ?_)
  · replace hP := hP.1 (hc)
    refine E_iload_n 3 3 dX11_merges_119 rfl rfl ?_
    refine E_iconst dX11_merges_120 (rg_of rfl) ?_
    refine E_idiv dX11_merges_121 (by decide) ?_
    refine E_istore_n dX11_merges_122 rfl (by decide) rfl ?_
    refine E_goto 23 dX11_merges_123 rfl ?_
    exact E_sub [1, 2, 3, 0] rfl hP
  · replace hP := hP.2 (by omega)
    refine E_iconst dX11_merges_44 (rg_of rfl) ?_
    refine E_istore dX11_merges_45 (by decide) rfl ?_
    exact E_sub [1, 2, 3, 4, 5, 6, 7, 0] rfl hP
theorem sX11_merges_23 {Q : Hp → Prop} {h : Hp} {l1 l2 l3 : Int}
    (hP : ((l3 ≤ 0) →
     Q h) ∧
    ((l3 > 0) →
     E 2 mX11_merges 39 [(0, vr 103), (1, vi l1), (2, vi l2), (3, vi l3), (4, vi l2), (5, vi 0), (6, vi l3), (7, vi 1)] [] h (qv Q))) :
    E 2 mX11_merges 23 [(0, vr 103), (1, vi l1), (2, vi l2), (3, vi l3)] [] h (qv Q) := by
  refine E_iload_n 3 3 dX11_merges_23 rfl rfl ?_
  refine E_if_le 126 dX11_merges_24 rfl (fun hc => ?_) (fun hc => ?_)
  · replace hP := hP.1 (hc)
    exact E_retV dX11_merges_126 rfl hP
  · replace hP := hP.2 (by omega)
    refine E_iload_n 2 2 dX11_merges_27 rfl rfl ?_
    refine E_istore dX11_merges_28 (by decide) rfl ?_
    refine E_iconst dX11_merges_30 (rg_of rfl) ?_
    refine E_istore dX11_merges_31 (by decide) rfl ?_
    refine E_iload_n 5 3 dX11_merges_33 rfl rfl ?_
    refine E_istore dX11_merges_34 (by decide) rfl ?_
    refine E_iconst dX11_merges_36 (rg_of rfl) ?_
    refine E_istore dX11_merges_37 (by decide) rfl ?_
    exact E_sub [4, 5, 6, 7, 3, 2, 1, 0] rfl hP
theorem sX11_merges_2 {Q : Hp → Prop} {h : Hp} {l1 l2 : Int}
    (hP : (rj (2 * l2) ∧ ix l1 4) ∧
    (((2 * l2) ≥ (h 104 l1)) →
     E 2 mX11_merges 23 [(0, vr 103), (1, vi l1), (2, vi l2), (3, vi l2)] [] h (qv Q)) ∧
    (((2 * l2) < (h 104 l1)) →
     (rj (l2 * 2)) ∧
     E 2 mX11_merges 2 [(0, vr 103), (1, vi l1), (2, vi (l2 * 2))] [] h (qv Q))) :
    E 2 mX11_merges 2 [(0, vr 103), (1, vi l1), (2, vi l2)] [] h (qv Q) := by
  obtain ⟨⟨v1_0, v1_1⟩, hP⟩ := hP
  refine E_iconst dX11_merges_2 (rg_of rfl) ?_
  refine E_iload_n 2 2 dX11_merges_3 rfl rfl ?_
  refine E_imul dX11_merges_4 (rgI v1_0) ?_
  refine E_aload_n 0 0 dX11_merges_5 rfl rfl ?_
  refine E_gR 104 0 dX11_merges_6 FX11_9 ic_103 (by decide) ?_
  refine E_iload_n 1 1 dX11_merges_9 rfl rfl ?_
  refine E_iaload dX11_merges_10 ic_104 v1_1.1 v1_1.2 ?_
  refine E_icmp_ge 21 dX11_merges_11 rfl (fun hc => ?_) (fun hc => ?_)
  · replace hP := hP.1 (hc)
    refine E_iload_n 2 2 dX11_merges_21 rfl rfl ?_
    refine E_istore_n dX11_merges_22 rfl (by decide) rfl ?_
    exact E_sub [1, 2, 3, 0] rfl hP
  · replace hP := hP.2 (by omega)
    obtain ⟨v3_0, hP⟩ := hP
    refine E_iload_n 2 2 dX11_merges_14 rfl rfl ?_
    refine E_iconst dX11_merges_15 (rg_of rfl) ?_
    refine E_imul dX11_merges_16 (rgI v3_0) ?_
    refine E_istore_n dX11_merges_17 rfl (by decide) rfl ?_
    refine E_goto 2 dX11_merges_18 rfl ?_
    exact E_sub [1, 2, 0] rfl hP
theorem sX11_merges {Q : Hp → Prop} {h : Hp} {l1 : Int}
    (hP : E 2 mX11_merges 2 [(0, vr 103), (1, vi l1), (2, vi 1)] [] h (qv Q)) :
    CV 2 mX11_merges [vr 103, vi l1] h Q := by
  refine CV_of_E fX11_merges.1 rfl (Nat.le_of_ble_eq_true rfl) ?_
  show E 2 mX11_merges 0 [(0, vr 103), (1, vi l1)] [] h (qv Q)
  refine E_iconst dX11_merges_0 (rg_of rfl) ?_
  refine E_istore_n dX11_merges_1 rfl (by decide) rfl ?_
  exact E_sub [1, 2, 0] rfl hP
theorem dX11_build_0 : decode prog_13_method_68_code 0 = .ok (.iload_n 1, 1) := by decide +kernel
theorem dX11_build_1 : decode prog_13_method_68_code 1 = .ok (.invokestatic 88, 3) := by decide +kernel
theorem dX11_build_4 : decode prog_13_method_68_code 4 = .ok (.ifCond .ne 5, 3) := by decide +kernel
theorem dX11_build_7 : decode prog_13_method_68_code 7 = .ok (.iconst (-1), 1) := by decide +kernel
theorem dX11_build_8 : decode prog_13_method_68_code 8 = .ok (.ireturn, 1) := by decide +kernel
theorem dX11_build_9 : decode prog_13_method_68_code 9 = .ok (.iload_n 2, 1) := by decide +kernel
theorem dX11_build_10 : decode prog_13_method_68_code 10 = .ok (.iconst 2, 1) := by decide +kernel
theorem dX11_build_11 : decode prog_13_method_68_code 11 = .ok (.bipush 8, 2) := by decide +kernel
theorem dX11_build_13 : decode prog_13_method_68_code 13 = .ok (.invokestatic 80, 3) := by decide +kernel
theorem dX11_build_16 : decode prog_13_method_68_code 16 = .ok (.ifCond .eq 12, 3) := by decide +kernel
theorem dX11_build_19 : decode prog_13_method_68_code 19 = .ok (.iload_n 3, 1) := by decide +kernel
theorem dX11_build_20 : decode prog_13_method_68_code 20 = .ok (.iconst 0, 1) := by decide +kernel
theorem dX11_build_21 : decode prog_13_method_68_code 21 = .ok (.iconst 3, 1) := by decide +kernel
theorem dX11_build_22 : decode prog_13_method_68_code 22 = .ok (.invokestatic 80, 3) := by decide +kernel
theorem dX11_build_25 : decode prog_13_method_68_code 25 = .ok (.ifCond .ne 6, 3) := by decide +kernel
theorem dX11_build_28 : decode prog_13_method_68_code 28 = .ok (.bipush (-2), 2) := by decide +kernel
theorem dX11_build_30 : decode prog_13_method_68_code 30 = .ok (.ireturn, 1) := by decide +kernel
theorem dX11_build_31 : decode prog_13_method_68_code 31 = .ok (.aload_n 0, 1) := by decide +kernel
theorem dX11_build_32 : decode prog_13_method_68_code 32 = .ok (.invokevirtual 92, 3) := by decide +kernel
theorem dX11_build_35 : decode prog_13_method_68_code 35 = .ok (.aload_n 0, 1) := by decide +kernel
theorem dX11_build_36 : decode prog_13_method_68_code 36 = .ok (.getfield 9, 3) := by decide +kernel
theorem dX11_build_39 : decode prog_13_method_68_code 39 = .ok (.iload_n 1, 1) := by decide +kernel
theorem dX11_build_40 : decode prog_13_method_68_code 40 = .ok (.iload_n 2, 1) := by decide +kernel
theorem dX11_build_41 : decode prog_13_method_68_code 41 = .ok (.iastore, 1) := by decide +kernel
theorem dX11_build_42 : decode prog_13_method_68_code 42 = .ok (.aload_n 0, 1) := by decide +kernel
theorem dX11_build_43 : decode prog_13_method_68_code 43 = .ok (.getfield 13, 3) := by decide +kernel
theorem dX11_build_46 : decode prog_13_method_68_code 46 = .ok (.iload_n 1, 1) := by decide +kernel
theorem dX11_build_47 : decode prog_13_method_68_code 47 = .ok (.iconst 0, 1) := by decide +kernel
theorem dX11_build_48 : decode prog_13_method_68_code 48 = .ok (.iastore, 1) := by decide +kernel
theorem dX11_build_49 : decode prog_13_method_68_code 49 = .ok (.iload_n 3, 1) := by decide +kernel
theorem dX11_build_50 : decode prog_13_method_68_code 50 = .ok (.iconst 3, 1) := by decide +kernel
theorem dX11_build_51 : decode prog_13_method_68_code 51 = .ok (.if_icmp .ne 8, 3) := by decide +kernel
theorem dX11_build_54 : decode prog_13_method_68_code 54 = .ok (.aload_n 0, 1) := by decide +kernel
theorem dX11_build_55 : decode prog_13_method_68_code 55 = .ok (.iload_n 1, 1) := by decide +kernel
theorem dX11_build_56 : decode prog_13_method_68_code 56 = .ok (.invokevirtual 214, 3) := by decide +kernel
theorem dX11_build_59 : decode prog_13_method_68_code 59 = .ok (.iconst 0, 1) := by decide +kernel
theorem dX11_build_60 : decode prog_13_method_68_code 60 = .ok (.istore 4, 2) := by decide +kernel
theorem dX11_build_62 : decode prog_13_method_68_code 62 = .ok (.iload 4, 2) := by decide +kernel
theorem dX11_build_64 : decode prog_13_method_68_code 64 = .ok (.iload_n 2, 1) := by decide +kernel
theorem dX11_build_65 : decode prog_13_method_68_code 65 = .ok (.if_icmp .ge 111, 3) := by decide +kernel
theorem dX11_build_68 : decode prog_13_method_68_code 68 = .ok (.iload_n 3, 1) := by decide +kernel
theorem dX11_build_69 : decode prog_13_method_68_code 69 = .ok (.ifCond .ne 29, 3) := by decide +kernel
theorem dX11_build_72 : decode prog_13_method_68_code 72 = .ok (.iload 4, 2) := by decide +kernel
theorem dX11_build_74 : decode prog_13_method_68_code 74 = .ok (.istore 5, 2) := by decide +kernel
theorem dX11_build_76 : decode prog_13_method_68_code 76 = .ok (.iload 5, 2) := by decide +kernel
theorem dX11_build_78 : decode prog_13_method_68_code 78 = .ok (.ifCond .le 20, 3) := by decide +kernel
theorem dX11_build_81 : decode prog_13_method_68_code 81 = .ok (.aload_n 0, 1) := by decide +kernel
theorem dX11_build_82 : decode prog_13_method_68_code 82 = .ok (.iload_n 1, 1) := by decide +kernel
theorem dX11_build_83 : decode prog_13_method_68_code 83 = .ok (.iload 5, 2) := by decide +kernel
theorem dX11_build_85 : decode prog_13_method_68_code 85 = .ok (.iconst 1, 1) := by decide +kernel
theorem dX11_build_86 : decode prog_13_method_68_code 86 = .ok (.isub, 1) := by decide +kernel
theorem dX11_build_87 : decode prog_13_method_68_code 87 = .ok (.iload 5, 2) := by decide +kernel
theorem dX11_build_89 : decode prog_13_method_68_code 89 = .ok (.invokevirtual 217, 3) := by decide +kernel
theorem dX11_build_92 : decode prog_13_method_68_code 92 = .ok (.iinc 5 (-1), 3) := by decide +kernel
theorem dX11_build_95 : decode prog_13_method_68_code 95 = .ok (.goto (-19), 3) := by decide +kernel
theorem dX11_build_98 : decode prog_13_method_68_code 98 = .ok (.iload_n 3, 1) := by decide +kernel
theorem dX11_build_99 : decode prog_13_method_68_code 99 = .ok (.iconst 1, 1) := by decide +kernel
theorem dX11_build_100 : decode prog_13_method_68_code 100 = .ok (.if_icmp .ne 34, 3) := by decide +kernel
theorem dX11_build_103 : decode prog_13_method_68_code 103 = .ok (.iconst 0, 1) := by decide +kernel
theorem dX11_build_104 : decode prog_13_method_68_code 104 = .ok (.istore 5, 2) := by decide +kernel
theorem dX11_build_106 : decode prog_13_method_68_code 106 = .ok (.iload 5, 2) := by decide +kernel
theorem dX11_build_108 : decode prog_13_method_68_code 108 = .ok (.iload_n 2, 1) := by decide +kernel
theorem dX11_build_109 : decode prog_13_method_68_code 109 = .ok (.iconst 1, 1) := by decide +kernel
theorem dX11_build_110 : decode prog_13_method_68_code 110 = .ok (.isub, 1) := by decide +kernel
theorem dX11_build_111 : decode prog_13_method_68_code 111 = .ok (.iload 4, 2) := by decide +kernel
theorem dX11_build_113 : decode prog_13_method_68_code 113 = .ok (.isub, 1) := by decide +kernel
theorem dX11_build_114 : decode prog_13_method_68_code 114 = .ok (.if_icmp .ge 20, 3) := by decide +kernel
theorem dX11_build_117 : decode prog_13_method_68_code 117 = .ok (.aload_n 0, 1) := by decide +kernel
theorem dX11_build_118 : decode prog_13_method_68_code 118 = .ok (.iload_n 1, 1) := by decide +kernel
theorem dX11_build_119 : decode prog_13_method_68_code 119 = .ok (.iload 5, 2) := by decide +kernel
theorem dX11_build_121 : decode prog_13_method_68_code 121 = .ok (.iload 5, 2) := by decide +kernel
theorem dX11_build_123 : decode prog_13_method_68_code 123 = .ok (.iconst 1, 1) := by decide +kernel
theorem dX11_build_124 : decode prog_13_method_68_code 124 = .ok (.iadd, 1) := by decide +kernel
theorem dX11_build_125 : decode prog_13_method_68_code 125 = .ok (.invokevirtual 217, 3) := by decide +kernel
theorem dX11_build_128 : decode prog_13_method_68_code 128 = .ok (.iinc 5 1, 3) := by decide +kernel
theorem dX11_build_131 : decode prog_13_method_68_code 131 = .ok (.goto (-25), 3) := by decide +kernel
theorem dX11_build_134 : decode prog_13_method_68_code 134 = .ok (.iload_n 3, 1) := by decide +kernel
theorem dX11_build_135 : decode prog_13_method_68_code 135 = .ok (.iconst 2, 1) := by decide +kernel
theorem dX11_build_136 : decode prog_13_method_68_code 136 = .ok (.if_icmp .ne 34, 3) := by decide +kernel
theorem dX11_build_139 : decode prog_13_method_68_code 139 = .ok (.iload 4, 2) := by decide +kernel
theorem dX11_build_141 : decode prog_13_method_68_code 141 = .ok (.iconst 2, 1) := by decide +kernel
theorem dX11_build_142 : decode prog_13_method_68_code 142 = .ok (.irem, 1) := by decide +kernel
theorem dX11_build_143 : decode prog_13_method_68_code 143 = .ok (.istore 5, 2) := by decide +kernel
theorem dX11_build_145 : decode prog_13_method_68_code 145 = .ok (.iload 5, 2) := by decide +kernel
theorem dX11_build_147 : decode prog_13_method_68_code 147 = .ok (.iconst 1, 1) := by decide +kernel
theorem dX11_build_148 : decode prog_13_method_68_code 148 = .ok (.iadd, 1) := by decide +kernel
theorem dX11_build_149 : decode prog_13_method_68_code 149 = .ok (.iload_n 2, 1) := by decide +kernel
theorem dX11_build_150 : decode prog_13_method_68_code 150 = .ok (.if_icmp .ge 20, 3) := by decide +kernel
theorem dX11_build_153 : decode prog_13_method_68_code 153 = .ok (.aload_n 0, 1) := by decide +kernel
theorem dX11_build_154 : decode prog_13_method_68_code 154 = .ok (.iload_n 1, 1) := by decide +kernel
theorem dX11_build_155 : decode prog_13_method_68_code 155 = .ok (.iload 5, 2) := by decide +kernel
theorem dX11_build_157 : decode prog_13_method_68_code 157 = .ok (.iload 5, 2) := by decide +kernel
theorem dX11_build_159 : decode prog_13_method_68_code 159 = .ok (.iconst 1, 1) := by decide +kernel
theorem dX11_build_160 : decode prog_13_method_68_code 160 = .ok (.iadd, 1) := by decide +kernel
theorem dX11_build_161 : decode prog_13_method_68_code 161 = .ok (.invokevirtual 217, 3) := by decide +kernel
theorem dX11_build_164 : decode prog_13_method_68_code 164 = .ok (.iinc 5 2, 3) := by decide +kernel
theorem dX11_build_167 : decode prog_13_method_68_code 167 = .ok (.goto (-22), 3) := by decide +kernel
theorem dX11_build_170 : decode prog_13_method_68_code 170 = .ok (.iinc 4 1, 3) := by decide +kernel
theorem dX11_build_173 : decode prog_13_method_68_code 173 = .ok (.goto (-111), 3) := by decide +kernel
theorem dX11_build_176 : decode prog_13_method_68_code 176 = .ok (.aload_n 0, 1) := by decide +kernel
theorem dX11_build_177 : decode prog_13_method_68_code 177 = .ok (.getfield 13, 3) := by decide +kernel
theorem dX11_build_180 : decode prog_13_method_68_code 180 = .ok (.iload_n 1, 1) := by decide +kernel
theorem dX11_build_181 : decode prog_13_method_68_code 181 = .ok (.iaload, 1) := by decide +kernel
theorem dX11_build_182 : decode prog_13_method_68_code 182 = .ok (.ireturn, 1) := by decide +kernel
theorem sX11_build_145 {Q : Int → Hp → Prop} {h : Hp} {l1 l2 l3 l4 l5 : Int}
    (hP : (rj (l5 + 1)) ∧
    (((l5 + 1) ≥ l2) →
     (rj (l4 + 1)) ∧
     E 3 mX11_build 62 [(0, vr 103), (1, vi l1), (2, vi l2), (3, vi l3), (4, vi (l4 + 1))] [] h (qi Q)) ∧
    (((l5 + 1) < l2) →
     (rj (l5 + 1)) ∧
     CV 1 mX11_appends [vr 103, vi l1, vi l5, vi (l5 + 1)] h (fun h4 =>
      (rj (l5 + 2)) ∧
      E 3 mX11_build 145 [(0, vr 103), (1, vi l1), (2, vi l2), (3, vi l3), (4, vi l4), (5, vi (l5 + 2))] [] h4 (qi Q)))) :
    E 3 mX11_build 145 [(0, vr 103), (1, vi l1), (2, vi l2), (3, vi l3), (4, vi l4), (5, vi l5)] [] h (qi Q) := by
  obtain ⟨v1_0, hP⟩ := hP
  refine E_iload 5 dX11_build_145 rfl ?_
  refine E_iconst dX11_build_147 (rg_of rfl) ?_
  refine E_iadd dX11_build_148 (rgI v1_0) ?_
  refine E_iload_n 2 2 dX11_build_149 rfl rfl ?_
  refine E_icmp_ge 170 dX11_build_150 rfl (fun hc => ?_) (fun hc => ?_)
  · replace hP := hP.1 (hc)
    obtain ⟨v2_0, hP⟩ := hP
    refine E_iinc 4 dX11_build_170 rfl (rgI v2_0) (by decide) rfl ?_
    refine E_goto 62 dX11_build_173 rfl ?_
    exact E_sub [1, 2, 3, 4, 0] rfl hP
  · replace hP := hP.2 (by omega)
    obtain ⟨v3_0, hP⟩ := hP
    refine E_aload_n 0 0 dX11_build_153 rfl rfl ?_
    refine E_iload_n 1 1 dX11_build_154 rfl rfl ?_
    refine E_iload 5 dX11_build_155 rfl ?_
    refine E_iload 5 dX11_build_157 rfl ?_
    refine E_iconst dX11_build_159 (rg_of rfl) ?_
    refine E_iadd dX11_build_160 (rgI v3_0) ?_
    refine E_invVV [vi l1, vi l5, vi (l5 + 1)] dX11_build_161 fX11_appends lX11_217 ic_103 rfl (by decide) rfl rfl (Nat.le_of_ble_eq_true rfl) (CV_mono hP (fun h4 hP => ?_))
    obtain ⟨v5_0, hP⟩ := hP
    refine E_iinc 5 dX11_build_164 rfl (rgI v5_0) (by decide) rfl ?_
    refine E_goto 145 dX11_build_167 rfl ?_
    exact E_sub [1, 2, 3, 4, 5, 0] rfl hP
theorem sX11_build_106 {Q : Int → Hp → Prop} {h : Hp} {l1 l2 l3 l4 l5 : Int}
    (hP : (rj (l2 - 1) ∧ rj ((l2 - 1) - l4)) ∧
    ((l5 ≥ ((l2 - 1) - l4)) →
     ((l3 ≠ 2) →
      (rj (l4 + 1)) ∧
      E 3 mX11_build 62 [(0, vr 103), (1, vi l1), (2, vi l2), (3, vi l3), (4, vi (l4 + 1))] [] h (qi Q)) ∧
     ((l3 = 2) →
      E 3 mX11_build 145 [(0, vr 103), (1, vi l1), (2, vi l2), (3, vi l3), (4, vi l4), (5, vi (j_irem l4 2))] [] h (qi Q))) ∧
    ((l5 < ((l2 - 1) - l4)) →
     (rj (l5 + 1)) ∧
     CV 1 mX11_appends [vr 103, vi l1, vi l5, vi (l5 + 1)] h (fun h6 =>
      (rj (l5 + 1)) ∧
      E 3 mX11_build 106 [(0, vr 103), (1, vi l1), (2, vi l2), (3, vi l3), (4, vi l4), (5, vi (l5 + 1))] [] h6 (qi Q)))) :
    E 3 mX11_build 106 [(0, vr 103), (1, vi l1), (2, vi l2), (3, vi l3), (4, vi l4), (5, vi l5)] [] h (qi Q) := by
  obtain ⟨⟨v1_0, v1_1⟩, hP⟩ := hP
  refine E_iload 5 dX11_build_106 rfl ?_
  refine E_iload_n 2 2 dX11_build_108 rfl rfl ?_
  refine E_iconst dX11_build_109 (rg_of rfl) ?_
  refine E_isub dX11_build_110 (rgI v1_0) ?_
  refine E_iload 4 dX11_build_111 rfl ?_
  refine E_isub dX11_build_113 (rgI v1_1) ?_
  refine E_icmp_ge 134 dX11_build_114 rfl (fun hc => ?_) (fun hc => ?_)
  · replace hP := hP.1 (hc)
    refine E_iload_n 3 3 dX11_build_134 rfl rfl ?_
    refine E_iconst dX11_build_135 (rg_of rfl) ?_
    refine E_icmp_ne 170 dX11_build_136 rfl (fun hc => ?_) (fun hc => ?_)
    · replace hP := hP.1 (hc)
      obtain ⟨v3_0, hP⟩ := hP
      refine E_iinc 4 dX11_build_170 rfl (rgI v3_0) (by decide) rfl ?_
      refine E_goto 62 dX11_build_173 rfl ?_
      exact E_sub [1, 2, 3, 4, 0] rfl hP
    · replace hP := hP.2 (by omega)
      refine E_iload 4 dX11_build_139 rfl ?_
      refine E_iconst dX11_build_141 (rg_of rfl) ?_
      refine E_irem dX11_build_142 (by decide) ?_
      refine E_istore dX11_build_143 (by decide) rfl ?_
      exact E_sub [1, 2, 3, 4, 5, 0] rfl hP
  · replace hP := hP.2 (by omega)
    obtain ⟨v5_0, hP⟩ := hP
    refine E_aload_n 0 0 dX11_build_117 rfl rfl ?_
    refine E_iload_n 1 1 dX11_build_118 rfl rfl ?_
    refine E_iload 5 dX11_build_119 rfl ?_
    refine E_iload 5 dX11_build_121 rfl ?_
    refine E_iconst dX11_build_123 (rg_of rfl) ?_
    refine E_iadd dX11_build_124 (rgI v5_0) ?_
    refine E_invVV [vi l1, vi l5, vi (l5 + 1)] dX11_build_125 fX11_appends lX11_217 ic_103 rfl (by decide) rfl rfl (Nat.le_of_ble_eq_true rfl) (CV_mono hP (fun h6 hP => ?_))
    obtain ⟨v7_0, hP⟩ := hP
    refine E_iinc 5 dX11_build_128 rfl (rgI v7_0) (by decide) rfl ?_
    refine E_goto 106 dX11_build_131 rfl ?_
    exact E_sub [1, 2, 3, 4, 5, 0] rfl hP
theorem sX11_build_76 {Q : Int → Hp → Prop} {h : Hp} {l1 l2 l3 l4 l5 : Int}
    (hP : ((l5 ≤ 0) →
     ((l3 ≠ 1) →
      ((l3 ≠ 2) →
       (rj (l4 + 1)) ∧
       E 3 mX11_build 62 [(0, vr 103), (1, vi l1), (2, vi l2), (3, vi l3), (4, vi (l4 + 1))] [] h (qi Q)) ∧
      ((l3 = 2) →
       E 3 mX11_build 145 [(0, vr 103), (1, vi l1), (2, vi l2), (3, vi l3), (4, vi l4), (5, vi (j_irem l4 2))] [] h (qi Q))) ∧
     ((l3 = 1) →
      E 3 mX11_build 106 [(0, vr 103), (1, vi l1), (2, vi l2), (3, vi l3), (4, vi l4), (5, vi 0)] [] h (qi Q))) ∧
    ((l5 > 0) →
     (rj (l5 - 1)) ∧
     CV 1 mX11_appends [vr 103, vi l1, vi (l5 - 1), vi l5] h (fun h8 =>
      (rj (l5 + (-1))) ∧
      E 3 mX11_build 76 [(0, vr 103), (1, vi l1), (2, vi l2), (3, vi l3), (4, vi l4), (5, vi (l5 + (-1)))] [] h8 (qi Q)))) :
    E 3 mX11_build 76 [(0, vr 103), (1, vi l1), (2, vi l2), (3, vi l3), (4, vi l4), (5, vi l5)] [] h (qi Q) := by
  refine E_iload 5 dX11_build_76 rfl ?_
  refine E_if_le 98 dX11_build_78 rfl (fun hc => ?_) (fun hc => ?_)
  · replace hP := hP.1 (hc)
    refine E_iload_n 3 3 dX11_build_98 rfl rfl ?_
    refine E_iconst dX11_build_99 (rg_of rfl) ?_
    refine E_icmp_ne 134 dX11_build_100 rfl (fun hc => ?_) (fun hc => ?_)
    · replace hP := hP.1 (hc)
      refine E_iload_n 3 3 dX11_build_134 rfl rfl ?_
      refine E_iconst dX11_build_135 (rg_of rfl) ?_
      refine E_icmp_ne 170 dX11_build_136 rfl (fun hc => ?_) (fun hc => ?_)
      · replace hP := hP.1 (hc)
        obtain ⟨v4_0, hP⟩ := hP
        refine E_iinc 4 dX11_build_170 rfl (rgI v4_0) (by decide) rfl ?_
        refine E_goto 62 dX11_build_173 rfl ?_
        exact E_sub [1, 2, 3, 4, 0] rfl hP
      · replace hP := hP.2 (by omega)
        refine E_iload 4 dX11_build_139 rfl ?_
        refine E_iconst dX11_build_141 (rg_of rfl) ?_
        refine E_irem dX11_build_142 (by decide) ?_
        refine E_istore dX11_build_143 (by decide) rfl ?_
        exact E_sub [1, 2, 3, 4, 5, 0] rfl hP
    · replace hP := hP.2 (by omega)
      refine E_iconst dX11_build_103 (rg_of rfl) ?_
      refine E_istore dX11_build_104 (by decide) rfl ?_
      exact E_sub [1, 2, 3, 4, 5, 0] rfl hP
  · replace hP := hP.2 (by omega)
    obtain ⟨v7_0, hP⟩ := hP
    refine E_aload_n 0 0 dX11_build_81 rfl rfl ?_
    refine E_iload_n 1 1 dX11_build_82 rfl rfl ?_
    refine E_iload 5 dX11_build_83 rfl ?_
    refine E_iconst dX11_build_85 (rg_of rfl) ?_
    refine E_isub dX11_build_86 (rgI v7_0) ?_
    refine E_iload 5 dX11_build_87 rfl ?_
    refine E_invVV [vi l1, vi (l5 - 1), vi l5] dX11_build_89 fX11_appends lX11_217 ic_103 rfl (by decide) rfl rfl (Nat.le_of_ble_eq_true rfl) (CV_mono hP (fun h8 hP => ?_))
    obtain ⟨v9_0, hP⟩ := hP
    refine E_iinc 5 dX11_build_92 rfl (rgI v9_0) (by decide) rfl ?_
    refine E_goto 76 dX11_build_95 rfl ?_
    exact E_sub [1, 2, 3, 4, 5, 0] rfl hP
theorem sX11_build_62 {Q : Int → Hp → Prop} {h : Hp} {l1 l2 l3 l4 : Int}
    (hP : ((l4 ≥ l2) →
     (ix l1 4) ∧
     Q (h 105 l1) h) ∧
    ((l4 < l2) →
     ((l3 ≠ 0) →
      ((l3 ≠ 1) →
       ((l3 ≠ 2) →
        (rj (l4 + 1)) ∧
        E 3 mX11_build 62 [(0, vr 103), (1, vi l1), (2, vi l2), (3, vi l3), (4, vi (l4 + 1))] [] h (qi Q)) ∧
       ((l3 = 2) →
        E 3 mX11_build 145 [(0, vr 103), (1, vi l1), (2, vi l2), (3, vi l3), (4, vi l4), (5, vi (j_irem l4 2))] [] h (qi Q))) ∧
      ((l3 = 1) →
       E 3 mX11_build 106 [(0, vr 103), (1, vi l1), (2, vi l2), (3, vi l3), (4, vi l4), (5, vi 0)] [] h (qi Q))) ∧
     ((l3 = 0) →
      E 3 mX11_build 76 [(0, vr 103), (1, vi l1), (2, vi l2), (3, vi l3), (4, vi l4), (5, vi l4)] [] h (qi Q)))) :
    E 3 mX11_build 62 [(0, vr 103), (1, vi l1), (2, vi l2), (3, vi l3), (4, vi l4)] [] h (qi Q) := by
  refine E_iload 4 dX11_build_62 rfl ?_
  refine E_iload_n 2 2 dX11_build_64 rfl rfl ?_
  refine E_icmp_ge 176 dX11_build_65 rfl (fun hc => ?_) (fun hc => ?_)
  · replace hP := hP.1 (hc)
    obtain ⟨v2_0, hP⟩ := hP
    refine E_aload_n 0 0 dX11_build_176 rfl rfl ?_
    refine E_gR 105 1 dX11_build_177 FX11_13 ic_103 (by decide) ?_
    refine E_iload_n 1 1 dX11_build_180 rfl rfl ?_
    refine E_iaload dX11_build_181 ic_105 v2_0.1 v2_0.2 ?_
    exact E_retI dX11_build_182 rfl hP
  · replace hP := hP.2 (by omega)
    refine E_iload_n 3 3 dX11_build_68 rfl rfl ?_
    refine E_if_ne 98 dX11_build_69 rfl (fun hc => ?_) (fun hc => ?_)
    · replace hP := hP.1 (hc)
      refine E_iload_n 3 3 dX11_build_98 rfl rfl ?_
      refine E_iconst dX11_build_99 (rg_of rfl) ?_
      refine E_icmp_ne 134 dX11_build_100 rfl (fun hc => ?_) (fun hc => ?_)
      · replace hP := hP.1 (hc)
        refine E_iload_n 3 3 dX11_build_134 rfl rfl ?_
        refine E_iconst dX11_build_135 (rg_of rfl) ?_
        refine E_icmp_ne 170 dX11_build_136 rfl (fun hc => ?_) (fun hc => ?_)
        · replace hP := hP.1 (hc)
          obtain ⟨v6_0, hP⟩ := hP
          refine E_iinc 4 dX11_build_170 rfl (rgI v6_0) (by decide) rfl ?_
          refine E_goto 62 dX11_build_173 rfl ?_
          exact E_sub [1, 2, 3, 4, 0] rfl hP
        · replace hP := hP.2 (by omega)
          refine E_iload 4 dX11_build_139 rfl ?_
          refine E_iconst dX11_build_141 (rg_of rfl) ?_
          refine E_irem dX11_build_142 (by decide) ?_
          refine E_istore dX11_build_143 (by decide) rfl ?_
          exact E_sub [1, 2, 3, 4, 5, 0] rfl hP
      · replace hP := hP.2 (by omega)
        refine E_iconst dX11_build_103 (rg_of rfl) ?_
        refine E_istore dX11_build_104 (by decide) rfl ?_
        exact E_sub [1, 2, 3, 4, 5, 0] rfl hP
    · replace hP := hP.2 (by omega)
      refine E_iload 4 dX11_build_72 rfl ?_
      refine E_istore dX11_build_74 (by decide) rfl ?_
      exact E_sub [1, 2, 3, 4, 5, 0] rfl hP
theorem sX11_build {Q : Int → Hp → Prop} {h : Hp} {l1 l2 l3 : Int}
    (hP : ((l1 ≥ 0 ∧ l1 ≤ 3) →
     ((l2 < 2 ∨ l2 > 8) →
      Q (-2) h) ∧
     ((l2 ≥ 2 ∧ l2 ≤ 8) →
      ((l3 ≥ 0 ∧ l3 ≤ 3) →
       CV 0 mX11_remembers [vr 103] h (fun h6 =>
        (ix l1 4) ∧
        ((l3 ≠ 3) →
         E 3 mX11_build 62 [(0, vr 103), (1, vi l1), (2, vi l2), (3, vi l3), (4, vi 0)] [] (up (up h6 104 l1 l2) 105 l1 0) (qi Q)) ∧
        ((l3 = 3) →
         CV 2 mX11_merges [vr 103, vi l1] (up (up h6 104 l1 l2) 105 l1 0) (fun h10 =>
          E 3 mX11_build 62 [(0, vr 103), (1, vi l1), (2, vi l2), (3, vi l3), (4, vi 0)] [] h10 (qi Q))))) ∧
      ((l3 < 0 ∨ l3 > 3) →
       Q (-2) h))) ∧
    ((l1 < 0 ∨ l1 > 3) →
     Q (-1) h)) :
    CI 3 mX11_build [vr 103, vi l1, vi l2, vi l3] h Q := by
  refine CI_of_E fX11_build.1 rfl (Nat.le_of_ble_eq_true rfl) ?_
  show E 3 mX11_build 0 [(0, vr 103), (1, vi l1), (2, vi l2), (3, vi l3)] [] h (qi Q)
  refine E_iload_n 1 1 dX11_build_0 rfl rfl ?_
  refine E_invSI [vi l1] dX11_build_1 fX11_isNet lX11_88 (by decide) rfl rfl (Nat.le_of_ble_eq_true rfl) (sX11_isNet (h := h) (l0 := l1) ?_)
  refine E_if_ne 9 dX11_build_4 rfl (fun hc => ?_) (fun hc => ?_)
  · replace hP := hP.1 (by have := ite1' hc; omega)
    refine E_iload_n 2 2 dX11_build_9 rfl rfl ?_
    refine E_iconst dX11_build_10 (rg_of rfl) ?_
    refine E_bipush dX11_build_11 (by decide) ?_
    refine E_invSI [vi l2, vi 2, vi 8] dX11_build_13 fX11_isIn lX11_80 (by decide) rfl rfl (Nat.le_of_ble_eq_true rfl) (sX11_isIn (h := h) (l0 := l2) (l1 := 2) (l2 := 8) ?_)
    refine E_if_eq 28 dX11_build_16 rfl (fun hc => ?_) (fun hc => ?_)
    · replace hP := hP.1 (by have := ite0 hc; omega)
      refine E_bipush dX11_build_28 (by decide) ?_
      exact E_retI dX11_build_30 rfl hP
    · replace hP := hP.2 (by have := ite1 hc; omega)
      refine E_iload_n 3 3 dX11_build_19 rfl rfl ?_
      refine E_iconst dX11_build_20 (rg_of rfl) ?_
      refine E_iconst dX11_build_21 (rg_of rfl) ?_
      refine E_invSI [vi l3, vi 0, vi 3] dX11_build_22 fX11_isIn lX11_80 (by decide) rfl rfl (Nat.le_of_ble_eq_true rfl) (sX11_isIn (h := h) (l0 := l3) (l1 := 0) (l2 := 3) ?_)
      refine E_if_ne 31 dX11_build_25 rfl (fun hc => ?_) (fun hc => ?_)
      · replace hP := hP.1 (by have := ite1' hc; omega)
        refine E_aload_n 0 0 dX11_build_31 rfl rfl ?_
        refine E_invVV [] dX11_build_32 fX11_remembers lX11_92 ic_103 rfl (by decide) rfl rfl (Nat.le_of_ble_eq_true rfl) (CV_mono hP (fun h6 hP => ?_))
        obtain ⟨v7_0, hP⟩ := hP
        refine E_aload_n 0 0 dX11_build_35 rfl rfl ?_
        refine E_gR 104 0 dX11_build_36 FX11_9 ic_103 (by decide) ?_
        refine E_iload_n 1 1 dX11_build_39 rfl rfl ?_
        refine E_iload_n 2 2 dX11_build_40 rfl rfl ?_
        refine E_iastore dX11_build_41 ic_104 v7_0.1 v7_0.2 ?_
        refine E_aload_n 0 0 dX11_build_42 rfl rfl ?_
        refine E_gR 105 1 dX11_build_43 FX11_13 ic_103 (by decide) ?_
        refine E_iload_n 1 1 dX11_build_46 rfl rfl ?_
        refine E_iconst dX11_build_47 (rg_of rfl) ?_
        refine E_iastore dX11_build_48 ic_105 v7_0.1 v7_0.2 ?_
        refine E_iload_n 3 3 dX11_build_49 rfl rfl ?_
        refine E_iconst dX11_build_50 (rg_of rfl) ?_
        refine E_icmp_ne 59 dX11_build_51 rfl (fun hc => ?_) (fun hc => ?_)
        · replace hP := hP.1 (hc)
          refine E_iconst dX11_build_59 (rg_of rfl) ?_
          refine E_istore dX11_build_60 (by decide) rfl ?_
          exact E_sub [1, 2, 3, 4, 0] rfl hP
        · replace hP := hP.2 (by omega)
          refine E_aload_n 0 0 dX11_build_54 rfl rfl ?_
          refine E_iload_n 1 1 dX11_build_55 rfl rfl ?_
          refine E_invVV [vi l1] dX11_build_56 fX11_merges lX11_214 ic_103 rfl (by decide) rfl rfl (Nat.le_of_ble_eq_true rfl) (CV_mono hP (fun h10 hP => ?_))
          refine E_iconst dX11_build_59 (rg_of rfl) ?_
          refine E_istore dX11_build_60 (by decide) rfl ?_
          exact E_sub [1, 2, 3, 4, 0] rfl hP
      · replace hP := hP.2 (by have := ite0 hc; omega)
        refine E_bipush dX11_build_28 (by decide) ?_
        exact E_retI dX11_build_30 rfl hP
  · replace hP := hP.2 (by have := ite0 hc; omega)
    refine E_iconst dX11_build_7 (rg_of rfl) ?_
    exact E_retI dX11_build_8 rfl hP
theorem dX11_isMerger_0 : decode prog_13_method_70_code 0 = .ok (.iload_n 1, 1) := by decide +kernel
theorem dX11_isMerger_1 : decode prog_13_method_70_code 1 = .ok (.invokestatic 88, 3) := by decide +kernel
theorem dX11_isMerger_4 : decode prog_13_method_70_code 4 = .ok (.ifCond .ne 5, 3) := by decide +kernel
theorem dX11_isMerger_7 : decode prog_13_method_70_code 7 = .ok (.iconst (-1), 1) := by decide +kernel
theorem dX11_isMerger_8 : decode prog_13_method_70_code 8 = .ok (.ireturn, 1) := by decide +kernel
theorem dX11_isMerger_9 : decode prog_13_method_70_code 9 = .ok (.iload_n 2, 1) := by decide +kernel
theorem dX11_isMerger_10 : decode prog_13_method_70_code 10 = .ok (.iconst 0, 1) := by decide +kernel
theorem dX11_isMerger_11 : decode prog_13_method_70_code 11 = .ok (.aload_n 0, 1) := by decide +kernel
theorem dX11_isMerger_12 : decode prog_13_method_70_code 12 = .ok (.getfield 9, 3) := by decide +kernel
theorem dX11_isMerger_15 : decode prog_13_method_70_code 15 = .ok (.iload_n 1, 1) := by decide +kernel
theorem dX11_isMerger_16 : decode prog_13_method_70_code 16 = .ok (.iaload, 1) := by decide +kernel
theorem dX11_isMerger_17 : decode prog_13_method_70_code 17 = .ok (.invokestatic 80, 3) := by decide +kernel
theorem dX11_isMerger_20 : decode prog_13_method_70_code 20 = .ok (.ifCond .ne 6, 3) := by decide +kernel
theorem dX11_isMerger_23 : decode prog_13_method_70_code 23 = .ok (.bipush (-2), 2) := by decide +kernel
theorem dX11_isMerger_25 : decode prog_13_method_70_code 25 = .ok (.ireturn, 1) := by decide +kernel
theorem dX11_isMerger_26 : decode prog_13_method_70_code 26 = .ok (.iconst 0, 1) := by decide +kernel
theorem dX11_isMerger_27 : decode prog_13_method_70_code 27 = .ok (.istore_n 3, 1) := by decide +kernel
theorem dX11_isMerger_28 : decode prog_13_method_70_code 28 = .ok (.iload_n 3, 1) := by decide +kernel
theorem dX11_isMerger_29 : decode prog_13_method_70_code 29 = .ok (.iconst 1, 1) := by decide +kernel
theorem dX11_isMerger_30 : decode prog_13_method_70_code 30 = .ok (.aload_n 0, 1) := by decide +kernel
theorem dX11_isMerger_31 : decode prog_13_method_70_code 31 = .ok (.getfield 9, 3) := by decide +kernel
theorem dX11_isMerger_34 : decode prog_13_method_70_code 34 = .ok (.iload_n 1, 1) := by decide +kernel
theorem dX11_isMerger_35 : decode prog_13_method_70_code 35 = .ok (.iaload, 1) := by decide +kernel
theorem dX11_isMerger_36 : decode prog_13_method_70_code 36 = .ok (.ishl, 1) := by decide +kernel
theorem dX11_isMerger_37 : decode prog_13_method_70_code 37 = .ok (.if_icmp .ge 67, 3) := by decide +kernel
theorem dX11_isMerger_40 : decode prog_13_method_70_code 40 = .ok (.iload_n 2, 1) := by decide +kernel
theorem dX11_isMerger_41 : decode prog_13_method_70_code 41 = .ok (.iload_n 3, 1) := by decide +kernel
theorem dX11_isMerger_42 : decode prog_13_method_70_code 42 = .ok (.invokestatic 153, 3) := by decide +kernel
theorem dX11_isMerger_45 : decode prog_13_method_70_code 45 = .ok (.ifCond .eq 24, 3) := by decide +kernel
theorem dX11_isMerger_48 : decode prog_13_method_70_code 48 = .ok (.aload_n 0, 1) := by decide +kernel
theorem dX11_isMerger_49 : decode prog_13_method_70_code 49 = .ok (.getfield 9, 3) := by decide +kernel
theorem dX11_isMerger_52 : decode prog_13_method_70_code 52 = .ok (.iload_n 1, 1) := by decide +kernel
theorem dX11_isMerger_53 : decode prog_13_method_70_code 53 = .ok (.iaload, 1) := by decide +kernel
theorem dX11_isMerger_54 : decode prog_13_method_70_code 54 = .ok (.iload_n 2, 1) := by decide +kernel
theorem dX11_isMerger_55 : decode prog_13_method_70_code 55 = .ok (.isub, 1) := by decide +kernel
theorem dX11_isMerger_56 : decode prog_13_method_70_code 56 = .ok (.iload_n 3, 1) := by decide +kernel
theorem dX11_isMerger_57 : decode prog_13_method_70_code 57 = .ok (.iload_n 2, 1) := by decide +kernel
theorem dX11_isMerger_58 : decode prog_13_method_70_code 58 = .ok (.ishr, 1) := by decide +kernel
theorem dX11_isMerger_59 : decode prog_13_method_70_code 59 = .ok (.invokestatic 153, 3) := by decide +kernel
theorem dX11_isMerger_62 : decode prog_13_method_70_code 62 = .ok (.ifCond .eq 7, 3) := by decide +kernel
theorem dX11_isMerger_65 : decode prog_13_method_70_code 65 = .ok (.iconst 1, 1) := by decide +kernel
theorem dX11_isMerger_66 : decode prog_13_method_70_code 66 = .ok (.goto 4, 3) := by decide +kernel
theorem dX11_isMerger_69 : decode prog_13_method_70_code 69 = .ok (.iconst 0, 1) := by decide +kernel
theorem dX11_isMerger_70 : decode prog_13_method_70_code 70 = .ok (.istore 4, 2) := by decide +kernel
theorem dX11_isMerger_72 : decode prog_13_method_70_code 72 = .ok (.iload 4, 2) := by decide +kernel
theorem dX11_isMerger_74 : decode prog_13_method_70_code 74 = .ok (.ifCond .eq 24, 3) := by decide +kernel
theorem dX11_isMerger_77 : decode prog_13_method_70_code 77 = .ok (.aload_n 0, 1) := by decide +kernel
theorem dX11_isMerger_78 : decode prog_13_method_70_code 78 = .ok (.getfield 9, 3) := by decide +kernel
theorem dX11_isMerger_81 : decode prog_13_method_70_code 81 = .ok (.iload_n 1, 1) := by decide +kernel
theorem dX11_isMerger_82 : decode prog_13_method_70_code 82 = .ok (.iaload, 1) := by decide +kernel
theorem dX11_isMerger_83 : decode prog_13_method_70_code 83 = .ok (.aload_n 0, 1) := by decide +kernel
theorem dX11_isMerger_84 : decode prog_13_method_70_code 84 = .ok (.iload_n 1, 1) := by decide +kernel
theorem dX11_isMerger_85 : decode prog_13_method_70_code 85 = .ok (.iload_n 3, 1) := by decide +kernel
theorem dX11_isMerger_86 : decode prog_13_method_70_code 86 = .ok (.iconst (-1), 1) := by decide +kernel
theorem dX11_isMerger_87 : decode prog_13_method_70_code 87 = .ok (.invokevirtual 149, 3) := by decide +kernel
theorem dX11_isMerger_90 : decode prog_13_method_70_code 90 = .ok (.invokestatic 153, 3) := by decide +kernel
theorem dX11_isMerger_93 : decode prog_13_method_70_code 93 = .ok (.ifCond .ne 5, 3) := by decide +kernel
theorem dX11_isMerger_96 : decode prog_13_method_70_code 96 = .ok (.iconst 0, 1) := by decide +kernel
theorem dX11_isMerger_97 : decode prog_13_method_70_code 97 = .ok (.ireturn, 1) := by decide +kernel
theorem dX11_isMerger_98 : decode prog_13_method_70_code 98 = .ok (.iinc 3 1, 3) := by decide +kernel
theorem dX11_isMerger_101 : decode prog_13_method_70_code 101 = .ok (.goto (-73), 3) := by decide +kernel
theorem dX11_isMerger_104 : decode prog_13_method_70_code 104 = .ok (.iconst 1, 1) := by decide +kernel
theorem dX11_isMerger_105 : decode prog_13_method_70_code 105 = .ok (.ireturn, 1) := by decide +kernel
theorem sX11_isMerger_70 {Q : Int → Hp → Prop} {h : Hp} {l1 l2 l3 k0 : Int}
    (hP : ((k0 = 0) →
     (rj (l3 + 1)) ∧
     E 2 mX11_isMerger 28 [(0, vr 103), (1, vi l1), (2, vi l2), (3, vi (l3 + 1))] [] h (qi Q)) ∧
    ((k0 ≠ 0) →
     (ix l1 4) ∧
     CI 0 mX11_makes [vr 103, vi l1, vi l3, vi (-1)] h (fun r5 h4 =>
      CI 0 mX11_isSorted [vi (h 104 l1), vi r5] h4 (fun r8 h7 =>
       ((r8 ≠ 0) →
        (rj (l3 + 1)) ∧
        E 2 mX11_isMerger 28 [(0, vr 103), (1, vi l1), (2, vi l2), (3, vi (l3 + 1))] [] h7 (qi Q)) ∧
       ((r8 = 0) →
        Q 0 h7))))) :
    E 2 mX11_isMerger 70 [(0, vr 103), (1, vi l1), (2, vi l2), (3, vi l3)] [vi k0] h (qi Q) := by
  refine E_istore dX11_isMerger_70 (by decide) rfl ?_
  refine E_iload 0 dX11_isMerger_72 rfl ?_
  refine E_if_eq 98 dX11_isMerger_74 rfl (fun hc => ?_) (fun hc => ?_)
  · replace hP := hP.1 (hc)
    obtain ⟨v2_0, hP⟩ := hP
    refine E_iinc 4 dX11_isMerger_98 rfl (rgI v2_0) (by decide) rfl ?_
    refine E_goto 28 dX11_isMerger_101 rfl ?_
    exact E_sub [2, 3, 4, 0] rfl hP
  · replace hP := hP.2 (by omega)
    obtain ⟨v3_0, hP⟩ := hP
    refine E_aload_n 1 0 dX11_isMerger_77 rfl rfl ?_
    refine E_gR 104 0 dX11_isMerger_78 FX11_9 ic_103 (by decide) ?_
    refine E_iload_n 2 1 dX11_isMerger_81 rfl rfl ?_
    refine E_iaload dX11_isMerger_82 ic_104 v3_0.1 v3_0.2 ?_
    refine E_aload_n 1 0 dX11_isMerger_83 rfl rfl ?_
    refine E_iload_n 2 1 dX11_isMerger_84 rfl rfl ?_
    refine E_iload_n 4 3 dX11_isMerger_85 rfl rfl ?_
    refine E_iconst dX11_isMerger_86 (rg_of rfl) ?_
    refine E_invVI [vi l1, vi l3, vi (-1)] dX11_isMerger_87 fX11_makes lX11_149 ic_103 rfl (by decide) rfl rfl (Nat.le_of_ble_eq_true rfl) (CI_mono hP (fun r5 h4 hP => ?_))
    refine E_invSI [vi (h 104 l1), vi r5] dX11_isMerger_90 fX11_isSorted lX11_153 (by decide) rfl rfl (Nat.le_of_ble_eq_true rfl) (CI_mono hP (fun r8 h7 hP => ?_))
    refine E_if_ne 98 dX11_isMerger_93 rfl (fun hc => ?_) (fun hc => ?_)
    · replace hP := hP.1 (hc)
      obtain ⟨v10_0, hP⟩ := hP
      refine E_iinc 4 dX11_isMerger_98 rfl (rgI v10_0) (by decide) rfl ?_
      refine E_goto 28 dX11_isMerger_101 rfl ?_
      exact E_sub [2, 3, 4, 0] rfl hP
    · replace hP := hP.2 (by omega)
      refine E_iconst dX11_isMerger_96 (rg_of rfl) ?_
      exact E_retI dX11_isMerger_97 rfl hP
theorem sX11_isMerger_28 {Q : Int → Hp → Prop} {h : Hp} {l1 l2 l3 : Int}
    (hP : (ix l1 4) ∧
    ((l3 ≥ (j_ishl 1 (h 104 l1))) →
     Q 1 h) ∧
    ((l3 < (j_ishl 1 (h 104 l1))) →
     CI 0 mX11_isSorted [vi l2, vi l3] h (fun r5 h4 =>
      ((r5 = 0) →
       E 2 mX11_isMerger 70 [(0, vr 103), (1, vi l1), (2, vi l2), (3, vi l3)] [vi 0] h4 (qi Q)) ∧
      ((r5 ≠ 0) →
       (ix l1 4 ∧ rj ((h4 104 l1) - l2)) ∧
       CI 0 mX11_isSorted [vi ((h4 104 l1) - l2), vi (j_ishr l3 l2)] h4 (fun r10 h9 =>
        E 2 mX11_isMerger 70 [(0, vr 103), (1, vi l1), (2, vi l2), (3, vi l3)] [vi (if r10 ≠ 0 then (1 : Int) else 0)] h9 (qi Q)))))) :
    E 2 mX11_isMerger 28 [(0, vr 103), (1, vi l1), (2, vi l2), (3, vi l3)] [] h (qi Q) := by
  obtain ⟨v1_0, hP⟩ := hP
  refine E_iload_n 3 3 dX11_isMerger_28 rfl rfl ?_
  refine E_iconst dX11_isMerger_29 (rg_of rfl) ?_
  refine E_aload_n 0 0 dX11_isMerger_30 rfl rfl ?_
  refine E_gR 104 0 dX11_isMerger_31 FX11_9 ic_103 (by decide) ?_
  refine E_iload_n 1 1 dX11_isMerger_34 rfl rfl ?_
  refine E_iaload dX11_isMerger_35 ic_104 v1_0.1 v1_0.2 ?_
  refine E_ishl dX11_isMerger_36 ?_
  refine E_icmp_ge 104 dX11_isMerger_37 rfl (fun hc => ?_) (fun hc => ?_)
  · replace hP := hP.1 (hc)
    refine E_iconst dX11_isMerger_104 (rg_of rfl) ?_
    exact E_retI dX11_isMerger_105 rfl hP
  · replace hP := hP.2 (by omega)
    refine E_iload_n 2 2 dX11_isMerger_40 rfl rfl ?_
    refine E_iload_n 3 3 dX11_isMerger_41 rfl rfl ?_
    refine E_invSI [vi l2, vi l3] dX11_isMerger_42 fX11_isSorted lX11_153 (by decide) rfl rfl (Nat.le_of_ble_eq_true rfl) (CI_mono hP (fun r5 h4 hP => ?_))
    refine E_if_eq 69 dX11_isMerger_45 rfl (fun hc => ?_) (fun hc => ?_)
    · replace hP := hP.1 (hc)
      refine E_iconst dX11_isMerger_69 (rg_of rfl) ?_
      exact hP
    · replace hP := hP.2 (by omega)
      obtain ⟨⟨v8_0, v8_1⟩, hP⟩ := hP
      refine E_aload_n 0 0 dX11_isMerger_48 rfl rfl ?_
      refine E_gR 104 0 dX11_isMerger_49 FX11_9 ic_103 (by decide) ?_
      refine E_iload_n 1 1 dX11_isMerger_52 rfl rfl ?_
      refine E_iaload dX11_isMerger_53 ic_104 v8_0.1 v8_0.2 ?_
      refine E_iload_n 2 2 dX11_isMerger_54 rfl rfl ?_
      refine E_isub dX11_isMerger_55 (rgI v8_1) ?_
      refine E_iload_n 3 3 dX11_isMerger_56 rfl rfl ?_
      refine E_iload_n 2 2 dX11_isMerger_57 rfl rfl ?_
      refine E_ishr dX11_isMerger_58 ?_
      refine E_invSI [vi ((h4 104 l1) - l2), vi (j_ishr l3 l2)] dX11_isMerger_59 fX11_isSorted lX11_153 (by decide) rfl rfl (Nat.le_of_ble_eq_true rfl) (CI_mono hP (fun r10 h9 hP => ?_))
      have hJ : E 2 mX11_isMerger 70 [(0, vr 103), (1, vi l1), (2, vi l2), (3, vi l3)] [vi (if r10 ≠ 0 then (1 : Int) else 0)] h9 (qi Q) := by
        exact hP
      refine E_if_eq 69 dX11_isMerger_62 rfl (fun hc => ?_) (fun hc => ?_)
      · have hp62 := (hc : r10 = 0)
        refine E_iconst dX11_isMerger_69 (rg_of rfl) ?_
        exact E_top (if_neg (by omega)).symm hJ
      · have hp62 := (by omega : r10 ≠ 0)
        refine E_iconst dX11_isMerger_65 (rg_of rfl) ?_
        refine E_goto 70 dX11_isMerger_66 rfl ?_
        exact E_top (if_pos (by omega)).symm hJ
theorem sX11_isMerger {Q : Int → Hp → Prop} {h : Hp} {l1 l2 : Int}
    (hP : ((l1 ≥ 0 ∧ l1 ≤ 3) →
     (ix l1 4) ∧
     ((l2 ≥ 0 ∧ l2 ≤ (h 104 l1)) →
      E 2 mX11_isMerger 28 [(0, vr 103), (1, vi l1), (2, vi l2), (3, vi 0)] [] h (qi Q)) ∧
     ((l2 < 0 ∨ l2 > (h 104 l1)) →
      Q (-2) h)) ∧
    ((l1 < 0 ∨ l1 > 3) →
     Q (-1) h)) :
    CI 2 mX11_isMerger [vr 103, vi l1, vi l2] h Q := by
  refine CI_of_E fX11_isMerger.1 rfl (Nat.le_of_ble_eq_true rfl) ?_
  show E 2 mX11_isMerger 0 [(0, vr 103), (1, vi l1), (2, vi l2)] [] h (qi Q)
  refine E_iload_n 1 1 dX11_isMerger_0 rfl rfl ?_
  refine E_invSI [vi l1] dX11_isMerger_1 fX11_isNet lX11_88 (by decide) rfl rfl (Nat.le_of_ble_eq_true rfl) (sX11_isNet (h := h) (l0 := l1) ?_)
  refine E_if_ne 9 dX11_isMerger_4 rfl (fun hc => ?_) (fun hc => ?_)
  · replace hP := hP.1 (by have := ite1' hc; omega)
    obtain ⟨v2_0, hP⟩ := hP
    refine E_iload_n 2 2 dX11_isMerger_9 rfl rfl ?_
    refine E_iconst dX11_isMerger_10 (rg_of rfl) ?_
    refine E_aload_n 0 0 dX11_isMerger_11 rfl rfl ?_
    refine E_gR 104 0 dX11_isMerger_12 FX11_9 ic_103 (by decide) ?_
    refine E_iload_n 1 1 dX11_isMerger_15 rfl rfl ?_
    refine E_iaload dX11_isMerger_16 ic_104 v2_0.1 v2_0.2 ?_
    refine E_invSI [vi l2, vi 0, vi (h 104 l1)] dX11_isMerger_17 fX11_isIn lX11_80 (by decide) rfl rfl (Nat.le_of_ble_eq_true rfl) (sX11_isIn (h := h) (l0 := l2) (l1 := 0) (l2 := (h 104 l1)) ?_)
    refine E_if_ne 26 dX11_isMerger_20 rfl (fun hc => ?_) (fun hc => ?_)
    · replace hP := hP.1 (by have := ite1' hc; omega)
      refine E_iconst dX11_isMerger_26 (rg_of rfl) ?_
      refine E_istore_n dX11_isMerger_27 rfl (by decide) rfl ?_
      exact E_sub [1, 2, 3, 0] rfl hP
    · replace hP := hP.2 (by have := ite0 hc; omega)
      refine E_bipush dX11_isMerger_23 (by decide) ?_
      exact E_retI dX11_isMerger_25 rfl hP
  · replace hP := hP.2 (by have := ite0 hc; omega)
    refine E_iconst dX11_isMerger_7 (rg_of rfl) ?_
    exact E_retI dX11_isMerger_8 rfl hP
