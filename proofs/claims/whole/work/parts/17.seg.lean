theorem dX8_readInto_0 : decode prog_10_method_4_code 0 = .ok (.iconst 0, 1) := by decide +kernel
theorem dX8_readInto_1 : decode prog_10_method_4_code 1 = .ok (.istore_n 2, 1) := by decide +kernel
theorem dX8_readInto_2 : decode prog_10_method_4_code 2 = .ok (.iconst 0, 1) := by decide +kernel
theorem dX8_readInto_3 : decode prog_10_method_4_code 3 = .ok (.istore_n 3, 1) := by decide +kernel
theorem dX8_readInto_4 : decode prog_10_method_4_code 4 = .ok (.iconst 0, 1) := by decide +kernel
theorem dX8_readInto_5 : decode prog_10_method_4_code 5 = .ok (.istore 4, 2) := by decide +kernel
theorem dX8_readInto_7 : decode prog_10_method_4_code 7 = .ok (.iconst 0, 1) := by decide +kernel
theorem dX8_readInto_8 : decode prog_10_method_4_code 8 = .ok (.istore 5, 2) := by decide +kernel
theorem dX8_readInto_10 : decode prog_10_method_4_code 10 = .ok (.iload 5, 2) := by decide +kernel
theorem dX8_readInto_12 : decode prog_10_method_4_code 12 = .ok (.aload_n 0, 1) := by decide +kernel
theorem dX8_readInto_13 : decode prog_10_method_4_code 13 = .ok (.getfield 15, 3) := by decide +kernel
theorem dX8_readInto_16 : decode prog_10_method_4_code 16 = .ok (.if_icmp .ge 102, 3) := by decide +kernel
theorem dX8_readInto_19 : decode prog_10_method_4_code 19 = .ok (.aload_n 0, 1) := by decide +kernel
theorem dX8_readInto_20 : decode prog_10_method_4_code 20 = .ok (.getfield 9, 3) := by decide +kernel
theorem dX8_readInto_23 : decode prog_10_method_4_code 23 = .ok (.iload 5, 2) := by decide +kernel
theorem dX8_readInto_25 : decode prog_10_method_4_code 25 = .ok (.iaload, 1) := by decide +kernel
theorem dX8_readInto_26 : decode prog_10_method_4_code 26 = .ok (.istore 6, 2) := by decide +kernel
theorem dX8_readInto_28 : decode prog_10_method_4_code 28 = .ok (.iload 6, 2) := by decide +kernel
theorem dX8_readInto_30 : decode prog_10_method_4_code 30 = .ok (.bipush 48, 2) := by decide +kernel
theorem dX8_readInto_32 : decode prog_10_method_4_code 32 = .ok (.isub, 1) := by decide +kernel
theorem dX8_readInto_33 : decode prog_10_method_4_code 33 = .ok (.istore 7, 2) := by decide +kernel
theorem dX8_readInto_35 : decode prog_10_method_4_code 35 = .ok (.iload_n 2, 1) := by decide +kernel
theorem dX8_readInto_36 : decode prog_10_method_4_code 36 = .ok (.iload 6, 2) := by decide +kernel
theorem dX8_readInto_38 : decode prog_10_method_4_code 38 = .ok (.aload_n 1, 1) := by decide +kernel
theorem dX8_readInto_39 : decode prog_10_method_4_code 39 = .ok (.iload_n 3, 1) := by decide +kernel
theorem dX8_readInto_40 : decode prog_10_method_4_code 40 = .ok (.invokestatic 19, 3) := by decide +kernel
theorem dX8_readInto_43 : decode prog_10_method_4_code 43 = .ok (.ifCond .ne 6, 3) := by decide +kernel
theorem dX8_readInto_46 : decode prog_10_method_4_code 46 = .ok (.iload 5, 2) := by decide +kernel
theorem dX8_readInto_48 : decode prog_10_method_4_code 48 = .ok (.ireturn, 1) := by decide +kernel
theorem dX8_readInto_49 : decode prog_10_method_4_code 49 = .ok (.iload_n 2, 1) := by decide +kernel
theorem dX8_readInto_50 : decode prog_10_method_4_code 50 = .ok (.ifCond .ne 17, 3) := by decide +kernel
theorem dX8_readInto_53 : decode prog_10_method_4_code 53 = .ok (.iload 7, 2) := by decide +kernel
theorem dX8_readInto_55 : decode prog_10_method_4_code 55 = .ok (.istore 4, 2) := by decide +kernel
theorem dX8_readInto_57 : decode prog_10_method_4_code 57 = .ok (.iload_n 3, 1) := by decide +kernel
theorem dX8_readInto_58 : decode prog_10_method_4_code 58 = .ok (.iconst 1, 1) := by decide +kernel
theorem dX8_readInto_59 : decode prog_10_method_4_code 59 = .ok (.iload 7, 2) := by decide +kernel
theorem dX8_readInto_61 : decode prog_10_method_4_code 61 = .ok (.ishl, 1) := by decide +kernel
theorem dX8_readInto_62 : decode prog_10_method_4_code 62 = .ok (.ior, 1) := by decide +kernel
theorem dX8_readInto_63 : decode prog_10_method_4_code 63 = .ok (.istore_n 3, 1) := by decide +kernel
theorem dX8_readInto_64 : decode prog_10_method_4_code 64 = .ok (.goto 35, 3) := by decide +kernel
theorem dX8_readInto_67 : decode prog_10_method_4_code 67 = .ok (.iload_n 2, 1) := by decide +kernel
theorem dX8_readInto_68 : decode prog_10_method_4_code 68 = .ok (.iconst 2, 1) := by decide +kernel
theorem dX8_readInto_69 : decode prog_10_method_4_code 69 = .ok (.if_icmp .ne 21, 3) := by decide +kernel
theorem dX8_readInto_72 : decode prog_10_method_4_code 72 = .ok (.aload_n 1, 1) := by decide +kernel
theorem dX8_readInto_73 : decode prog_10_method_4_code 73 = .ok (.iload 4, 2) := by decide +kernel
theorem dX8_readInto_75 : decode prog_10_method_4_code 75 = .ok (.iload 7, 2) := by decide +kernel
theorem dX8_readInto_77 : decode prog_10_method_4_code 77 = .ok (.invokevirtual 23, 3) := by decide +kernel
theorem dX8_readInto_80 : decode prog_10_method_4_code 80 = .ok (.iload_n 3, 1) := by decide +kernel
theorem dX8_readInto_81 : decode prog_10_method_4_code 81 = .ok (.iconst 1, 1) := by decide +kernel
theorem dX8_readInto_82 : decode prog_10_method_4_code 82 = .ok (.iload 7, 2) := by decide +kernel
theorem dX8_readInto_84 : decode prog_10_method_4_code 84 = .ok (.ishl, 1) := by decide +kernel
theorem dX8_readInto_85 : decode prog_10_method_4_code 85 = .ok (.ior, 1) := by decide +kernel
theorem dX8_readInto_86 : decode prog_10_method_4_code 86 = .ok (.istore_n 3, 1) := by decide +kernel
theorem dX8_readInto_87 : decode prog_10_method_4_code 87 = .ok (.goto 12, 3) := by decide +kernel
theorem dX8_readInto_90 : decode prog_10_method_4_code 90 = .ok (.iload 6, 2) := by decide +kernel
theorem dX8_readInto_92 : decode prog_10_method_4_code 92 = .ok (.bipush 59, 2) := by decide +kernel
theorem dX8_readInto_94 : decode prog_10_method_4_code 94 = .ok (.if_icmp .ne 5, 3) := by decide +kernel
theorem dX8_readInto_97 : decode prog_10_method_4_code 97 = .ok (.iconst 0, 1) := by decide +kernel
theorem dX8_readInto_98 : decode prog_10_method_4_code 98 = .ok (.istore_n 3, 1) := by decide +kernel
theorem dX8_readInto_99 : decode prog_10_method_4_code 99 = .ok (.iload_n 2, 1) := by decide +kernel
theorem dX8_readInto_100 : decode prog_10_method_4_code 100 = .ok (.iconst 3, 1) := by decide +kernel
theorem dX8_readInto_101 : decode prog_10_method_4_code 101 = .ok (.if_icmp .ne 7, 3) := by decide +kernel
theorem dX8_readInto_104 : decode prog_10_method_4_code 104 = .ok (.iconst 0, 1) := by decide +kernel
theorem dX8_readInto_105 : decode prog_10_method_4_code 105 = .ok (.goto 6, 3) := by decide +kernel
theorem dX8_readInto_108 : decode prog_10_method_4_code 108 = .ok (.iload_n 2, 1) := by decide +kernel
theorem dX8_readInto_109 : decode prog_10_method_4_code 109 = .ok (.iconst 1, 1) := by decide +kernel
theorem dX8_readInto_110 : decode prog_10_method_4_code 110 = .ok (.iadd, 1) := by decide +kernel
theorem dX8_readInto_111 : decode prog_10_method_4_code 111 = .ok (.istore_n 2, 1) := by decide +kernel
theorem dX8_readInto_112 : decode prog_10_method_4_code 112 = .ok (.iinc 5 1, 3) := by decide +kernel
theorem dX8_readInto_115 : decode prog_10_method_4_code 115 = .ok (.goto (-105), 3) := by decide +kernel
theorem dX8_readInto_118 : decode prog_10_method_4_code 118 = .ok (.iload_n 2, 1) := by decide +kernel
theorem dX8_readInto_119 : decode prog_10_method_4_code 119 = .ok (.iconst 3, 1) := by decide +kernel
theorem dX8_readInto_120 : decode prog_10_method_4_code 120 = .ok (.if_icmp .ne 7, 3) := by decide +kernel
theorem dX8_readInto_123 : decode prog_10_method_4_code 123 = .ok (.iconst (-1), 1) := by decide +kernel
theorem dX8_readInto_124 : decode prog_10_method_4_code 124 = .ok (.goto 7, 3) := by decide +kernel
theorem dX8_readInto_127 : decode prog_10_method_4_code 127 = .ok (.aload_n 0, 1) := by decide +kernel
theorem dX8_readInto_128 : decode prog_10_method_4_code 128 = .ok (.getfield 15, 3) := by decide +kernel
theorem dX8_readInto_131 : decode prog_10_method_4_code 131 = .ok (.ireturn, 1) := by decide +kernel
theorem sX8_readInto_10 {Q : Int → Hp → Prop} {h : Hp} {a1 l2 l3 l4 l5 : Int}
    (hP : ((l5 ≥ (h 73 1)) →
     Q (if l2 ≠ 3 then (h 73 1) else (-1)) h) ∧
    ((l5 < (h 73 1)) →
     (ix l5 60 ∧ rj ((h 74 l5) - 48)) ∧
     CI 1 mX8_canContinue [vi l2, vi (h 74 l5), vr a1, vi l3] h (fun r6 h5 =>
      ((r6 ≠ 0) →
       ((l2 ≠ 0) →
        ((l2 ≠ 2) →
         (((h 74 l5) ≠ 59) →
          (((l2 ≠ 3) → (rj (l2 + 1)))) ∧
          (∀ x13 : Int, x13 = (if l2 ≠ 3 then (l2 + 1) else 0) →
          (rj (l5 + 1)) ∧
          E 3 mX8_readInto 10 [(0, vr 73), (1, vr a1), (2, vi x13), (3, vi l3), (4, vi l4), (5, vi (l5 + 1))] [] h5 (qi Q))) ∧
         (((h 74 l5) = 59) →
          (((l2 ≠ 3) → (rj (l2 + 1)))) ∧
          (∀ x17 : Int, x17 = (if l2 ≠ 3 then (l2 + 1) else 0) →
          (rj (l5 + 1)) ∧
          E 3 mX8_readInto 10 [(0, vr 73), (1, vr a1), (2, vi x17), (3, vi 0), (4, vi l4), (5, vi (l5 + 1))] [] h5 (qi Q)))) ∧
        ((l2 = 2) →
         (nA a1) ∧
         CV 2 mX3_push [vr a1, vi l4, vi ((h 74 l5) - 48)] h5 (fun h20 =>
          (∀ x22 : Int, x22 = (j_ior l3 (j_ishl 1 ((h 74 l5) - 48))) →
          (((l2 ≠ 3) → (rj (l2 + 1)))) ∧
          (∀ x25 : Int, x25 = (if l2 ≠ 3 then (l2 + 1) else 0) →
          (rj (l5 + 1)) ∧
          E 3 mX8_readInto 10 [(0, vr 73), (1, vr a1), (2, vi x25), (3, vi x22), (4, vi l4), (5, vi (l5 + 1))] [] h20 (qi Q)))))) ∧
       ((l2 = 0) →
        (∀ x28 : Int, x28 = (j_ior l3 (j_ishl 1 ((h 74 l5) - 48))) →
        (((l2 ≠ 3) → (rj (l2 + 1)))) ∧
        (∀ x31 : Int, x31 = (if l2 ≠ 3 then (l2 + 1) else 0) →
        (rj (l5 + 1)) ∧
        E 3 mX8_readInto 10 [(0, vr 73), (1, vr a1), (2, vi x31), (3, vi x28), (4, vi ((h 74 l5) - 48)), (5, vi (l5 + 1))] [] h5 (qi Q))))) ∧
      ((r6 = 0) →
       Q l5 h5)))) :
    E 3 mX8_readInto 10 [(0, vr 73), (1, vr a1), (2, vi l2), (3, vi l3), (4, vi l4), (5, vi l5)] [] h (qi Q) := by
  refine E_iload 5 dX8_readInto_10 rfl ?_
  refine E_aload_n 0 0 dX8_readInto_12 rfl rfl ?_
  refine E_gI 1 1 dX8_readInto_13 FX8_15 ic_73 rfl ?_
  refine E_icmp_ge 118 dX8_readInto_16 rfl (fun hc => ?_) (fun hc => ?_)
  · replace hP := hP.1 (hc)
    refine E_iload_n 2 2 dX8_readInto_118 rfl rfl ?_
    refine E_iconst dX8_readInto_119 (rg_of rfl) ?_
    have hJ : E 3 mX8_readInto 131 [(0, vr 73), (1, vr a1), (2, vi l2), (3, vi l3), (4, vi l4), (5, vi l5)] [vi (if l2 ≠ 3 then (h 73 1) else (-1))] h (qi Q) := by
      exact E_retI dX8_readInto_131 rfl hP
    refine E_icmp_ne 127 dX8_readInto_120 rfl (fun hc => ?_) (fun hc => ?_)
    · have hp120 := (hc : l2 ≠ 3)
      refine E_aload_n 0 0 dX8_readInto_127 rfl rfl ?_
      refine E_gI 1 1 dX8_readInto_128 FX8_15 ic_73 rfl ?_
      exact E_top (by first | exact (if_pos (by omega)).symm | exact (if_neg (by omega)).symm | (repeat first | rw [if_pos (by omega)] | rw [if_neg (by omega)])) hJ
    · have hp120 := (by omega : l2 = 3)
      refine E_iconst dX8_readInto_123 (rg_of rfl) ?_
      refine E_goto 131 dX8_readInto_124 rfl ?_
      exact E_top (by first | exact (if_pos (by omega)).symm | exact (if_neg (by omega)).symm | (repeat first | rw [if_pos (by omega)] | rw [if_neg (by omega)])) hJ
  · replace hP := hP.2 (by omega)
    obtain ⟨⟨v4_0, v4_1⟩, hP⟩ := hP
    refine E_aload_n 0 0 dX8_readInto_19 rfl rfl ?_
    refine E_gR 74 0 dX8_readInto_20 FX8_9 ic_73 (by decide) ?_
    refine E_iload 5 dX8_readInto_23 rfl ?_
    refine E_iaload dX8_readInto_25 ic_74 v4_0.1 v4_0.2 ?_
    refine E_istore dX8_readInto_26 (by decide) rfl ?_
    refine E_iload 0 dX8_readInto_28 rfl ?_
    refine E_bipush dX8_readInto_30 (by decide) ?_
    refine E_isub dX8_readInto_32 (rgI v4_1) ?_
    refine E_istore dX8_readInto_33 (by decide) rfl ?_
    refine E_iload_n 4 2 dX8_readInto_35 rfl rfl ?_
    refine E_iload 1 dX8_readInto_36 rfl ?_
    refine E_aload_n 3 1 dX8_readInto_38 rfl rfl ?_
    refine E_iload_n 5 3 dX8_readInto_39 rfl rfl ?_
    refine E_invSI [vi l2, vi (h 74 l5), vr a1, vi l3] dX8_readInto_40 fX8_canContinue lX8_19 (by decide) rfl rfl (Nat.le_of_ble_eq_true rfl) (CI_mono hP (fun r6 h5 hP => ?_))
    refine E_if_ne 49 dX8_readInto_43 rfl (fun hc => ?_) (fun hc => ?_)
    · replace hP := hP.1 (hc)
      refine E_iload_n 4 2 dX8_readInto_49 rfl rfl ?_
      refine E_if_ne 67 dX8_readInto_50 rfl (fun hc => ?_) (fun hc => ?_)
      · replace hP := hP.1 (hc)
        refine E_iload_n 4 2 dX8_readInto_67 rfl rfl ?_
        refine E_iconst dX8_readInto_68 (rg_of rfl) ?_
        refine E_icmp_ne 90 dX8_readInto_69 rfl (fun hc => ?_) (fun hc => ?_)
        · replace hP := hP.1 (hc)
          refine E_iload 1 dX8_readInto_90 rfl ?_
          refine E_bipush dX8_readInto_92 (by decide) ?_
          refine E_icmp_ne 99 dX8_readInto_94 rfl (fun hc => ?_) (fun hc => ?_)
          · replace hP := hP.1 (hc)
            obtain ⟨v11_0, hP⟩ := hP
            refine E_iload_n 4 2 dX8_readInto_99 rfl rfl ?_
            refine E_iconst dX8_readInto_100 (rg_of rfl) ?_
            have hJ : E 3 mX8_readInto 111 [(7, vi ((h 74 l5) - 48)), (6, vi (h 74 l5)), (0, vr 73), (1, vr a1), (2, vi l2), (3, vi l3), (4, vi l4), (5, vi l5)] [vi (if l2 ≠ 3 then (l2 + 1) else 0)] h5 (qi Q) := by
              obtain ⟨x13, hx13⟩ : ∃ x : Int, x = (if l2 ≠ 3 then (l2 + 1) else 0) := ⟨_, rfl⟩
              refine E_top hx13.symm ?_
              replace hP := hP x13 hx13
              refine E_istore_n dX8_readInto_111 rfl (by decide) rfl ?_
              obtain ⟨v14_0, hP⟩ := hP
              refine E_iinc 7 dX8_readInto_112 rfl (rgI v14_0) (by decide) rfl ?_
              refine E_goto 10 dX8_readInto_115 rfl ?_
              exact E_sub [4, 5, 1, 6, 7, 0] rfl hP
            refine E_icmp_ne 108 dX8_readInto_101 rfl (fun hc => ?_) (fun hc => ?_)
            · have hp101 := (hc : l2 ≠ 3)
              refine E_iload_n 4 2 dX8_readInto_108 rfl rfl ?_
              refine E_iconst dX8_readInto_109 (rg_of rfl) ?_
              refine E_iadd dX8_readInto_110 (rgI (v11_0 (by omega))) ?_
              exact E_top (by first | exact (if_pos (by omega)).symm | exact (if_neg (by omega)).symm | (repeat first | rw [if_pos (by omega)] | rw [if_neg (by omega)])) hJ
            · have hp101 := (by omega : l2 = 3)
              refine E_iconst dX8_readInto_104 (rg_of rfl) ?_
              refine E_goto 111 dX8_readInto_105 rfl ?_
              exact E_top (by first | exact (if_pos (by omega)).symm | exact (if_neg (by omega)).symm | (repeat first | rw [if_pos (by omega)] | rw [if_neg (by omega)])) hJ
          · replace hP := hP.2 (by omega)
            obtain ⟨v15_0, hP⟩ := hP
            refine E_iconst dX8_readInto_97 (rg_of rfl) ?_
            refine E_istore_n dX8_readInto_98 rfl (by decide) rfl ?_
            refine E_iload_n 5 2 dX8_readInto_99 rfl rfl ?_
            refine E_iconst dX8_readInto_100 (rg_of rfl) ?_
            have hJ : E 3 mX8_readInto 111 [(3, vi 0), (7, vi ((h 74 l5) - 48)), (6, vi (h 74 l5)), (0, vr 73), (1, vr a1), (2, vi l2), (4, vi l4), (5, vi l5)] [vi (if l2 ≠ 3 then (l2 + 1) else 0)] h5 (qi Q) := by
              obtain ⟨x17, hx17⟩ : ∃ x : Int, x = (if l2 ≠ 3 then (l2 + 1) else 0) := ⟨_, rfl⟩
              refine E_top hx17.symm ?_
              replace hP := hP x17 hx17
              refine E_istore_n dX8_readInto_111 rfl (by decide) rfl ?_
              obtain ⟨v18_0, hP⟩ := hP
              refine E_iinc 7 dX8_readInto_112 rfl (rgI v18_0) (by decide) rfl ?_
              refine E_goto 10 dX8_readInto_115 rfl ?_
              exact E_sub [5, 6, 1, 2, 7, 0] rfl hP
            refine E_icmp_ne 108 dX8_readInto_101 rfl (fun hc => ?_) (fun hc => ?_)
            · have hp101 := (hc : l2 ≠ 3)
              refine E_iload_n 5 2 dX8_readInto_108 rfl rfl ?_
              refine E_iconst dX8_readInto_109 (rg_of rfl) ?_
              refine E_iadd dX8_readInto_110 (rgI (v15_0 (by omega))) ?_
              exact E_top (by first | exact (if_pos (by omega)).symm | exact (if_neg (by omega)).symm | (repeat first | rw [if_pos (by omega)] | rw [if_neg (by omega)])) hJ
            · have hp101 := (by omega : l2 = 3)
              refine E_iconst dX8_readInto_104 (rg_of rfl) ?_
              refine E_goto 111 dX8_readInto_105 rfl ?_
              exact E_top (by first | exact (if_pos (by omega)).symm | exact (if_neg (by omega)).symm | (repeat first | rw [if_pos (by omega)] | rw [if_neg (by omega)])) hJ
        · replace hP := hP.2 (by omega)
          obtain ⟨v19_0, hP⟩ := hP
          refine E_aload_n 3 1 dX8_readInto_72 rfl rfl ?_
          refine E_iload 6 dX8_readInto_73 rfl ?_
          refine E_iload 0 dX8_readInto_75 rfl ?_
          refine E_invVV [vi l4, vi ((h 74 l5) - 48)] dX8_readInto_77 fX3_push lX8_23 (icN0 v19_0) rfl (by decide) rfl rfl (Nat.le_of_ble_eq_true rfl) (CV_mono hP (fun h20 hP => ?_))
          refine E_iload_n 5 3 dX8_readInto_80 rfl rfl ?_
          refine E_iconst dX8_readInto_81 (rg_of rfl) ?_
          refine E_iload 0 dX8_readInto_82 rfl ?_
          refine E_ishl dX8_readInto_84 ?_
          refine E_ior dX8_readInto_85 ?_
          obtain ⟨x22, hx22⟩ : ∃ x : Int, x = (j_ior l3 (j_ishl 1 ((h 74 l5) - 48))) := ⟨_, rfl⟩
          refine E_top hx22.symm ?_
          replace hP := hP x22 hx22
          refine E_istore_n dX8_readInto_86 rfl (by decide) rfl ?_
          obtain ⟨v23_0, hP⟩ := hP
          refine E_goto 99 dX8_readInto_87 rfl ?_
          refine E_iload_n 5 2 dX8_readInto_99 rfl rfl ?_
          refine E_iconst dX8_readInto_100 (rg_of rfl) ?_
          have hJ : E 3 mX8_readInto 111 [(3, vi x22), (7, vi ((h 74 l5) - 48)), (6, vi (h 74 l5)), (0, vr 73), (1, vr a1), (2, vi l2), (4, vi l4), (5, vi l5)] [vi (if l2 ≠ 3 then (l2 + 1) else 0)] h20 (qi Q) := by
            obtain ⟨x25, hx25⟩ : ∃ x : Int, x = (if l2 ≠ 3 then (l2 + 1) else 0) := ⟨_, rfl⟩
            refine E_top hx25.symm ?_
            replace hP := hP x25 hx25
            refine E_istore_n dX8_readInto_111 rfl (by decide) rfl ?_
            obtain ⟨v26_0, hP⟩ := hP
            refine E_iinc 7 dX8_readInto_112 rfl (rgI v26_0) (by decide) rfl ?_
            refine E_goto 10 dX8_readInto_115 rfl ?_
            exact E_sub [5, 6, 1, 2, 7, 0] rfl hP
          refine E_icmp_ne 108 dX8_readInto_101 rfl (fun hc => ?_) (fun hc => ?_)
          · have hp101 := (hc : l2 ≠ 3)
            refine E_iload_n 5 2 dX8_readInto_108 rfl rfl ?_
            refine E_iconst dX8_readInto_109 (rg_of rfl) ?_
            refine E_iadd dX8_readInto_110 (rgI (v23_0 (by omega))) ?_
            exact E_top (by first | exact (if_pos (by omega)).symm | exact (if_neg (by omega)).symm | (repeat first | rw [if_pos (by omega)] | rw [if_neg (by omega)])) hJ
          · have hp101 := (by omega : l2 = 3)
            refine E_iconst dX8_readInto_104 (rg_of rfl) ?_
            refine E_goto 111 dX8_readInto_105 rfl ?_
            exact E_top (by first | exact (if_pos (by omega)).symm | exact (if_neg (by omega)).symm | (repeat first | rw [if_pos (by omega)] | rw [if_neg (by omega)])) hJ
      · replace hP := hP.2 (by omega)
        refine E_iload 0 dX8_readInto_53 rfl ?_
        refine E_istore dX8_readInto_55 (by decide) rfl ?_
        refine E_iload_n 6 3 dX8_readInto_57 rfl rfl ?_
        refine E_iconst dX8_readInto_58 (rg_of rfl) ?_
        refine E_iload 1 dX8_readInto_59 rfl ?_
        refine E_ishl dX8_readInto_61 ?_
        refine E_ior dX8_readInto_62 ?_
        obtain ⟨x28, hx28⟩ : ∃ x : Int, x = (j_ior l3 (j_ishl 1 ((h 74 l5) - 48))) := ⟨_, rfl⟩
        refine E_top hx28.symm ?_
        replace hP := hP x28 hx28
        refine E_istore_n dX8_readInto_63 rfl (by decide) rfl ?_
        obtain ⟨v29_0, hP⟩ := hP
        refine E_goto 99 dX8_readInto_64 rfl ?_
        refine E_iload_n 6 2 dX8_readInto_99 rfl rfl ?_
        refine E_iconst dX8_readInto_100 (rg_of rfl) ?_
        have hJ : E 3 mX8_readInto 111 [(3, vi x28), (4, vi ((h 74 l5) - 48)), (7, vi ((h 74 l5) - 48)), (6, vi (h 74 l5)), (0, vr 73), (1, vr a1), (2, vi l2), (5, vi l5)] [vi (if l2 ≠ 3 then (l2 + 1) else 0)] h5 (qi Q) := by
          obtain ⟨x31, hx31⟩ : ∃ x : Int, x = (if l2 ≠ 3 then (l2 + 1) else 0) := ⟨_, rfl⟩
          refine E_top hx31.symm ?_
          replace hP := hP x31 hx31
          refine E_istore_n dX8_readInto_111 rfl (by decide) rfl ?_
          obtain ⟨v32_0, hP⟩ := hP
          refine E_iinc 7 dX8_readInto_112 rfl (rgI v32_0) (by decide) rfl ?_
          refine E_goto 10 dX8_readInto_115 rfl ?_
          exact E_sub [6, 7, 1, 2, 3, 0] rfl hP
        refine E_icmp_ne 108 dX8_readInto_101 rfl (fun hc => ?_) (fun hc => ?_)
        · have hp101 := (hc : l2 ≠ 3)
          refine E_iload_n 6 2 dX8_readInto_108 rfl rfl ?_
          refine E_iconst dX8_readInto_109 (rg_of rfl) ?_
          refine E_iadd dX8_readInto_110 (rgI (v29_0 (by omega))) ?_
          exact E_top (by first | exact (if_pos (by omega)).symm | exact (if_neg (by omega)).symm | (repeat first | rw [if_pos (by omega)] | rw [if_neg (by omega)])) hJ
        · have hp101 := (by omega : l2 = 3)
          refine E_iconst dX8_readInto_104 (rg_of rfl) ?_
          refine E_goto 111 dX8_readInto_105 rfl ?_
          exact E_top (by first | exact (if_pos (by omega)).symm | exact (if_neg (by omega)).symm | (repeat first | rw [if_pos (by omega)] | rw [if_neg (by omega)])) hJ
    · replace hP := hP.2 (by omega)
      refine E_iload 7 dX8_readInto_46 rfl ?_
      exact E_retI dX8_readInto_48 rfl hP
theorem sX8_readInto {Q : Int → Hp → Prop} {h : Hp} {a1 : Int}
    (hP : E 3 mX8_readInto 10 [(0, vr 73), (1, vr a1), (2, vi 0), (3, vi 0), (4, vi 0), (5, vi 0)] [] h (qi Q)) :
    CI 3 mX8_readInto [vr 73, vr a1] h Q := by
  refine CI_of_E fX8_readInto.1 rfl (Nat.le_of_ble_eq_true rfl) ?_
  show E 3 mX8_readInto 0 [(0, vr 73), (1, vr a1)] [] h (qi Q)
  refine E_iconst dX8_readInto_0 (rg_of rfl) ?_
  refine E_istore_n dX8_readInto_1 rfl (by decide) rfl ?_
  refine E_iconst dX8_readInto_2 (rg_of rfl) ?_
  refine E_istore_n dX8_readInto_3 rfl (by decide) rfl ?_
  refine E_iconst dX8_readInto_4 (rg_of rfl) ?_
  refine E_istore dX8_readInto_5 (by decide) rfl ?_
  refine E_iconst dX8_readInto_7 (rg_of rfl) ?_
  refine E_istore dX8_readInto_8 (by decide) rfl ?_
  exact E_sub [4, 5, 3, 2, 1, 0] rfl hP
theorem dX9_hadWire_0 : decode prog_11_method_2_code 0 = .ok (.iload_n 1, 1) := by decide +kernel
theorem dX9_hadWire_1 : decode prog_11_method_2_code 1 = .ok (.ifCond .lt 15, 3) := by decide +kernel
theorem dX9_hadWire_4 : decode prog_11_method_2_code 4 = .ok (.iload_n 1, 1) := by decide +kernel
theorem dX9_hadWire_5 : decode prog_11_method_2_code 5 = .ok (.aload_n 0, 1) := by decide +kernel
theorem dX9_hadWire_6 : decode prog_11_method_2_code 6 = .ok (.getfield 15, 3) := by decide +kernel
theorem dX9_hadWire_9 : decode prog_11_method_2_code 9 = .ok (.if_icmp .ge 7, 3) := by decide +kernel
theorem dX9_hadWire_12 : decode prog_11_method_2_code 12 = .ok (.iconst 1, 1) := by decide +kernel
theorem dX9_hadWire_13 : decode prog_11_method_2_code 13 = .ok (.goto 4, 3) := by decide +kernel
theorem dX9_hadWire_16 : decode prog_11_method_2_code 16 = .ok (.iconst 0, 1) := by decide +kernel
theorem dX9_hadWire_17 : decode prog_11_method_2_code 17 = .ok (.ireturn, 1) := by decide +kernel
theorem sX9_hadWire {Q : Int → Hp → Prop} {h : Hp} {l1 : Int}
    (hP : Q (if l1 ≥ 0 ∧ l1 < (h 76 1) then (1 : Int) else 0) h) :
    CI 0 mX9_hadWire [vr 76, vi l1] h Q := by
  refine CI_of_E fX9_hadWire.1 rfl (Nat.le_of_ble_eq_true rfl) ?_
  show E 0 mX9_hadWire 0 [(0, vr 76), (1, vi l1)] [] h (qi Q)
  refine E_iload_n 1 1 dX9_hadWire_0 rfl rfl ?_
  have hJ : E 0 mX9_hadWire 17 [(0, vr 76), (1, vi l1)] [vi (if l1 ≥ 0 ∧ l1 < (h 76 1) then (1 : Int) else 0)] h (qi Q) := by
    exact E_retZ dX9_hadWire_17 rfl (b01 _) hP
  refine E_if_lt 16 dX9_hadWire_1 rfl (fun hc => ?_) (fun hc => ?_)
  · have hp1 := (hc : l1 < 0)
    refine E_iconst dX9_hadWire_16 (rg_of rfl) ?_
    exact E_top (if_neg (by omega)).symm hJ
  · have hp1 := (by omega : l1 ≥ 0)
    refine E_iload_n 1 1 dX9_hadWire_4 rfl rfl ?_
    refine E_aload_n 0 0 dX9_hadWire_5 rfl rfl ?_
    refine E_gI 1 1 dX9_hadWire_6 FX9_15 ic_76 rfl ?_
    refine E_icmp_ge 16 dX9_hadWire_9 rfl (fun hc => ?_) (fun hc => ?_)
    · have hp9 := (hc : l1 ≥ (h 76 1))
      refine E_iconst dX9_hadWire_16 (rg_of rfl) ?_
      exact E_top (if_neg (by omega)).symm hJ
    · have hp9 := (by omega : l1 < (h 76 1))
      refine E_iconst dX9_hadWire_12 (rg_of rfl) ?_
      refine E_goto 17 dX9_hadWire_13 rfl ?_
      exact E_top (if_pos (by omega)).symm hJ
theorem dX9_swap_0 : decode prog_11_method_4_code 0 = .ok (.aload_n 0, 1) := by decide +kernel
theorem dX9_swap_1 : decode prog_11_method_4_code 1 = .ok (.iload_n 1, 1) := by decide +kernel
theorem dX9_swap_2 : decode prog_11_method_4_code 2 = .ok (.iaload, 1) := by decide +kernel
theorem dX9_swap_3 : decode prog_11_method_4_code 3 = .ok (.istore_n 3, 1) := by decide +kernel
theorem dX9_swap_4 : decode prog_11_method_4_code 4 = .ok (.aload_n 0, 1) := by decide +kernel
theorem dX9_swap_5 : decode prog_11_method_4_code 5 = .ok (.iload_n 1, 1) := by decide +kernel
theorem dX9_swap_6 : decode prog_11_method_4_code 6 = .ok (.aload_n 0, 1) := by decide +kernel
theorem dX9_swap_7 : decode prog_11_method_4_code 7 = .ok (.iload_n 2, 1) := by decide +kernel
theorem dX9_swap_8 : decode prog_11_method_4_code 8 = .ok (.iaload, 1) := by decide +kernel
theorem dX9_swap_9 : decode prog_11_method_4_code 9 = .ok (.iastore, 1) := by decide +kernel
theorem dX9_swap_10 : decode prog_11_method_4_code 10 = .ok (.aload_n 0, 1) := by decide +kernel
theorem dX9_swap_11 : decode prog_11_method_4_code 11 = .ok (.iload_n 2, 1) := by decide +kernel
theorem dX9_swap_12 : decode prog_11_method_4_code 12 = .ok (.iload_n 3, 1) := by decide +kernel
theorem dX9_swap_13 : decode prog_11_method_4_code 13 = .ok (.iastore, 1) := by decide +kernel
theorem dX9_swap_14 : decode prog_11_method_4_code 14 = .ok (.return_, 1) := by decide +kernel
theorem sX9_swap {Q : Hp → Prop} {h : Hp} {r0 l1 l2 : Int}
    (hP : (rowA r0 ∧ ix l1 8 ∧ ix l2 8) ∧
    Q (up (up h r0 l1 (h r0 l2)) r0 l2 (h r0 l1))) :
    CV 0 mX9_swap [vr r0, vi l1, vi l2] h Q := by
  refine CV_of_E fX9_swap.1 rfl (Nat.le_of_ble_eq_true rfl) ?_
  show E 0 mX9_swap 0 [(0, vr r0), (1, vi l1), (2, vi l2)] [] h (qv Q)
  obtain ⟨⟨v1_0, v1_1, v1_2⟩, hP⟩ := hP
  refine E_aload_n 0 0 dX9_swap_0 rfl rfl ?_
  refine E_iload_n 1 1 dX9_swap_1 rfl rfl ?_
  refine E_iaload dX9_swap_2 (icRow v1_0) v1_1.1 v1_1.2 ?_
  refine E_istore_n dX9_swap_3 rfl (by decide) rfl ?_
  refine E_aload_n 1 0 dX9_swap_4 rfl rfl ?_
  refine E_iload_n 2 1 dX9_swap_5 rfl rfl ?_
  refine E_aload_n 1 0 dX9_swap_6 rfl rfl ?_
  refine E_iload_n 3 2 dX9_swap_7 rfl rfl ?_
  refine E_iaload dX9_swap_8 (icRow v1_0) v1_2.1 v1_2.2 ?_
  refine E_iastore dX9_swap_9 (icRow v1_0) v1_1.1 v1_1.2 ?_
  refine E_aload_n 1 0 dX9_swap_10 rfl rfl ?_
  refine E_iload_n 3 2 dX9_swap_11 rfl rfl ?_
  refine E_iload_n 0 3 dX9_swap_12 rfl rfl ?_
  refine E_iastore dX9_swap_13 (icRow v1_0) v1_2.1 v1_2.2 ?_
  exact E_retV dX9_swap_14 rfl hP
theorem dX9_perform_0 : decode prog_11_method_3_code 0 = .ok (.aload_n 0, 1) := by decide +kernel
theorem dX9_perform_1 : decode prog_11_method_3_code 1 = .ok (.iconst 1, 1) := by decide +kernel
theorem dX9_perform_2 : decode prog_11_method_3_code 2 = .ok (.putfield 9, 3) := by decide +kernel
theorem dX9_perform_5 : decode prog_11_method_3_code 5 = .ok (.aload_n 0, 1) := by decide +kernel
theorem dX9_perform_6 : decode prog_11_method_3_code 6 = .ok (.aload_n 1, 1) := by decide +kernel
theorem dX9_perform_7 : decode prog_11_method_3_code 7 = .ok (.getfield 26, 3) := by decide +kernel
theorem dX9_perform_10 : decode prog_11_method_3_code 10 = .ok (.putfield 15, 3) := by decide +kernel
theorem dX9_perform_13 : decode prog_11_method_3_code 13 = .ok (.iconst 0, 1) := by decide +kernel
theorem dX9_perform_14 : decode prog_11_method_3_code 14 = .ok (.istore_n 3, 1) := by decide +kernel
theorem dX9_perform_15 : decode prog_11_method_3_code 15 = .ok (.iload_n 3, 1) := by decide +kernel
theorem dX9_perform_16 : decode prog_11_method_3_code 16 = .ok (.aload_n 0, 1) := by decide +kernel
theorem dX9_perform_17 : decode prog_11_method_3_code 17 = .ok (.getfield 15, 3) := by decide +kernel
theorem dX9_perform_20 : decode prog_11_method_3_code 20 = .ok (.if_icmp .ge 25, 3) := by decide +kernel
theorem dX9_perform_23 : decode prog_11_method_3_code 23 = .ok (.aload_n 0, 1) := by decide +kernel
theorem dX9_perform_24 : decode prog_11_method_3_code 24 = .ok (.getfield 19, 3) := by decide +kernel
theorem dX9_perform_27 : decode prog_11_method_3_code 27 = .ok (.iload_n 3, 1) := by decide +kernel
theorem dX9_perform_28 : decode prog_11_method_3_code 28 = .ok (.aload_n 2, 1) := by decide +kernel
theorem dX9_perform_29 : decode prog_11_method_3_code 29 = .ok (.iload_n 3, 1) := by decide +kernel
theorem dX9_perform_30 : decode prog_11_method_3_code 30 = .ok (.iaload, 1) := by decide +kernel
theorem dX9_perform_31 : decode prog_11_method_3_code 31 = .ok (.iastore, 1) := by decide +kernel
theorem dX9_perform_32 : decode prog_11_method_3_code 32 = .ok (.aload_n 0, 1) := by decide +kernel
theorem dX9_perform_33 : decode prog_11_method_3_code 33 = .ok (.getfield 23, 3) := by decide +kernel
theorem dX9_perform_36 : decode prog_11_method_3_code 36 = .ok (.iload_n 3, 1) := by decide +kernel
theorem dX9_perform_37 : decode prog_11_method_3_code 37 = .ok (.iload_n 3, 1) := by decide +kernel
theorem dX9_perform_38 : decode prog_11_method_3_code 38 = .ok (.iastore, 1) := by decide +kernel
theorem dX9_perform_39 : decode prog_11_method_3_code 39 = .ok (.iinc 3 1, 3) := by decide +kernel
theorem dX9_perform_42 : decode prog_11_method_3_code 42 = .ok (.goto (-27), 3) := by decide +kernel
theorem dX9_perform_45 : decode prog_11_method_3_code 45 = .ok (.iconst 0, 1) := by decide +kernel
theorem dX9_perform_46 : decode prog_11_method_3_code 46 = .ok (.istore_n 3, 1) := by decide +kernel
theorem dX9_perform_47 : decode prog_11_method_3_code 47 = .ok (.iconst 0, 1) := by decide +kernel
theorem dX9_perform_48 : decode prog_11_method_3_code 48 = .ok (.istore 4, 2) := by decide +kernel
theorem dX9_perform_50 : decode prog_11_method_3_code 50 = .ok (.iload 4, 2) := by decide +kernel
theorem dX9_perform_52 : decode prog_11_method_3_code 52 = .ok (.aload_n 1, 1) := by decide +kernel
theorem dX9_perform_53 : decode prog_11_method_3_code 53 = .ok (.getfield 29, 3) := by decide +kernel
theorem dX9_perform_56 : decode prog_11_method_3_code 56 = .ok (.if_icmp .ge 81, 3) := by decide +kernel
theorem dX9_perform_59 : decode prog_11_method_3_code 59 = .ok (.aload_n 0, 1) := by decide +kernel
theorem dX9_perform_60 : decode prog_11_method_3_code 60 = .ok (.getfield 19, 3) := by decide +kernel
theorem dX9_perform_63 : decode prog_11_method_3_code 63 = .ok (.aload_n 1, 1) := by decide +kernel
theorem dX9_perform_64 : decode prog_11_method_3_code 64 = .ok (.getfield 32, 3) := by decide +kernel
theorem dX9_perform_67 : decode prog_11_method_3_code 67 = .ok (.iload 4, 2) := by decide +kernel
theorem dX9_perform_69 : decode prog_11_method_3_code 69 = .ok (.iaload, 1) := by decide +kernel
theorem dX9_perform_70 : decode prog_11_method_3_code 70 = .ok (.iaload, 1) := by decide +kernel
theorem dX9_perform_71 : decode prog_11_method_3_code 71 = .ok (.aload_n 0, 1) := by decide +kernel
theorem dX9_perform_72 : decode prog_11_method_3_code 72 = .ok (.getfield 19, 3) := by decide +kernel
theorem dX9_perform_75 : decode prog_11_method_3_code 75 = .ok (.aload_n 1, 1) := by decide +kernel
theorem dX9_perform_76 : decode prog_11_method_3_code 76 = .ok (.getfield 35, 3) := by decide +kernel
theorem dX9_perform_79 : decode prog_11_method_3_code 79 = .ok (.iload 4, 2) := by decide +kernel
theorem dX9_perform_81 : decode prog_11_method_3_code 81 = .ok (.iaload, 1) := by decide +kernel
theorem dX9_perform_82 : decode prog_11_method_3_code 82 = .ok (.iaload, 1) := by decide +kernel
theorem dX9_perform_83 : decode prog_11_method_3_code 83 = .ok (.if_icmp .le 48, 3) := by decide +kernel
theorem dX9_perform_86 : decode prog_11_method_3_code 86 = .ok (.aload_n 0, 1) := by decide +kernel
theorem dX9_perform_87 : decode prog_11_method_3_code 87 = .ok (.getfield 19, 3) := by decide +kernel
theorem dX9_perform_90 : decode prog_11_method_3_code 90 = .ok (.aload_n 1, 1) := by decide +kernel
theorem dX9_perform_91 : decode prog_11_method_3_code 91 = .ok (.getfield 32, 3) := by decide +kernel
theorem dX9_perform_94 : decode prog_11_method_3_code 94 = .ok (.iload 4, 2) := by decide +kernel
theorem dX9_perform_96 : decode prog_11_method_3_code 96 = .ok (.iaload, 1) := by decide +kernel
theorem dX9_perform_97 : decode prog_11_method_3_code 97 = .ok (.aload_n 1, 1) := by decide +kernel
theorem dX9_perform_98 : decode prog_11_method_3_code 98 = .ok (.getfield 35, 3) := by decide +kernel
theorem dX9_perform_101 : decode prog_11_method_3_code 101 = .ok (.iload 4, 2) := by decide +kernel
theorem dX9_perform_103 : decode prog_11_method_3_code 103 = .ok (.iaload, 1) := by decide +kernel
theorem dX9_perform_104 : decode prog_11_method_3_code 104 = .ok (.invokestatic 38, 3) := by decide +kernel
theorem dX9_perform_107 : decode prog_11_method_3_code 107 = .ok (.aload_n 0, 1) := by decide +kernel
theorem dX9_perform_108 : decode prog_11_method_3_code 108 = .ok (.getfield 23, 3) := by decide +kernel
theorem dX9_perform_111 : decode prog_11_method_3_code 111 = .ok (.aload_n 1, 1) := by decide +kernel
theorem dX9_perform_112 : decode prog_11_method_3_code 112 = .ok (.getfield 32, 3) := by decide +kernel
theorem dX9_perform_115 : decode prog_11_method_3_code 115 = .ok (.iload 4, 2) := by decide +kernel
theorem dX9_perform_117 : decode prog_11_method_3_code 117 = .ok (.iaload, 1) := by decide +kernel
theorem dX9_perform_118 : decode prog_11_method_3_code 118 = .ok (.aload_n 1, 1) := by decide +kernel
theorem dX9_perform_119 : decode prog_11_method_3_code 119 = .ok (.getfield 35, 3) := by decide +kernel
theorem dX9_perform_122 : decode prog_11_method_3_code 122 = .ok (.iload 4, 2) := by decide +kernel
theorem dX9_perform_124 : decode prog_11_method_3_code 124 = .ok (.iaload, 1) := by decide +kernel
theorem dX9_perform_125 : decode prog_11_method_3_code 125 = .ok (.invokestatic 38, 3) := by decide +kernel
theorem dX9_perform_128 : decode prog_11_method_3_code 128 = .ok (.iinc 3 1, 3) := by decide +kernel
theorem dX9_perform_131 : decode prog_11_method_3_code 131 = .ok (.iinc 4 1, 3) := by decide +kernel
theorem dX9_perform_134 : decode prog_11_method_3_code 134 = .ok (.goto (-84), 3) := by decide +kernel
theorem dX9_perform_137 : decode prog_11_method_3_code 137 = .ok (.iload_n 3, 1) := by decide +kernel
theorem dX9_perform_138 : decode prog_11_method_3_code 138 = .ok (.ireturn, 1) := by decide +kernel
theorem sX9_perform_50 {Q : Int → Hp → Prop} {h : Hp} {a1 l3 l4 : Int}
    (hP : (nA a1) ∧
    ((l4 ≥ (h a1 1)) →
     Q l3 h) ∧
    ((l4 < (h a1 1)) →
     (nA a1 ∧ ix l4 40 ∧ ix (h (a1 + 1) l4) 8 ∧ ix (h (a1 + 2) l4) 8) ∧
     (((h 77 (h (a1 + 1) l4)) ≤ (h 77 (h (a1 + 2) l4))) →
      (rj (l4 + 1)) ∧
      E 1 mX9_perform 50 [(0, vr 76), (1, vr a1), (3, vi l3), (4, vi (l4 + 1))] [] h (qi Q)) ∧
     (((h 77 (h (a1 + 1) l4)) > (h 77 (h (a1 + 2) l4))) →
      (nA a1 ∧ ix l4 40 ∧ rowA 77 ∧ ix (h (a1 + 1) l4) 8 ∧ ix (h (a1 + 2) l4) 8 ∧ rowA 78 ∧ ix ((up (up h 77 (h (a1 + 1) l4) (h 77 (h (a1 + 2) l4))) 77 (h (a1 + 2) l4) (h 77 (h (a1 + 1) l4))) (a1 + 1) l4) 8 ∧ ix ((up (up h 77 (h (a1 + 1) l4) (h 77 (h (a1 + 2) l4))) 77 (h (a1 + 2) l4) (h 77 (h (a1 + 1) l4))) (a1 + 2) l4) 8 ∧ rj (l3 + 1) ∧ rj (l4 + 1)) ∧
      E 1 mX9_perform 50 [(0, vr 76), (1, vr a1), (3, vi (l3 + 1)), (4, vi (l4 + 1))] [] (up (up (up (up h 77 (h (a1 + 1) l4) (h 77 (h (a1 + 2) l4))) 77 (h (a1 + 2) l4) (h 77 (h (a1 + 1) l4))) 78 ((up (up h 77 (h (a1 + 1) l4) (h 77 (h (a1 + 2) l4))) 77 (h (a1 + 2) l4) (h 77 (h (a1 + 1) l4))) (a1 + 1) l4) ((up (up h 77 (h (a1 + 1) l4) (h 77 (h (a1 + 2) l4))) 77 (h (a1 + 2) l4) (h 77 (h (a1 + 1) l4))) 78 ((up (up h 77 (h (a1 + 1) l4) (h 77 (h (a1 + 2) l4))) 77 (h (a1 + 2) l4) (h 77 (h (a1 + 1) l4))) (a1 + 2) l4))) 78 ((up (up h 77 (h (a1 + 1) l4) (h 77 (h (a1 + 2) l4))) 77 (h (a1 + 2) l4) (h 77 (h (a1 + 1) l4))) (a1 + 2) l4) ((up (up h 77 (h (a1 + 1) l4) (h 77 (h (a1 + 2) l4))) 77 (h (a1 + 2) l4) (h 77 (h (a1 + 1) l4))) 78 ((up (up h 77 (h (a1 + 1) l4) (h 77 (h (a1 + 2) l4))) 77 (h (a1 + 2) l4) (h 77 (h (a1 + 1) l4))) (a1 + 1) l4))) (qi Q)))) :
    E 1 mX9_perform 50 [(0, vr 76), (1, vr a1), (3, vi l3), (4, vi l4)] [] h (qi Q) := by
  obtain ⟨v1_0, hP⟩ := hP
  refine E_iload 3 dX9_perform_50 rfl ?_
  refine E_aload_n 1 1 dX9_perform_52 rfl rfl ?_
  refine E_gI 1 1 dX9_perform_53 FX9_29 (icN0 v1_0) rfl ?_
  refine E_icmp_ge 137 dX9_perform_56 rfl (fun hc => ?_) (fun hc => ?_)
  · replace hP := hP.1 (hc)
    refine E_iload_n 2 3 dX9_perform_137 rfl rfl ?_
    exact E_retI dX9_perform_138 rfl hP
  · replace hP := hP.2 (by omega)
    obtain ⟨⟨v3_0, v3_1, v3_2, v3_3⟩, hP⟩ := hP
    refine E_aload_n 0 0 dX9_perform_59 rfl rfl ?_
    refine E_gR 77 2 dX9_perform_60 FX9_19 ic_76 (by decide) ?_
    refine E_aload_n 1 1 dX9_perform_63 rfl rfl ?_
    refine E_gR (a1 + 1) 2 dX9_perform_64 FX9_32 (icN0 v3_0) (rfN2 v3_0) ?_
    refine E_iload 3 dX9_perform_67 rfl ?_
    refine E_iaload dX9_perform_69 (icN1 v3_0) v3_1.1 v3_1.2 ?_
    refine E_iaload dX9_perform_70 ic_77 v3_2.1 v3_2.2 ?_
    refine E_aload_n 0 0 dX9_perform_71 rfl rfl ?_
    refine E_gR 77 2 dX9_perform_72 FX9_19 ic_76 (by decide) ?_
    refine E_aload_n 1 1 dX9_perform_75 rfl rfl ?_
    refine E_gR (a1 + 2) 3 dX9_perform_76 FX9_35 (icN0 v3_0) (rfN3 v3_0) ?_
    refine E_iload 3 dX9_perform_79 rfl ?_
    refine E_iaload dX9_perform_81 (icN2 v3_0) v3_1.1 v3_1.2 ?_
    refine E_iaload dX9_perform_82 ic_77 v3_3.1 v3_3.2 ?_
    refine E_icmp_le 131 dX9_perform_83 rfl (fun hc => ?_) (fun hc => ?_)
    · replace hP := hP.1 (hc)
      obtain ⟨v4_0, hP⟩ := hP
      refine E_iinc 3 dX9_perform_131 rfl (rgI v4_0) (by decide) rfl ?_
      refine E_goto 50 dX9_perform_134 rfl ?_
      exact E_sub [1, 2, 3, 0] rfl hP
    · replace hP := hP.2 (by omega)
      obtain ⟨⟨v5_0, v5_1, v5_2, v5_3, v5_4, v5_5, v5_6, v5_7, v5_8, v5_9⟩, hP⟩ := hP
      refine E_aload_n 0 0 dX9_perform_86 rfl rfl ?_
      refine E_gR 77 2 dX9_perform_87 FX9_19 ic_76 (by decide) ?_
      refine E_aload_n 1 1 dX9_perform_90 rfl rfl ?_
      refine E_gR (a1 + 1) 2 dX9_perform_91 FX9_32 (icN0 v5_0) (rfN2 v5_0) ?_
      refine E_iload 3 dX9_perform_94 rfl ?_
      refine E_iaload dX9_perform_96 (icN1 v5_0) v5_1.1 v5_1.2 ?_
      refine E_aload_n 1 1 dX9_perform_97 rfl rfl ?_
      refine E_gR (a1 + 2) 3 dX9_perform_98 FX9_35 (icN0 v5_0) (rfN3 v5_0) ?_
      refine E_iload 3 dX9_perform_101 rfl ?_
      refine E_iaload dX9_perform_103 (icN2 v5_0) v5_1.1 v5_1.2 ?_
      refine E_invSV [vr 77, vi (h (a1 + 1) l4), vi (h (a1 + 2) l4)] dX9_perform_104 fX9_swap lX9_38 (by decide) rfl rfl (Nat.le_of_ble_eq_true rfl) (sX9_swap (h := h) (r0 := 77) (l1 := (h (a1 + 1) l4)) (l2 := (h (a1 + 2) l4)) ⟨⟨v5_2, v5_3, v5_4⟩, ?_⟩)
      refine E_aload_n 0 0 dX9_perform_107 rfl rfl ?_
      refine E_gR 78 3 dX9_perform_108 FX9_23 ic_76 (by decide) ?_
      refine E_aload_n 1 1 dX9_perform_111 rfl rfl ?_
      refine E_gR (a1 + 1) 2 dX9_perform_112 FX9_32 (icN0 v5_0) (rfN2 v5_0) ?_
      refine E_iload 3 dX9_perform_115 rfl ?_
      refine E_iaload dX9_perform_117 (icN1 v5_0) v5_1.1 v5_1.2 ?_
      refine E_aload_n 1 1 dX9_perform_118 rfl rfl ?_
      refine E_gR (a1 + 2) 3 dX9_perform_119 FX9_35 (icN0 v5_0) (rfN3 v5_0) ?_
      refine E_iload 3 dX9_perform_122 rfl ?_
      refine E_iaload dX9_perform_124 (icN2 v5_0) v5_1.1 v5_1.2 ?_
      refine E_invSV [vr 78, vi ((up (up h 77 (h (a1 + 1) l4) (h 77 (h (a1 + 2) l4))) 77 (h (a1 + 2) l4) (h 77 (h (a1 + 1) l4))) (a1 + 1) l4), vi ((up (up h 77 (h (a1 + 1) l4) (h 77 (h (a1 + 2) l4))) 77 (h (a1 + 2) l4) (h 77 (h (a1 + 1) l4))) (a1 + 2) l4)] dX9_perform_125 fX9_swap lX9_38 (by decide) rfl rfl (Nat.le_of_ble_eq_true rfl) (sX9_swap (h := (up (up h 77 (h (a1 + 1) l4) (h 77 (h (a1 + 2) l4))) 77 (h (a1 + 2) l4) (h 77 (h (a1 + 1) l4)))) (r0 := 78) (l1 := ((up (up h 77 (h (a1 + 1) l4) (h 77 (h (a1 + 2) l4))) 77 (h (a1 + 2) l4) (h 77 (h (a1 + 1) l4))) (a1 + 1) l4)) (l2 := ((up (up h 77 (h (a1 + 1) l4) (h 77 (h (a1 + 2) l4))) 77 (h (a1 + 2) l4) (h 77 (h (a1 + 1) l4))) (a1 + 2) l4)) ⟨⟨v5_5, v5_6, v5_7⟩, ?_⟩)
      refine E_iinc 2 dX9_perform_128 rfl (rgI v5_8) (by decide) rfl ?_
      refine E_iinc 3 dX9_perform_131 rfl (rgI v5_9) (by decide) rfl ?_
      refine E_goto 50 dX9_perform_134 rfl ?_
      exact E_sub [2, 3, 1, 0] rfl hP
theorem sX9_perform_15 {Q : Int → Hp → Prop} {h : Hp} {a1 l3 : Int}
    (hP : ((l3 ≥ (h 76 1)) →
     E 1 mX9_perform 50 [(0, vr 76), (1, vr a1), (3, vi 0), (4, vi 0)] [] h (qi Q)) ∧
    ((l3 < (h 76 1)) →
     (ix l3 8 ∧ rj (l3 + 1)) ∧
     E 1 mX9_perform 15 [(0, vr 76), (1, vr a1), (2, vr 75), (3, vi (l3 + 1))] [] (up (up h 77 l3 (h 75 l3)) 78 l3 l3) (qi Q))) :
    E 1 mX9_perform 15 [(0, vr 76), (1, vr a1), (2, vr 75), (3, vi l3)] [] h (qi Q) := by
  refine E_iload_n 3 3 dX9_perform_15 rfl rfl ?_
  refine E_aload_n 0 0 dX9_perform_16 rfl rfl ?_
  refine E_gI 1 1 dX9_perform_17 FX9_15 ic_76 rfl ?_
  refine E_icmp_ge 45 dX9_perform_20 rfl (fun hc => ?_) (fun hc => ?_)
  · replace hP := hP.1 (hc)
    refine E_iconst dX9_perform_45 (rg_of rfl) ?_
    refine E_istore_n dX9_perform_46 rfl (by decide) rfl ?_
    refine E_iconst dX9_perform_47 (rg_of rfl) ?_
    refine E_istore dX9_perform_48 (by decide) rfl ?_
    exact E_sub [2, 3, 1, 0] rfl hP
  · replace hP := hP.2 (by omega)
    obtain ⟨⟨v3_0, v3_1⟩, hP⟩ := hP
    refine E_aload_n 0 0 dX9_perform_23 rfl rfl ?_
    refine E_gR 77 2 dX9_perform_24 FX9_19 ic_76 (by decide) ?_
    refine E_iload_n 3 3 dX9_perform_27 rfl rfl ?_
    refine E_aload_n 2 2 dX9_perform_28 rfl rfl ?_
    refine E_iload_n 3 3 dX9_perform_29 rfl rfl ?_
    refine E_iaload dX9_perform_30 ic_75 v3_0.1 v3_0.2 ?_
    refine E_iastore dX9_perform_31 ic_77 v3_0.1 v3_0.2 ?_
    refine E_aload_n 0 0 dX9_perform_32 rfl rfl ?_
    refine E_gR 78 3 dX9_perform_33 FX9_23 ic_76 (by decide) ?_
    refine E_iload_n 3 3 dX9_perform_36 rfl rfl ?_
    refine E_iload_n 3 3 dX9_perform_37 rfl rfl ?_
    refine E_iastore dX9_perform_38 ic_78 v3_0.1 v3_0.2 ?_
    refine E_iinc 3 dX9_perform_39 rfl (rgI v3_1) (by decide) rfl ?_
    refine E_goto 15 dX9_perform_42 rfl ?_
    exact E_sub [1, 2, 3, 0] rfl hP
theorem sX9_perform {Q : Int → Hp → Prop} {h : Hp} {a1 : Int}
    (hP : (nA a1) ∧
    E 1 mX9_perform 15 [(0, vr 76), (1, vr a1), (2, vr 75), (3, vi 0)] [] (up (up h 76 0 1) 76 1 ((up h 76 0 1) a1 0)) (qi Q)) :
    CI 1 mX9_perform [vr 76, vr a1, vr 75] h Q := by
  refine CI_of_E fX9_perform.1 rfl (Nat.le_of_ble_eq_true rfl) ?_
  show E 1 mX9_perform 0 [(0, vr 76), (1, vr a1), (2, vr 75)] [] h (qi Q)
  obtain ⟨v1_0, hP⟩ := hP
  refine E_aload_n 0 0 dX9_perform_0 rfl rfl ?_
  refine E_iconst dX9_perform_1 (rg_of rfl) ?_
  refine E_pZ 0 0 dX9_perform_2 PX9_9 ic_76 rfl (Or.inr rfl) ?_
  refine E_aload_n 0 0 dX9_perform_5 rfl rfl ?_
  refine E_aload_n 1 1 dX9_perform_6 rfl rfl ?_
  refine E_gI 0 0 dX9_perform_7 FX9_26 (icN0 v1_0) rfl ?_
  refine E_pI 1 1 dX9_perform_10 PX9_15 ic_76 rfl ?_
  refine E_iconst dX9_perform_13 (rg_of rfl) ?_
  refine E_istore_n dX9_perform_14 rfl (by decide) rfl ?_
  exact E_sub [1, 2, 3, 0] rfl hP
theorem dX9_keptOrder_0 : decode prog_11_method_5_code 0 = .ok (.iconst 0, 1) := by decide +kernel
theorem dX9_keptOrder_1 : decode prog_11_method_5_code 1 = .ok (.istore_n 1, 1) := by decide +kernel
theorem dX9_keptOrder_2 : decode prog_11_method_5_code 2 = .ok (.iload_n 1, 1) := by decide +kernel
theorem dX9_keptOrder_3 : decode prog_11_method_5_code 3 = .ok (.aload_n 0, 1) := by decide +kernel
theorem dX9_keptOrder_4 : decode prog_11_method_5_code 4 = .ok (.getfield 15, 3) := by decide +kernel
theorem dX9_keptOrder_7 : decode prog_11_method_5_code 7 = .ok (.if_icmp .ge 59, 3) := by decide +kernel
theorem dX9_keptOrder_10 : decode prog_11_method_5_code 10 = .ok (.iload_n 1, 1) := by decide +kernel
theorem dX9_keptOrder_11 : decode prog_11_method_5_code 11 = .ok (.iconst 1, 1) := by decide +kernel
theorem dX9_keptOrder_12 : decode prog_11_method_5_code 12 = .ok (.iadd, 1) := by decide +kernel
theorem dX9_keptOrder_13 : decode prog_11_method_5_code 13 = .ok (.istore_n 2, 1) := by decide +kernel
theorem dX9_keptOrder_14 : decode prog_11_method_5_code 14 = .ok (.iload_n 2, 1) := by decide +kernel
theorem dX9_keptOrder_15 : decode prog_11_method_5_code 15 = .ok (.aload_n 0, 1) := by decide +kernel
theorem dX9_keptOrder_16 : decode prog_11_method_5_code 16 = .ok (.getfield 15, 3) := by decide +kernel
theorem dX9_keptOrder_19 : decode prog_11_method_5_code 19 = .ok (.if_icmp .ge 41, 3) := by decide +kernel
theorem dX9_keptOrder_22 : decode prog_11_method_5_code 22 = .ok (.aload_n 0, 1) := by decide +kernel
theorem dX9_keptOrder_23 : decode prog_11_method_5_code 23 = .ok (.getfield 19, 3) := by decide +kernel
theorem dX9_keptOrder_26 : decode prog_11_method_5_code 26 = .ok (.iload_n 1, 1) := by decide +kernel
theorem dX9_keptOrder_27 : decode prog_11_method_5_code 27 = .ok (.iaload, 1) := by decide +kernel
theorem dX9_keptOrder_28 : decode prog_11_method_5_code 28 = .ok (.aload_n 0, 1) := by decide +kernel
theorem dX9_keptOrder_29 : decode prog_11_method_5_code 29 = .ok (.getfield 19, 3) := by decide +kernel
theorem dX9_keptOrder_32 : decode prog_11_method_5_code 32 = .ok (.iload_n 2, 1) := by decide +kernel
theorem dX9_keptOrder_33 : decode prog_11_method_5_code 33 = .ok (.iaload, 1) := by decide +kernel
theorem dX9_keptOrder_34 : decode prog_11_method_5_code 34 = .ok (.if_icmp .ne 20, 3) := by decide +kernel
theorem dX9_keptOrder_37 : decode prog_11_method_5_code 37 = .ok (.aload_n 0, 1) := by decide +kernel
theorem dX9_keptOrder_38 : decode prog_11_method_5_code 38 = .ok (.getfield 23, 3) := by decide +kernel
theorem dX9_keptOrder_41 : decode prog_11_method_5_code 41 = .ok (.iload_n 1, 1) := by decide +kernel
theorem dX9_keptOrder_42 : decode prog_11_method_5_code 42 = .ok (.iaload, 1) := by decide +kernel
theorem dX9_keptOrder_43 : decode prog_11_method_5_code 43 = .ok (.aload_n 0, 1) := by decide +kernel
theorem dX9_keptOrder_44 : decode prog_11_method_5_code 44 = .ok (.getfield 23, 3) := by decide +kernel
theorem dX9_keptOrder_47 : decode prog_11_method_5_code 47 = .ok (.iload_n 2, 1) := by decide +kernel
theorem dX9_keptOrder_48 : decode prog_11_method_5_code 48 = .ok (.iaload, 1) := by decide +kernel
theorem dX9_keptOrder_49 : decode prog_11_method_5_code 49 = .ok (.if_icmp .le 5, 3) := by decide +kernel
theorem dX9_keptOrder_52 : decode prog_11_method_5_code 52 = .ok (.iconst 0, 1) := by decide +kernel
theorem dX9_keptOrder_53 : decode prog_11_method_5_code 53 = .ok (.ireturn, 1) := by decide +kernel
theorem dX9_keptOrder_54 : decode prog_11_method_5_code 54 = .ok (.iinc 2 1, 3) := by decide +kernel
theorem dX9_keptOrder_57 : decode prog_11_method_5_code 57 = .ok (.goto (-43), 3) := by decide +kernel
theorem dX9_keptOrder_60 : decode prog_11_method_5_code 60 = .ok (.iinc 1 1, 3) := by decide +kernel
theorem dX9_keptOrder_63 : decode prog_11_method_5_code 63 = .ok (.goto (-61), 3) := by decide +kernel
theorem dX9_keptOrder_66 : decode prog_11_method_5_code 66 = .ok (.iconst 1, 1) := by decide +kernel
theorem dX9_keptOrder_67 : decode prog_11_method_5_code 67 = .ok (.ireturn, 1) := by decide +kernel
theorem sX9_keptOrder_14 {Q : Int → Hp → Prop} {h : Hp} {l1 l2 : Int}
    (hP : ((l2 ≥ (h 76 1)) →
     (rj (l1 + 1)) ∧
     E 0 mX9_keptOrder 2 [(0, vr 76), (1, vi (l1 + 1))] [] h (qi Q)) ∧
    ((l2 < (h 76 1)) →
     (ix l1 8 ∧ ix l2 8) ∧
     (((h 77 l1) ≠ (h 77 l2)) →
      (rj (l2 + 1)) ∧
      E 0 mX9_keptOrder 14 [(0, vr 76), (1, vi l1), (2, vi (l2 + 1))] [] h (qi Q)) ∧
     (((h 77 l1) = (h 77 l2)) →
      (ix l1 8 ∧ ix l2 8) ∧
      (((h 78 l1) ≤ (h 78 l2)) →
       (rj (l2 + 1)) ∧
       E 0 mX9_keptOrder 14 [(0, vr 76), (1, vi l1), (2, vi (l2 + 1))] [] h (qi Q)) ∧
      (((h 78 l1) > (h 78 l2)) →
       Q 0 h)))) :
    E 0 mX9_keptOrder 14 [(0, vr 76), (1, vi l1), (2, vi l2)] [] h (qi Q) := by
  refine E_iload_n 2 2 dX9_keptOrder_14 rfl rfl ?_
  refine E_aload_n 0 0 dX9_keptOrder_15 rfl rfl ?_
  refine E_gI 1 1 dX9_keptOrder_16 FX9_15 ic_76 rfl ?_
  refine E_icmp_ge 60 dX9_keptOrder_19 rfl (fun hc => ?_) (fun hc => ?_)
  · replace hP := hP.1 (hc)
    obtain ⟨v2_0, hP⟩ := hP
    refine E_iinc 1 dX9_keptOrder_60 rfl (rgI v2_0) (by decide) rfl ?_
    refine E_goto 2 dX9_keptOrder_63 rfl ?_
    exact E_sub [1, 0] rfl hP
  · replace hP := hP.2 (by omega)
    obtain ⟨⟨v3_0, v3_1⟩, hP⟩ := hP
    refine E_aload_n 0 0 dX9_keptOrder_22 rfl rfl ?_
    refine E_gR 77 2 dX9_keptOrder_23 FX9_19 ic_76 (by decide) ?_
    refine E_iload_n 1 1 dX9_keptOrder_26 rfl rfl ?_
    refine E_iaload dX9_keptOrder_27 ic_77 v3_0.1 v3_0.2 ?_
    refine E_aload_n 0 0 dX9_keptOrder_28 rfl rfl ?_
    refine E_gR 77 2 dX9_keptOrder_29 FX9_19 ic_76 (by decide) ?_
    refine E_iload_n 2 2 dX9_keptOrder_32 rfl rfl ?_
    refine E_iaload dX9_keptOrder_33 ic_77 v3_1.1 v3_1.2 ?_
    refine E_icmp_ne 54 dX9_keptOrder_34 rfl (fun hc => ?_) (fun hc => ?_)
    · replace hP := hP.1 (hc)
      obtain ⟨v4_0, hP⟩ := hP
      refine E_iinc 2 dX9_keptOrder_54 rfl (rgI v4_0) (by decide) rfl ?_
      refine E_goto 14 dX9_keptOrder_57 rfl ?_
      exact E_sub [1, 2, 0] rfl hP
    · replace hP := hP.2 (by omega)
      obtain ⟨⟨v5_0, v5_1⟩, hP⟩ := hP
      refine E_aload_n 0 0 dX9_keptOrder_37 rfl rfl ?_
      refine E_gR 78 3 dX9_keptOrder_38 FX9_23 ic_76 (by decide) ?_
      refine E_iload_n 1 1 dX9_keptOrder_41 rfl rfl ?_
      refine E_iaload dX9_keptOrder_42 ic_78 v5_0.1 v5_0.2 ?_
      refine E_aload_n 0 0 dX9_keptOrder_43 rfl rfl ?_
      refine E_gR 78 3 dX9_keptOrder_44 FX9_23 ic_76 (by decide) ?_
      refine E_iload_n 2 2 dX9_keptOrder_47 rfl rfl ?_
      refine E_iaload dX9_keptOrder_48 ic_78 v5_1.1 v5_1.2 ?_
      refine E_icmp_le 54 dX9_keptOrder_49 rfl (fun hc => ?_) (fun hc => ?_)
      · replace hP := hP.1 (hc)
        obtain ⟨v6_0, hP⟩ := hP
        refine E_iinc 2 dX9_keptOrder_54 rfl (rgI v6_0) (by decide) rfl ?_
        refine E_goto 14 dX9_keptOrder_57 rfl ?_
        exact E_sub [1, 2, 0] rfl hP
      · replace hP := hP.2 (by omega)
        refine E_iconst dX9_keptOrder_52 (rg_of rfl) ?_
        exact E_retZ dX9_keptOrder_53 rfl (Or.inl rfl) hP
theorem sX9_keptOrder_2 {Q : Int → Hp → Prop} {h : Hp} {l1 : Int}
    (hP : ((l1 ≥ (h 76 1)) →
     Q 1 h) ∧
    ((l1 < (h 76 1)) →
     (rj (l1 + 1)) ∧
     E 0 mX9_keptOrder 14 [(0, vr 76), (1, vi l1), (2, vi (l1 + 1))] [] h (qi Q))) :
    E 0 mX9_keptOrder 2 [(0, vr 76), (1, vi l1)] [] h (qi Q) := by
  refine E_iload_n 1 1 dX9_keptOrder_2 rfl rfl ?_
  refine E_aload_n 0 0 dX9_keptOrder_3 rfl rfl ?_
  refine E_gI 1 1 dX9_keptOrder_4 FX9_15 ic_76 rfl ?_
  refine E_icmp_ge 66 dX9_keptOrder_7 rfl (fun hc => ?_) (fun hc => ?_)
  · replace hP := hP.1 (hc)
    refine E_iconst dX9_keptOrder_66 (rg_of rfl) ?_
    exact E_retZ dX9_keptOrder_67 rfl (Or.inr rfl) hP
  · replace hP := hP.2 (by omega)
    obtain ⟨v3_0, hP⟩ := hP
    refine E_iload_n 1 1 dX9_keptOrder_10 rfl rfl ?_
    refine E_iconst dX9_keptOrder_11 (rg_of rfl) ?_
    refine E_iadd dX9_keptOrder_12 (rgI v3_0) ?_
    refine E_istore_n dX9_keptOrder_13 rfl (by decide) rfl ?_
    exact E_sub [1, 2, 0] rfl hP
theorem sX9_keptOrder {Q : Int → Hp → Prop} {h : Hp}
    (hP : E 0 mX9_keptOrder 2 [(0, vr 76), (1, vi 0)] [] h (qi Q)) :
    CI 0 mX9_keptOrder [vr 76] h Q := by
  refine CI_of_E fX9_keptOrder.1 rfl (Nat.le_of_ble_eq_true rfl) ?_
  show E 0 mX9_keptOrder 0 [(0, vr 76)] [] h (qi Q)
  refine E_iconst dX9_keptOrder_0 (rg_of rfl) ?_
  refine E_istore_n dX9_keptOrder_1 rfl (by decide) rfl ?_
  exact E_sub [1, 0] rfl hP
theorem dX10_isNetwork_0 : decode prog_1_method_49_code 0 = .ok (.iload_n 0, 1) := by decide +kernel
theorem dX10_isNetwork_1 : decode prog_1_method_49_code 1 = .ok (.ifCond .lt 12, 3) := by decide +kernel
theorem dX10_isNetwork_4 : decode prog_1_method_49_code 4 = .ok (.iload_n 0, 1) := by decide +kernel
theorem dX10_isNetwork_5 : decode prog_1_method_49_code 5 = .ok (.iconst 4, 1) := by decide +kernel
theorem dX10_isNetwork_6 : decode prog_1_method_49_code 6 = .ok (.if_icmp .ge 7, 3) := by decide +kernel
theorem dX10_isNetwork_9 : decode prog_1_method_49_code 9 = .ok (.iconst 1, 1) := by decide +kernel
theorem dX10_isNetwork_10 : decode prog_1_method_49_code 10 = .ok (.goto 4, 3) := by decide +kernel
theorem dX10_isNetwork_13 : decode prog_1_method_49_code 13 = .ok (.iconst 0, 1) := by decide +kernel
theorem dX10_isNetwork_14 : decode prog_1_method_49_code 14 = .ok (.ireturn, 1) := by decide +kernel
theorem sX10_isNetwork {Q : Int → Hp → Prop} {h : Hp} {l0 : Int}
    (hP : Q (if l0 ≥ 0 ∧ l0 < 4 then (1 : Int) else 0) h) :
    CI 0 mX10_isNetwork [vi l0] h Q := by
  refine CI_of_E fX10_isNetwork.1 rfl (Nat.le_of_ble_eq_true rfl) ?_
  show E 0 mX10_isNetwork 0 [(0, vi l0)] [] h (qi Q)
  refine E_iload_n 0 0 dX10_isNetwork_0 rfl rfl ?_
  have hJ : E 0 mX10_isNetwork 14 [(0, vi l0)] [vi (if l0 ≥ 0 ∧ l0 < 4 then (1 : Int) else 0)] h (qi Q) := by
    exact E_retZ dX10_isNetwork_14 rfl (b01 _) hP
  refine E_if_lt 13 dX10_isNetwork_1 rfl (fun hc => ?_) (fun hc => ?_)
  · have hp1 := (hc : l0 < 0)
    refine E_iconst dX10_isNetwork_13 (rg_of rfl) ?_
    exact E_top (if_neg (by omega)).symm hJ
  · have hp1 := (by omega : l0 ≥ 0)
    refine E_iload_n 0 0 dX10_isNetwork_4 rfl rfl ?_
    refine E_iconst dX10_isNetwork_5 (rg_of rfl) ?_
    refine E_icmp_ge 13 dX10_isNetwork_6 rfl (fun hc => ?_) (fun hc => ?_)
    · have hp6 := (hc : l0 ≥ 4)
      refine E_iconst dX10_isNetwork_13 (rg_of rfl) ?_
      exact E_top (if_neg (by omega)).symm hJ
    · have hp6 := (by omega : l0 < 4)
      refine E_iconst dX10_isNetwork_9 (rg_of rfl) ?_
      refine E_goto 14 dX10_isNetwork_10 rfl ?_
      exact E_top (if_pos (by omega)).symm hJ
theorem dX10_isWireCount_0 : decode prog_1_method_51_code 0 = .ok (.iload_n 0, 1) := by decide +kernel
theorem dX10_isWireCount_1 : decode prog_1_method_51_code 1 = .ok (.iconst 2, 1) := by decide +kernel
theorem dX10_isWireCount_2 : decode prog_1_method_51_code 2 = .ok (.if_icmp .lt 13, 3) := by decide +kernel
theorem dX10_isWireCount_5 : decode prog_1_method_51_code 5 = .ok (.iload_n 0, 1) := by decide +kernel
theorem dX10_isWireCount_6 : decode prog_1_method_51_code 6 = .ok (.bipush 8, 2) := by decide +kernel
theorem dX10_isWireCount_8 : decode prog_1_method_51_code 8 = .ok (.if_icmp .gt 7, 3) := by decide +kernel
theorem dX10_isWireCount_11 : decode prog_1_method_51_code 11 = .ok (.iconst 1, 1) := by decide +kernel
theorem dX10_isWireCount_12 : decode prog_1_method_51_code 12 = .ok (.goto 4, 3) := by decide +kernel
theorem dX10_isWireCount_15 : decode prog_1_method_51_code 15 = .ok (.iconst 0, 1) := by decide +kernel
theorem dX10_isWireCount_16 : decode prog_1_method_51_code 16 = .ok (.ireturn, 1) := by decide +kernel
theorem sX10_isWireCount {Q : Int → Hp → Prop} {h : Hp} {l0 : Int}
    (hP : Q (if l0 ≥ 2 ∧ l0 ≤ 8 then (1 : Int) else 0) h) :
    CI 0 mX10_isWireCount [vi l0] h Q := by
  refine CI_of_E fX10_isWireCount.1 rfl (Nat.le_of_ble_eq_true rfl) ?_
  show E 0 mX10_isWireCount 0 [(0, vi l0)] [] h (qi Q)
  refine E_iload_n 0 0 dX10_isWireCount_0 rfl rfl ?_
  refine E_iconst dX10_isWireCount_1 (rg_of rfl) ?_
  have hJ : E 0 mX10_isWireCount 16 [(0, vi l0)] [vi (if l0 ≥ 2 ∧ l0 ≤ 8 then (1 : Int) else 0)] h (qi Q) := by
    exact E_retZ dX10_isWireCount_16 rfl (b01 _) hP
  refine E_icmp_lt 15 dX10_isWireCount_2 rfl (fun hc => ?_) (fun hc => ?_)
  · have hp2 := (hc : l0 < 2)
    refine E_iconst dX10_isWireCount_15 (rg_of rfl) ?_
    exact E_top (if_neg (by omega)).symm hJ
  · have hp2 := (by omega : l0 ≥ 2)
    refine E_iload_n 0 0 dX10_isWireCount_5 rfl rfl ?_
    refine E_bipush dX10_isWireCount_6 (by decide) ?_
    refine E_icmp_gt 15 dX10_isWireCount_8 rfl (fun hc => ?_) (fun hc => ?_)
    · have hp8 := (hc : l0 > 8)
      refine E_iconst dX10_isWireCount_15 (rg_of rfl) ?_
      exact E_top (if_neg (by omega)).symm hJ
    · have hp8 := (by omega : l0 ≤ 8)
      refine E_iconst dX10_isWireCount_11 (rg_of rfl) ?_
      refine E_goto 16 dX10_isWireCount_12 rfl ?_
      exact E_top (if_pos (by omega)).symm hJ
theorem dX10_remember_0 : decode prog_1_method_56_code 0 = .ok (.iload_n 1, 1) := by decide +kernel
theorem dX10_remember_1 : decode prog_1_method_56_code 1 = .ok (.invokestatic 90, 3) := by decide +kernel
theorem dX10_remember_4 : decode prog_1_method_56_code 4 = .ok (.ifCond .eq 17, 3) := by decide +kernel
theorem dX10_remember_7 : decode prog_1_method_56_code 7 = .ok (.aload_n 0, 1) := by decide +kernel
theorem dX10_remember_8 : decode prog_1_method_56_code 8 = .ok (.getfield 23, 3) := by decide +kernel
theorem dX10_remember_11 : decode prog_1_method_56_code 11 = .ok (.iload_n 1, 1) := by decide +kernel
theorem dX10_remember_12 : decode prog_1_method_56_code 12 = .ok (.aload_n 0, 1) := by decide +kernel
theorem dX10_remember_13 : decode prog_1_method_56_code 13 = .ok (.getfield 11, 3) := by decide +kernel
theorem dX10_remember_16 : decode prog_1_method_56_code 16 = .ok (.iload_n 1, 1) := by decide +kernel
theorem dX10_remember_17 : decode prog_1_method_56_code 17 = .ok (.aaload, 1) := by decide +kernel
theorem dX10_remember_18 : decode prog_1_method_56_code 18 = .ok (.invokevirtual 329, 3) := by decide +kernel
theorem dX10_remember_21 : decode prog_1_method_56_code 21 = .ok (.return_, 1) := by decide +kernel
theorem sX10_remember {Q : Hp → Prop} {h : Hp} {l1 : Int}
    (hP : ((l1 < 0 ∨ l1 ≥ 4) →
     Q h) ∧
    ((l1 ≥ 0 ∧ l1 < 4) →
     (ix l1 4) ∧
     CV 4 mX2_keep [vr 70, vi l1, vr (4 * l1)] h (fun h4 =>
      Q h4))) :
    CV 5 mX10_remember [vr 68, vi l1] h Q := by
  refine CV_of_E fX10_remember.1 rfl (Nat.le_of_ble_eq_true rfl) ?_
  show E 5 mX10_remember 0 [(0, vr 68), (1, vi l1)] [] h (qv Q)
  refine E_iload_n 1 1 dX10_remember_0 rfl rfl ?_
  refine E_invSI [vi l1] dX10_remember_1 fX10_isNetwork lX10_90 (by decide) rfl rfl (Nat.le_of_ble_eq_true rfl) (sX10_isNetwork (h := h) (l0 := l1) ?_)
  refine E_if_eq 21 dX10_remember_4 rfl (fun hc => ?_) (fun hc => ?_)
  · replace hP := hP.1 (by have := ite0 hc; omega)
    exact E_retV dX10_remember_21 rfl hP
  · replace hP := hP.2 (by have := ite1 hc; omega)
    obtain ⟨v3_0, hP⟩ := hP
    refine E_aload_n 0 0 dX10_remember_7 rfl rfl ?_
    refine E_gR 70 2 dX10_remember_8 FX10_23 ic_68 (by decide) ?_
    refine E_iload_n 1 1 dX10_remember_11 rfl rfl ?_
    refine E_aload_n 0 0 dX10_remember_12 rfl rfl ?_
    refine E_gR 69 0 dX10_remember_13 FX10_11 ic_68 (by decide) ?_
    refine E_iload_n 1 1 dX10_remember_16 rfl rfl ?_
    refine E_aaloadN dX10_remember_17 ic_69 v3_0.1 v3_0.2 (rf_nets ⟨v3_0.1, v3_0.2⟩) ?_
    refine E_invVV [vi l1, vr (4 * l1)] dX10_remember_18 fX2_keep lX10_329 ic_70 rfl (by decide) rfl rfl (Nat.le_of_ble_eq_true rfl) (CV_mono hP (fun h4 hP => ?_))
    exact E_retV dX10_remember_21 rfl hP
theorem dX10_reset_0 : decode prog_1_method_2_code 0 = .ok (.iload_n 1, 1) := by decide +kernel
theorem dX10_reset_1 : decode prog_1_method_2_code 1 = .ok (.invokestatic 90, 3) := by decide +kernel
theorem dX10_reset_4 : decode prog_1_method_2_code 4 = .ok (.ifCond .ne 5, 3) := by decide +kernel
theorem dX10_reset_7 : decode prog_1_method_2_code 7 = .ok (.iconst (-1), 1) := by decide +kernel
theorem dX10_reset_8 : decode prog_1_method_2_code 8 = .ok (.ireturn, 1) := by decide +kernel
theorem dX10_reset_9 : decode prog_1_method_2_code 9 = .ok (.iload_n 2, 1) := by decide +kernel
theorem dX10_reset_10 : decode prog_1_method_2_code 10 = .ok (.invokestatic 94, 3) := by decide +kernel
theorem dX10_reset_13 : decode prog_1_method_2_code 13 = .ok (.ifCond .ne 6, 3) := by decide +kernel
theorem dX10_reset_16 : decode prog_1_method_2_code 16 = .ok (.bipush (-2), 2) := by decide +kernel
theorem dX10_reset_18 : decode prog_1_method_2_code 18 = .ok (.ireturn, 1) := by decide +kernel
theorem dX10_reset_19 : decode prog_1_method_2_code 19 = .ok (.aload_n 0, 1) := by decide +kernel
theorem dX10_reset_20 : decode prog_1_method_2_code 20 = .ok (.iload_n 1, 1) := by decide +kernel
theorem dX10_reset_21 : decode prog_1_method_2_code 21 = .ok (.invokevirtual 97, 3) := by decide +kernel
theorem dX10_reset_24 : decode prog_1_method_2_code 24 = .ok (.aload_n 0, 1) := by decide +kernel
theorem dX10_reset_25 : decode prog_1_method_2_code 25 = .ok (.getfield 11, 3) := by decide +kernel
theorem dX10_reset_28 : decode prog_1_method_2_code 28 = .ok (.iload_n 1, 1) := by decide +kernel
theorem dX10_reset_29 : decode prog_1_method_2_code 29 = .ok (.aaload, 1) := by decide +kernel
theorem dX10_reset_30 : decode prog_1_method_2_code 30 = .ok (.getfield 101, 3) := by decide +kernel
theorem dX10_reset_33 : decode prog_1_method_2_code 33 = .ok (.istore_n 3, 1) := by decide +kernel
theorem dX10_reset_34 : decode prog_1_method_2_code 34 = .ok (.aload_n 0, 1) := by decide +kernel
theorem dX10_reset_35 : decode prog_1_method_2_code 35 = .ok (.getfield 11, 3) := by decide +kernel
theorem dX10_reset_38 : decode prog_1_method_2_code 38 = .ok (.iload_n 1, 1) := by decide +kernel
theorem dX10_reset_39 : decode prog_1_method_2_code 39 = .ok (.aaload, 1) := by decide +kernel
theorem dX10_reset_40 : decode prog_1_method_2_code 40 = .ok (.iload_n 2, 1) := by decide +kernel
theorem dX10_reset_41 : decode prog_1_method_2_code 41 = .ok (.invokevirtual 105, 3) := by decide +kernel
theorem dX10_reset_44 : decode prog_1_method_2_code 44 = .ok (.iload_n 3, 1) := by decide +kernel
theorem dX10_reset_45 : decode prog_1_method_2_code 45 = .ok (.ireturn, 1) := by decide +kernel
theorem sX10_reset {Q : Int → Hp → Prop} {h : Hp} {l1 l2 : Int}
    (hP : ((l1 ≥ 0 ∧ l1 < 4) →
     ((l2 ≥ 2 ∧ l2 ≤ 8) →
      CV 5 mX10_remember [vr 68, vi l1] h (fun h4 =>
       (ix l1 4 ∧ nA (4 * l1)) ∧
       Q (h4 (4 * l1) 1) (up (up h4 (4 * l1) 0 l2) (4 * l1) 1 0))) ∧
     ((l2 < 2 ∨ l2 > 8) →
      Q (-2) h)) ∧
    ((l1 < 0 ∨ l1 ≥ 4) →
     Q (-1) h)) :
    CI 6 mX10_reset [vr 68, vi l1, vi l2] h Q := by
  refine CI_of_E fX10_reset.1 rfl (Nat.le_of_ble_eq_true rfl) ?_
  show E 6 mX10_reset 0 [(0, vr 68), (1, vi l1), (2, vi l2)] [] h (qi Q)
  refine E_iload_n 1 1 dX10_reset_0 rfl rfl ?_
  refine E_invSI [vi l1] dX10_reset_1 fX10_isNetwork lX10_90 (by decide) rfl rfl (Nat.le_of_ble_eq_true rfl) (sX10_isNetwork (h := h) (l0 := l1) ?_)
  refine E_if_ne 9 dX10_reset_4 rfl (fun hc => ?_) (fun hc => ?_)
  · replace hP := hP.1 (by have := ite1' hc; omega)
    refine E_iload_n 2 2 dX10_reset_9 rfl rfl ?_
    refine E_invSI [vi l2] dX10_reset_10 fX10_isWireCount lX10_94 (by decide) rfl rfl (Nat.le_of_ble_eq_true rfl) (sX10_isWireCount (h := h) (l0 := l2) ?_)
    refine E_if_ne 19 dX10_reset_13 rfl (fun hc => ?_) (fun hc => ?_)
    · replace hP := hP.1 (by have := ite1' hc; omega)
      refine E_aload_n 0 0 dX10_reset_19 rfl rfl ?_
      refine E_iload_n 1 1 dX10_reset_20 rfl rfl ?_
      refine E_invVV [vi l1] dX10_reset_21 fX10_remember lX10_97 ic_68 rfl (by decide) rfl rfl (Nat.le_of_ble_eq_true rfl) (CV_mono hP (fun h4 hP => ?_))
      obtain ⟨⟨v5_0, v5_1⟩, hP⟩ := hP
      refine E_aload_n 0 0 dX10_reset_24 rfl rfl ?_
      refine E_gR 69 0 dX10_reset_25 FX10_11 ic_68 (by decide) ?_
      refine E_iload_n 1 1 dX10_reset_28 rfl rfl ?_
      refine E_aaloadN dX10_reset_29 ic_69 v5_0.1 v5_0.2 (rf_nets ⟨v5_0.1, v5_0.2⟩) ?_
      refine E_gI 1 1 dX10_reset_30 FX10_101 (icN0 v5_1) rfl ?_
      refine E_istore_n dX10_reset_33 rfl (by decide) rfl ?_
      refine E_aload_n 1 0 dX10_reset_34 rfl rfl ?_
      refine E_gR 69 0 dX10_reset_35 FX10_11 ic_68 (by decide) ?_
      refine E_iload_n 2 1 dX10_reset_38 rfl rfl ?_
      refine E_aaloadN dX10_reset_39 ic_69 v5_0.1 v5_0.2 (rf_nets ⟨v5_0.1, v5_0.2⟩) ?_
      refine E_iload_n 3 2 dX10_reset_40 rfl rfl ?_
      refine E_invVV [vi l2] dX10_reset_41 fX3_restart lX10_105 (icN0 v5_1) rfl (by decide) rfl rfl (Nat.le_of_ble_eq_true rfl) (sX3_restart (h := h4) (a0 := (4 * l1)) (l1 := l2) ⟨v5_1, ?_⟩)
      refine E_iload_n 0 3 dX10_reset_44 rfl rfl ?_
      exact E_retI dX10_reset_45 rfl hP
    · replace hP := hP.2 (by have := ite0 hc; omega)
      refine E_bipush dX10_reset_16 (by decide) ?_
      exact E_retI dX10_reset_18 rfl hP
  · replace hP := hP.2 (by have := ite0 hc; omega)
    refine E_iconst dX10_reset_7 (rg_of rfl) ?_
    exact E_retI dX10_reset_8 rfl hP
theorem dX10_wires_0 : decode prog_1_method_3_code 0 = .ok (.iload_n 1, 1) := by decide +kernel
theorem dX10_wires_1 : decode prog_1_method_3_code 1 = .ok (.invokestatic 90, 3) := by decide +kernel
theorem dX10_wires_4 : decode prog_1_method_3_code 4 = .ok (.ifCond .eq 15, 3) := by decide +kernel
theorem dX10_wires_7 : decode prog_1_method_3_code 7 = .ok (.aload_n 0, 1) := by decide +kernel
theorem dX10_wires_8 : decode prog_1_method_3_code 8 = .ok (.getfield 11, 3) := by decide +kernel
theorem dX10_wires_11 : decode prog_1_method_3_code 11 = .ok (.iload_n 1, 1) := by decide +kernel
theorem dX10_wires_12 : decode prog_1_method_3_code 12 = .ok (.aaload, 1) := by decide +kernel
theorem dX10_wires_13 : decode prog_1_method_3_code 13 = .ok (.getfield 108, 3) := by decide +kernel
theorem dX10_wires_16 : decode prog_1_method_3_code 16 = .ok (.goto 4, 3) := by decide +kernel
theorem dX10_wires_19 : decode prog_1_method_3_code 19 = .ok (.iconst (-1), 1) := by decide +kernel
theorem dX10_wires_20 : decode prog_1_method_3_code 20 = .ok (.ireturn, 1) := by decide +kernel
theorem sX10_wires {Q : Int → Hp → Prop} {h : Hp} {l1 : Int}
    (hP : (((l1 ≥ 0 ∧ l1 < 4) → (ix l1 4)) ∧ ((l1 ≥ 0 ∧ l1 < 4) → (nA (4 * l1)))) ∧
    Q (if l1 < 0 ∨ l1 ≥ 4 then (-1) else (h (4 * l1) 0)) h) :
    CI 1 mX10_wires [vr 68, vi l1] h Q := by
  refine CI_of_E fX10_wires.1 rfl (Nat.le_of_ble_eq_true rfl) ?_
  show E 1 mX10_wires 0 [(0, vr 68), (1, vi l1)] [] h (qi Q)
  obtain ⟨⟨v1_0, v1_1⟩, hP⟩ := hP
  refine E_iload_n 1 1 dX10_wires_0 rfl rfl ?_
  refine E_invSI [vi l1] dX10_wires_1 fX10_isNetwork lX10_90 (by decide) rfl rfl (Nat.le_of_ble_eq_true rfl) (sX10_isNetwork (h := h) (l0 := l1) ?_)
  have hJ : E 1 mX10_wires 20 [(0, vr 68), (1, vi l1)] [vi (if l1 < 0 ∨ l1 ≥ 4 then (-1) else (h (4 * l1) 0))] h (qi Q) := by
    exact E_retI dX10_wires_20 rfl hP
  refine E_if_eq 19 dX10_wires_4 rfl (fun hc => ?_) (fun hc => ?_)
  · have hp4 := (by have := ite0 hc; omega : l1 < 0 ∨ l1 ≥ 4)
    refine E_iconst dX10_wires_19 (rg_of rfl) ?_
    exact E_top (by first | exact (if_pos (by omega)).symm | exact (if_neg (by omega)).symm | (repeat first | rw [if_pos (by omega)] | rw [if_neg (by omega)])) hJ
  · have hp4 := (by have := ite1 hc; omega : l1 ≥ 0 ∧ l1 < 4)
    refine E_aload_n 0 0 dX10_wires_7 rfl rfl ?_
    refine E_gR 69 0 dX10_wires_8 FX10_11 ic_68 (by decide) ?_
    refine E_iload_n 1 1 dX10_wires_11 rfl rfl ?_
    refine E_aaloadN dX10_wires_12 ic_69 (v1_0 (by omega)).1 (v1_0 (by omega)).2 (rf_nets ⟨(v1_0 (by omega)).1, (v1_0 (by omega)).2⟩) ?_
    refine E_gI 0 0 dX10_wires_13 FX10_108 (icN0 (v1_1 (by omega))) rfl ?_
    refine E_goto 20 dX10_wires_16 rfl ?_
    exact E_top (by first | exact (if_pos (by omega)).symm | exact (if_neg (by omega)).symm | (repeat first | rw [if_pos (by omega)] | rw [if_neg (by omega)])) hJ
theorem dX10_size_0 : decode prog_1_method_4_code 0 = .ok (.iload_n 1, 1) := by decide +kernel
theorem dX10_size_1 : decode prog_1_method_4_code 1 = .ok (.invokestatic 90, 3) := by decide +kernel
theorem dX10_size_4 : decode prog_1_method_4_code 4 = .ok (.ifCond .eq 15, 3) := by decide +kernel
theorem dX10_size_7 : decode prog_1_method_4_code 7 = .ok (.aload_n 0, 1) := by decide +kernel
theorem dX10_size_8 : decode prog_1_method_4_code 8 = .ok (.getfield 11, 3) := by decide +kernel
theorem dX10_size_11 : decode prog_1_method_4_code 11 = .ok (.iload_n 1, 1) := by decide +kernel
theorem dX10_size_12 : decode prog_1_method_4_code 12 = .ok (.aaload, 1) := by decide +kernel
theorem dX10_size_13 : decode prog_1_method_4_code 13 = .ok (.getfield 101, 3) := by decide +kernel
theorem dX10_size_16 : decode prog_1_method_4_code 16 = .ok (.goto 4, 3) := by decide +kernel
theorem dX10_size_19 : decode prog_1_method_4_code 19 = .ok (.iconst (-1), 1) := by decide +kernel
theorem dX10_size_20 : decode prog_1_method_4_code 20 = .ok (.ireturn, 1) := by decide +kernel
theorem sX10_size {Q : Int → Hp → Prop} {h : Hp} {l1 : Int}
    (hP : (((l1 ≥ 0 ∧ l1 < 4) → (ix l1 4)) ∧ ((l1 ≥ 0 ∧ l1 < 4) → (nA (4 * l1)))) ∧
    Q (if l1 < 0 ∨ l1 ≥ 4 then (-1) else (h (4 * l1) 1)) h) :
    CI 1 mX10_size [vr 68, vi l1] h Q := by
  refine CI_of_E fX10_size.1 rfl (Nat.le_of_ble_eq_true rfl) ?_
  show E 1 mX10_size 0 [(0, vr 68), (1, vi l1)] [] h (qi Q)
  obtain ⟨⟨v1_0, v1_1⟩, hP⟩ := hP
  refine E_iload_n 1 1 dX10_size_0 rfl rfl ?_
  refine E_invSI [vi l1] dX10_size_1 fX10_isNetwork lX10_90 (by decide) rfl rfl (Nat.le_of_ble_eq_true rfl) (sX10_isNetwork (h := h) (l0 := l1) ?_)
  have hJ : E 1 mX10_size 20 [(0, vr 68), (1, vi l1)] [vi (if l1 < 0 ∨ l1 ≥ 4 then (-1) else (h (4 * l1) 1))] h (qi Q) := by
    exact E_retI dX10_size_20 rfl hP
  refine E_if_eq 19 dX10_size_4 rfl (fun hc => ?_) (fun hc => ?_)
  · have hp4 := (by have := ite0 hc; omega : l1 < 0 ∨ l1 ≥ 4)
    refine E_iconst dX10_size_19 (rg_of rfl) ?_
    exact E_top (by first | exact (if_pos (by omega)).symm | exact (if_neg (by omega)).symm | (repeat first | rw [if_pos (by omega)] | rw [if_neg (by omega)])) hJ
  · have hp4 := (by have := ite1 hc; omega : l1 ≥ 0 ∧ l1 < 4)
    refine E_aload_n 0 0 dX10_size_7 rfl rfl ?_
    refine E_gR 69 0 dX10_size_8 FX10_11 ic_68 (by decide) ?_
    refine E_iload_n 1 1 dX10_size_11 rfl rfl ?_
    refine E_aaloadN dX10_size_12 ic_69 (v1_0 (by omega)).1 (v1_0 (by omega)).2 (rf_nets ⟨(v1_0 (by omega)).1, (v1_0 (by omega)).2⟩) ?_
    refine E_gI 1 1 dX10_size_13 FX10_101 (icN0 (v1_1 (by omega))) rfl ?_
    refine E_goto 20 dX10_size_16 rfl ?_
    exact E_top (by first | exact (if_pos (by omega)).symm | exact (if_neg (by omega)).symm | (repeat first | rw [if_pos (by omega)] | rw [if_neg (by omega)])) hJ
theorem dX10_isPosition_0 : decode prog_1_method_52_code 0 = .ok (.iload_n 1, 1) := by decide +kernel
theorem dX10_isPosition_1 : decode prog_1_method_52_code 1 = .ok (.invokestatic 90, 3) := by decide +kernel
theorem dX10_isPosition_4 : decode prog_1_method_52_code 4 = .ok (.ifCond .eq 20, 3) := by decide +kernel
theorem dX10_isPosition_7 : decode prog_1_method_52_code 7 = .ok (.aload_n 0, 1) := by decide +kernel
theorem dX10_isPosition_8 : decode prog_1_method_52_code 8 = .ok (.getfield 11, 3) := by decide +kernel
theorem dX10_isPosition_11 : decode prog_1_method_52_code 11 = .ok (.iload_n 1, 1) := by decide +kernel
theorem dX10_isPosition_12 : decode prog_1_method_52_code 12 = .ok (.aaload, 1) := by decide +kernel
theorem dX10_isPosition_13 : decode prog_1_method_52_code 13 = .ok (.iload_n 2, 1) := by decide +kernel
theorem dX10_isPosition_14 : decode prog_1_method_52_code 14 = .ok (.invokevirtual 326, 3) := by decide +kernel
theorem dX10_isPosition_17 : decode prog_1_method_52_code 17 = .ok (.ifCond .eq 7, 3) := by decide +kernel
theorem dX10_isPosition_20 : decode prog_1_method_52_code 20 = .ok (.iconst 1, 1) := by decide +kernel
theorem dX10_isPosition_21 : decode prog_1_method_52_code 21 = .ok (.goto 4, 3) := by decide +kernel
theorem dX10_isPosition_24 : decode prog_1_method_52_code 24 = .ok (.iconst 0, 1) := by decide +kernel
theorem dX10_isPosition_25 : decode prog_1_method_52_code 25 = .ok (.ireturn, 1) := by decide +kernel
theorem sX10_isPosition {Q : Int → Hp → Prop} {h : Hp} {l1 l2 : Int}
    (hP : (((l1 ≥ 0 ∧ l1 < 4) → (ix l1 4)) ∧ ((l1 ≥ 0 ∧ l1 < 4) → (nA (4 * l1))) ∧ ((l1 ≥ 0 ∧ l1 < 4) → ((l2 ≥ 0) → (nA (4 * l1))))) ∧
    Q (if (l1 ≥ 0 ∧ l1 < 4) ∧ (l2 ≥ 0 ∧ l2 < (h (4 * l1) 1)) then (1 : Int) else 0) h) :
    CI 1 mX10_isPosition [vr 68, vi l1, vi l2] h Q := by
  refine CI_of_E fX10_isPosition.1 rfl (Nat.le_of_ble_eq_true rfl) ?_
  show E 1 mX10_isPosition 0 [(0, vr 68), (1, vi l1), (2, vi l2)] [] h (qi Q)
  obtain ⟨⟨v1_0, v1_1, v1_2⟩, hP⟩ := hP
  refine E_iload_n 1 1 dX10_isPosition_0 rfl rfl ?_
  refine E_invSI [vi l1] dX10_isPosition_1 fX10_isNetwork lX10_90 (by decide) rfl rfl (Nat.le_of_ble_eq_true rfl) (sX10_isNetwork (h := h) (l0 := l1) ?_)
  have hJ : E 1 mX10_isPosition 25 [(0, vr 68), (1, vi l1), (2, vi l2)] [vi (if (l1 ≥ 0 ∧ l1 < 4) ∧ (l2 ≥ 0 ∧ l2 < (h (4 * l1) 1)) then (1 : Int) else 0)] h (qi Q) := by
    exact E_retZ dX10_isPosition_25 rfl (b01 _) hP
  refine E_if_eq 24 dX10_isPosition_4 rfl (fun hc => ?_) (fun hc => ?_)
  · have hp4 := (by have := ite0 hc; omega : l1 < 0 ∨ l1 ≥ 4)
    refine E_iconst dX10_isPosition_24 (rg_of rfl) ?_
    exact E_top (if_neg (by omega)).symm hJ
  · have hp4 := (by have := ite1 hc; omega : l1 ≥ 0 ∧ l1 < 4)
    refine E_aload_n 0 0 dX10_isPosition_7 rfl rfl ?_
    refine E_gR 69 0 dX10_isPosition_8 FX10_11 ic_68 (by decide) ?_
    refine E_iload_n 1 1 dX10_isPosition_11 rfl rfl ?_
    refine E_aaloadN dX10_isPosition_12 ic_69 (v1_0 (by omega)).1 (v1_0 (by omega)).2 (rf_nets ⟨(v1_0 (by omega)).1, (v1_0 (by omega)).2⟩) ?_
    refine E_iload_n 2 2 dX10_isPosition_13 rfl rfl ?_
    refine E_invVI [vi l2] dX10_isPosition_14 fX3_hasPosition lX10_326 (icN0 (v1_1 (by omega))) rfl (by decide) rfl rfl (Nat.le_of_ble_eq_true rfl) (sX3_hasPosition (h := h) (a0 := (4 * l1)) (l1 := l2) ⟨(v1_2 (by omega)), ?_⟩)
    refine E_if_eq 24 dX10_isPosition_17 rfl (fun hc => ?_) (fun hc => ?_)
    · have hp17 := (by have := ite0 hc; omega : l2 < 0 ∨ l2 ≥ (h (4 * l1) 1))
      refine E_iconst dX10_isPosition_24 (rg_of rfl) ?_
      exact E_top (if_neg (by omega)).symm hJ
    · have hp17 := (by have := ite1 hc; omega : l2 ≥ 0 ∧ l2 < (h (4 * l1) 1))
      refine E_iconst dX10_isPosition_20 (rg_of rfl) ?_
      refine E_goto 25 dX10_isPosition_21 rfl ?_
      exact E_top (if_pos (by omega)).symm hJ
theorem dX10_comparator_0 : decode prog_1_method_5_code 0 = .ok (.aload_n 0, 1) := by decide +kernel
theorem dX10_comparator_1 : decode prog_1_method_5_code 1 = .ok (.iload_n 1, 1) := by decide +kernel
theorem dX10_comparator_2 : decode prog_1_method_5_code 2 = .ok (.iload_n 2, 1) := by decide +kernel
theorem dX10_comparator_3 : decode prog_1_method_5_code 3 = .ok (.invokevirtual 111, 3) := by decide +kernel
theorem dX10_comparator_6 : decode prog_1_method_5_code 6 = .ok (.ifCond .eq 16, 3) := by decide +kernel
theorem dX10_comparator_9 : decode prog_1_method_5_code 9 = .ok (.aload_n 0, 1) := by decide +kernel
theorem dX10_comparator_10 : decode prog_1_method_5_code 10 = .ok (.getfield 11, 3) := by decide +kernel
theorem dX10_comparator_13 : decode prog_1_method_5_code 13 = .ok (.iload_n 1, 1) := by decide +kernel
theorem dX10_comparator_14 : decode prog_1_method_5_code 14 = .ok (.aaload, 1) := by decide +kernel
theorem dX10_comparator_15 : decode prog_1_method_5_code 15 = .ok (.iload_n 2, 1) := by decide +kernel
theorem dX10_comparator_16 : decode prog_1_method_5_code 16 = .ok (.invokevirtual 115, 3) := by decide +kernel
theorem dX10_comparator_19 : decode prog_1_method_5_code 19 = .ok (.goto 4, 3) := by decide +kernel
theorem dX10_comparator_22 : decode prog_1_method_5_code 22 = .ok (.iconst (-1), 1) := by decide +kernel
theorem dX10_comparator_23 : decode prog_1_method_5_code 23 = .ok (.ireturn, 1) := by decide +kernel
theorem sX10_comparator {Q : Int → Hp → Prop} {h : Hp} {l1 l2 : Int}
    (hP : (((l1 ≥ 0 ∧ l1 < 4) → (ix l1 4)) ∧ ((l1 ≥ 0 ∧ l1 < 4) → (nA (4 * l1))) ∧ ((l1 ≥ 0 ∧ l1 < 4) → ((l2 ≥ 0) → (nA (4 * l1)))) ∧ (((l1 ≥ 0 ∧ l1 < 4) ∧ (l2 ≥ 0 ∧ l2 < (h (4 * l1) 1))) → (ix l1 4)) ∧ (((l1 ≥ 0 ∧ l1 < 4) ∧ (l2 ≥ 0 ∧ l2 < (h (4 * l1) 1))) → (nA (4 * l1))) ∧ (((l1 ≥ 0 ∧ l1 < 4) ∧ (l2 ≥ 0 ∧ l2 < (h (4 * l1) 1))) → ((l2 ≥ 0) → (nA (4 * l1)))) ∧ (((l1 ≥ 0 ∧ l1 < 4) ∧ (l2 ≥ 0 ∧ l2 < (h (4 * l1) 1))) → ((l2 ≥ 0 ∧ l2 < (h (4 * l1) 1)) → (ix l2 40))) ∧ (((l1 ≥ 0 ∧ l1 < 4) ∧ (l2 ≥ 0 ∧ l2 < (h (4 * l1) 1))) → ((l2 ≥ 0 ∧ l2 < (h (4 * l1) 1)) → (rj (10 * (h ((4 * l1) + 1) l2))))) ∧ (((l1 ≥ 0 ∧ l1 < 4) ∧ (l2 ≥ 0 ∧ l2 < (h (4 * l1) 1))) → ((l2 ≥ 0 ∧ l2 < (h (4 * l1) 1)) → (rj ((10 * (h ((4 * l1) + 1) l2)) + (h ((4 * l1) + 2) l2)))))) ∧
    Q (if (l1 < 0 ∨ l1 ≥ 4) ∨ (l2 < 0 ∨ l2 ≥ (h (4 * l1) 1)) then (-1) else (if l2 < 0 ∨ l2 ≥ (h (4 * l1) 1) then (-1) else ((10 * (h ((4 * l1) + 1) l2)) + (h ((4 * l1) + 2) l2)))) h) :
    CI 2 mX10_comparator [vr 68, vi l1, vi l2] h Q := by
  refine CI_of_E fX10_comparator.1 rfl (Nat.le_of_ble_eq_true rfl) ?_
  show E 2 mX10_comparator 0 [(0, vr 68), (1, vi l1), (2, vi l2)] [] h (qi Q)
  obtain ⟨⟨v1_0, v1_1, v1_2, v1_3, v1_4, v1_5, v1_6, v1_7, v1_8⟩, hP⟩ := hP
  refine E_aload_n 0 0 dX10_comparator_0 rfl rfl ?_
  refine E_iload_n 1 1 dX10_comparator_1 rfl rfl ?_
  refine E_iload_n 2 2 dX10_comparator_2 rfl rfl ?_
  refine E_invVI [vi l1, vi l2] dX10_comparator_3 fX10_isPosition lX10_111 ic_68 rfl (by decide) rfl rfl (Nat.le_of_ble_eq_true rfl) (sX10_isPosition (h := h) (l1 := l1) (l2 := l2) ⟨⟨v1_0, v1_1, v1_2⟩, ?_⟩)
  have hJ : E 2 mX10_comparator 23 [(0, vr 68), (1, vi l1), (2, vi l2)] [vi (if (l1 < 0 ∨ l1 ≥ 4) ∨ (l2 < 0 ∨ l2 ≥ (h (4 * l1) 1)) then (-1) else (if l2 < 0 ∨ l2 ≥ (h (4 * l1) 1) then (-1) else ((10 * (h ((4 * l1) + 1) l2)) + (h ((4 * l1) + 2) l2))))] h (qi Q) := by
    exact E_retI dX10_comparator_23 rfl hP
  refine E_if_eq 22 dX10_comparator_6 rfl (fun hc => ?_) (fun hc => ?_)
  · have hp6 := (by have := ite0 hc; omega : (l1 < 0 ∨ l1 ≥ 4) ∨ (l2 < 0 ∨ l2 ≥ (h (4 * l1) 1)))
    refine E_iconst dX10_comparator_22 (rg_of rfl) ?_
    exact E_top (by first | exact (if_pos (by omega)).symm | exact (if_neg (by omega)).symm | (repeat first | rw [if_pos (by omega)] | rw [if_neg (by omega)])) hJ
  · have hp6 := (by have := ite1 hc; omega : (l1 ≥ 0 ∧ l1 < 4) ∧ (l2 ≥ 0 ∧ l2 < (h (4 * l1) 1)))
    refine E_aload_n 0 0 dX10_comparator_9 rfl rfl ?_
    refine E_gR 69 0 dX10_comparator_10 FX10_11 ic_68 (by decide) ?_
    refine E_iload_n 1 1 dX10_comparator_13 rfl rfl ?_
    refine E_aaloadN dX10_comparator_14 ic_69 (v1_3 (by omega)).1 (v1_3 (by omega)).2 (rf_nets ⟨(v1_3 (by omega)).1, (v1_3 (by omega)).2⟩) ?_
    refine E_iload_n 2 2 dX10_comparator_15 rfl rfl ?_
    refine E_invVI [vi l2] dX10_comparator_16 fX3_codeAt lX10_115 (icN0 (v1_4 (by omega))) rfl (by decide) rfl rfl (Nat.le_of_ble_eq_true rfl) (sX3_codeAt (h := h) (a0 := (4 * l1)) (l1 := l2) ⟨⟨(v1_4 (by omega)), (v1_5 (by omega)), (v1_6 (by omega)), (v1_7 (by omega)), (v1_8 (by omega))⟩, ?_⟩)
    refine E_goto 23 dX10_comparator_19 rfl ?_
    exact E_top (by first | exact (if_pos (by omega)).symm | exact (if_neg (by omega)).symm | (repeat first | rw [if_pos (by omega)] | rw [if_neg (by omega)])) hJ
theorem dX10_pushInto_0 : decode prog_1_method_57_code 0 = .ok (.aload_n 0, 1) := by decide +kernel
theorem dX10_pushInto_1 : decode prog_1_method_57_code 1 = .ok (.getfield 11, 3) := by decide +kernel
theorem dX10_pushInto_4 : decode prog_1_method_57_code 4 = .ok (.iload_n 1, 1) := by decide +kernel
theorem dX10_pushInto_5 : decode prog_1_method_57_code 5 = .ok (.aaload, 1) := by decide +kernel
theorem dX10_pushInto_6 : decode prog_1_method_57_code 6 = .ok (.iload_n 3, 1) := by decide +kernel
theorem dX10_pushInto_7 : decode prog_1_method_57_code 7 = .ok (.iload 4, 2) := by decide +kernel
theorem dX10_pushInto_9 : decode prog_1_method_57_code 9 = .ok (.invokevirtual 333, 3) := by decide +kernel
theorem dX10_pushInto_12 : decode prog_1_method_57_code 12 = .ok (.istore 5, 2) := by decide +kernel
theorem dX10_pushInto_14 : decode prog_1_method_57_code 14 = .ok (.iload 5, 2) := by decide +kernel
theorem dX10_pushInto_16 : decode prog_1_method_57_code 16 = .ok (.ifCond .eq 6, 3) := by decide +kernel
theorem dX10_pushInto_19 : decode prog_1_method_57_code 19 = .ok (.iload 5, 2) := by decide +kernel
theorem dX10_pushInto_21 : decode prog_1_method_57_code 21 = .ok (.ireturn, 1) := by decide +kernel
theorem dX10_pushInto_22 : decode prog_1_method_57_code 22 = .ok (.aload_n 0, 1) := by decide +kernel
theorem dX10_pushInto_23 : decode prog_1_method_57_code 23 = .ok (.iload_n 1, 1) := by decide +kernel
theorem dX10_pushInto_24 : decode prog_1_method_57_code 24 = .ok (.invokevirtual 97, 3) := by decide +kernel
theorem dX10_pushInto_27 : decode prog_1_method_57_code 27 = .ok (.aload_n 0, 1) := by decide +kernel
theorem dX10_pushInto_28 : decode prog_1_method_57_code 28 = .ok (.getfield 11, 3) := by decide +kernel
theorem dX10_pushInto_31 : decode prog_1_method_57_code 31 = .ok (.iload_n 1, 1) := by decide +kernel
theorem dX10_pushInto_32 : decode prog_1_method_57_code 32 = .ok (.aaload, 1) := by decide +kernel
theorem dX10_pushInto_33 : decode prog_1_method_57_code 33 = .ok (.iload_n 2, 1) := by decide +kernel
theorem dX10_pushInto_34 : decode prog_1_method_57_code 34 = .ok (.iload_n 3, 1) := by decide +kernel
theorem dX10_pushInto_35 : decode prog_1_method_57_code 35 = .ok (.iload 4, 2) := by decide +kernel
theorem dX10_pushInto_37 : decode prog_1_method_57_code 37 = .ok (.invokevirtual 337, 3) := by decide +kernel
theorem dX10_pushInto_40 : decode prog_1_method_57_code 40 = .ok (.aload_n 0, 1) := by decide +kernel
theorem dX10_pushInto_41 : decode prog_1_method_57_code 41 = .ok (.getfield 11, 3) := by decide +kernel
theorem dX10_pushInto_44 : decode prog_1_method_57_code 44 = .ok (.iload_n 1, 1) := by decide +kernel
theorem dX10_pushInto_45 : decode prog_1_method_57_code 45 = .ok (.aaload, 1) := by decide +kernel
theorem dX10_pushInto_46 : decode prog_1_method_57_code 46 = .ok (.getfield 101, 3) := by decide +kernel
theorem dX10_pushInto_49 : decode prog_1_method_57_code 49 = .ok (.ireturn, 1) := by decide +kernel
theorem sX10_pushInto {Q : Int → Hp → Prop} {h : Hp} {l1 l2 l3 l4 : Int}
    (hP : (ix l1 4 ∧ nA (4 * l1)) ∧
    CI 1 mX3_refusal [vr (4 * l1), vi l3, vi l4] h (fun r3 h2 =>
     ((r3 = 0) →
      CV 5 mX10_remember [vr 68, vi l1] h2 (fun h6 =>
       (ix l1 4 ∧ nA (4 * l1)) ∧
       CV 2 mX3_pushAt [vr (4 * l1), vi l2, vi l3, vi l4] h6 (fun h8 =>
        (ix l1 4 ∧ nA (4 * l1)) ∧
        Q (h8 (4 * l1) 1) h8))) ∧
     ((r3 ≠ 0) →
      Q r3 h2))) :
    CI 6 mX10_pushInto [vr 68, vi l1, vi l2, vi l3, vi l4] h Q := by
  refine CI_of_E fX10_pushInto.1 rfl (Nat.le_of_ble_eq_true rfl) ?_
  show E 6 mX10_pushInto 0 [(0, vr 68), (1, vi l1), (2, vi l2), (3, vi l3), (4, vi l4)] [] h (qi Q)
  obtain ⟨⟨v1_0, v1_1⟩, hP⟩ := hP
  refine E_aload_n 0 0 dX10_pushInto_0 rfl rfl ?_
  refine E_gR 69 0 dX10_pushInto_1 FX10_11 ic_68 (by decide) ?_
  refine E_iload_n 1 1 dX10_pushInto_4 rfl rfl ?_
  refine E_aaloadN dX10_pushInto_5 ic_69 v1_0.1 v1_0.2 (rf_nets ⟨v1_0.1, v1_0.2⟩) ?_
  refine E_iload_n 3 3 dX10_pushInto_6 rfl rfl ?_
  refine E_iload 4 dX10_pushInto_7 rfl ?_
  refine E_invVI [vi l3, vi l4] dX10_pushInto_9 fX3_refusal lX10_333 (icN0 v1_1) rfl (by decide) rfl rfl (Nat.le_of_ble_eq_true rfl) (CI_mono hP (fun r3 h2 hP => ?_))
  refine E_istore dX10_pushInto_12 (by decide) rfl ?_
  refine E_iload 0 dX10_pushInto_14 rfl ?_
  refine E_if_eq 22 dX10_pushInto_16 rfl (fun hc => ?_) (fun hc => ?_)
  · replace hP := hP.1 (hc)
    refine E_aload_n 1 0 dX10_pushInto_22 rfl rfl ?_
    refine E_iload_n 2 1 dX10_pushInto_23 rfl rfl ?_
    refine E_invVV [vi l1] dX10_pushInto_24 fX10_remember lX10_97 ic_68 rfl (by decide) rfl rfl (Nat.le_of_ble_eq_true rfl) (CV_mono hP (fun h6 hP => ?_))
    obtain ⟨⟨v7_0, v7_1⟩, hP⟩ := hP
    refine E_aload_n 1 0 dX10_pushInto_27 rfl rfl ?_
    refine E_gR 69 0 dX10_pushInto_28 FX10_11 ic_68 (by decide) ?_
    refine E_iload_n 2 1 dX10_pushInto_31 rfl rfl ?_
    refine E_aaloadN dX10_pushInto_32 ic_69 v7_0.1 v7_0.2 (rf_nets ⟨v7_0.1, v7_0.2⟩) ?_
    refine E_iload_n 3 2 dX10_pushInto_33 rfl rfl ?_
    refine E_iload_n 4 3 dX10_pushInto_34 rfl rfl ?_
    refine E_iload 5 dX10_pushInto_35 rfl ?_
    refine E_invVV [vi l2, vi l3, vi l4] dX10_pushInto_37 fX3_pushAt lX10_337 (icN0 v7_1) rfl (by decide) rfl rfl (Nat.le_of_ble_eq_true rfl) (CV_mono hP (fun h8 hP => ?_))
    obtain ⟨⟨v9_0, v9_1⟩, hP⟩ := hP
    refine E_aload_n 1 0 dX10_pushInto_40 rfl rfl ?_
    refine E_gR 69 0 dX10_pushInto_41 FX10_11 ic_68 (by decide) ?_
    refine E_iload_n 2 1 dX10_pushInto_44 rfl rfl ?_
    refine E_aaloadN dX10_pushInto_45 ic_69 v9_0.1 v9_0.2 (rf_nets ⟨v9_0.1, v9_0.2⟩) ?_
    refine E_gI 1 1 dX10_pushInto_46 FX10_101 (icN0 v9_1) rfl ?_
    exact E_retI dX10_pushInto_49 rfl hP
  · replace hP := hP.2 (by omega)
    refine E_iload 0 dX10_pushInto_19 rfl ?_
    exact E_retI dX10_pushInto_21 rfl hP
theorem dX10_add_0 : decode prog_1_method_6_code 0 = .ok (.iload_n 1, 1) := by decide +kernel
theorem dX10_add_1 : decode prog_1_method_6_code 1 = .ok (.invokestatic 90, 3) := by decide +kernel
theorem dX10_add_4 : decode prog_1_method_6_code 4 = .ok (.ifCond .eq 22, 3) := by decide +kernel
theorem dX10_add_7 : decode prog_1_method_6_code 7 = .ok (.aload_n 0, 1) := by decide +kernel
theorem dX10_add_8 : decode prog_1_method_6_code 8 = .ok (.iload_n 1, 1) := by decide +kernel
theorem dX10_add_9 : decode prog_1_method_6_code 9 = .ok (.aload_n 0, 1) := by decide +kernel
theorem dX10_add_10 : decode prog_1_method_6_code 10 = .ok (.getfield 11, 3) := by decide +kernel
theorem dX10_add_13 : decode prog_1_method_6_code 13 = .ok (.iload_n 1, 1) := by decide +kernel
theorem dX10_add_14 : decode prog_1_method_6_code 14 = .ok (.aaload, 1) := by decide +kernel
theorem dX10_add_15 : decode prog_1_method_6_code 15 = .ok (.getfield 101, 3) := by decide +kernel
theorem dX10_add_18 : decode prog_1_method_6_code 18 = .ok (.iload_n 2, 1) := by decide +kernel
theorem dX10_add_19 : decode prog_1_method_6_code 19 = .ok (.iload_n 3, 1) := by decide +kernel
theorem dX10_add_20 : decode prog_1_method_6_code 20 = .ok (.invokevirtual 119, 3) := by decide +kernel
theorem dX10_add_23 : decode prog_1_method_6_code 23 = .ok (.goto 4, 3) := by decide +kernel
theorem dX10_add_26 : decode prog_1_method_6_code 26 = .ok (.iconst (-1), 1) := by decide +kernel
theorem dX10_add_27 : decode prog_1_method_6_code 27 = .ok (.ireturn, 1) := by decide +kernel
theorem sX10_add {Q : Int → Hp → Prop} {h : Hp} {l1 l2 l3 : Int}
    (hP : ((l1 < 0 ∨ l1 ≥ 4) →
     Q (-1) h) ∧
    ((l1 ≥ 0 ∧ l1 < 4) →
     (ix l1 4 ∧ nA (4 * l1)) ∧
     CI 6 mX10_pushInto [vr 68, vi l1, vi (h (4 * l1) 1), vi l2, vi l3] h (fun r5 h4 =>
      Q r5 h4))) :
    CI 7 mX10_add [vr 68, vi l1, vi l2, vi l3] h Q := by
  refine CI_of_E fX10_add.1 rfl (Nat.le_of_ble_eq_true rfl) ?_
  show E 7 mX10_add 0 [(0, vr 68), (1, vi l1), (2, vi l2), (3, vi l3)] [] h (qi Q)
  refine E_iload_n 1 1 dX10_add_0 rfl rfl ?_
  refine E_invSI [vi l1] dX10_add_1 fX10_isNetwork lX10_90 (by decide) rfl rfl (Nat.le_of_ble_eq_true rfl) (sX10_isNetwork (h := h) (l0 := l1) ?_)
  refine E_if_eq 26 dX10_add_4 rfl (fun hc => ?_) (fun hc => ?_)
  · replace hP := hP.1 (by have := ite0 hc; omega)
    refine E_iconst dX10_add_26 (rg_of rfl) ?_
    exact E_retI dX10_add_27 rfl hP
  · replace hP := hP.2 (by have := ite1 hc; omega)
    obtain ⟨⟨v3_0, v3_1⟩, hP⟩ := hP
    refine E_aload_n 0 0 dX10_add_7 rfl rfl ?_
    refine E_iload_n 1 1 dX10_add_8 rfl rfl ?_
    refine E_aload_n 0 0 dX10_add_9 rfl rfl ?_
    refine E_gR 69 0 dX10_add_10 FX10_11 ic_68 (by decide) ?_
    refine E_iload_n 1 1 dX10_add_13 rfl rfl ?_
    refine E_aaloadN dX10_add_14 ic_69 v3_0.1 v3_0.2 (rf_nets ⟨v3_0.1, v3_0.2⟩) ?_
    refine E_gI 1 1 dX10_add_15 FX10_101 (icN0 v3_1) rfl ?_
    refine E_iload_n 2 2 dX10_add_18 rfl rfl ?_
    refine E_iload_n 3 3 dX10_add_19 rfl rfl ?_
    refine E_invVI [vi l1, vi (h (4 * l1) 1), vi l2, vi l3] dX10_add_20 fX10_pushInto lX10_119 ic_68 rfl (by decide) rfl rfl (Nat.le_of_ble_eq_true rfl) (CI_mono hP (fun r5 h4 hP => ?_))
    refine E_goto 27 dX10_add_23 rfl ?_
    exact E_retI dX10_add_27 rfl hP
theorem dX10_insert_0 : decode prog_1_method_7_code 0 = .ok (.iload_n 1, 1) := by decide +kernel
theorem dX10_insert_1 : decode prog_1_method_7_code 1 = .ok (.invokestatic 90, 3) := by decide +kernel
theorem dX10_insert_4 : decode prog_1_method_7_code 4 = .ok (.ifCond .eq 20, 3) := by decide +kernel
theorem dX10_insert_7 : decode prog_1_method_7_code 7 = .ok (.iload_n 2, 1) := by decide +kernel
theorem dX10_insert_8 : decode prog_1_method_7_code 8 = .ok (.ifCond .lt 16, 3) := by decide +kernel
theorem dX10_insert_11 : decode prog_1_method_7_code 11 = .ok (.iload_n 2, 1) := by decide +kernel
theorem dX10_insert_12 : decode prog_1_method_7_code 12 = .ok (.aload_n 0, 1) := by decide +kernel
theorem dX10_insert_13 : decode prog_1_method_7_code 13 = .ok (.getfield 11, 3) := by decide +kernel
theorem dX10_insert_16 : decode prog_1_method_7_code 16 = .ok (.iload_n 1, 1) := by decide +kernel
theorem dX10_insert_17 : decode prog_1_method_7_code 17 = .ok (.aaload, 1) := by decide +kernel
theorem dX10_insert_18 : decode prog_1_method_7_code 18 = .ok (.getfield 101, 3) := by decide +kernel
theorem dX10_insert_21 : decode prog_1_method_7_code 21 = .ok (.if_icmp .le 5, 3) := by decide +kernel
theorem dX10_insert_24 : decode prog_1_method_7_code 24 = .ok (.iconst (-1), 1) := by decide +kernel
theorem dX10_insert_25 : decode prog_1_method_7_code 25 = .ok (.ireturn, 1) := by decide +kernel
theorem dX10_insert_26 : decode prog_1_method_7_code 26 = .ok (.aload_n 0, 1) := by decide +kernel
theorem dX10_insert_27 : decode prog_1_method_7_code 27 = .ok (.iload_n 1, 1) := by decide +kernel
theorem dX10_insert_28 : decode prog_1_method_7_code 28 = .ok (.iload_n 2, 1) := by decide +kernel
theorem dX10_insert_29 : decode prog_1_method_7_code 29 = .ok (.iload_n 3, 1) := by decide +kernel
theorem dX10_insert_30 : decode prog_1_method_7_code 30 = .ok (.iload 4, 2) := by decide +kernel
theorem dX10_insert_32 : decode prog_1_method_7_code 32 = .ok (.invokevirtual 119, 3) := by decide +kernel
theorem dX10_insert_35 : decode prog_1_method_7_code 35 = .ok (.ireturn, 1) := by decide +kernel
theorem sX10_insert {Q : Int → Hp → Prop} {h : Hp} {l1 l2 l3 l4 : Int}
    (hP : ((l1 < 0 ∨ l1 ≥ 4) →
     Q (-1) h) ∧
    ((l1 ≥ 0 ∧ l1 < 4) →
     ((l2 < 0) →
      Q (-1) h) ∧
     ((l2 ≥ 0) →
      (ix l1 4 ∧ nA (4 * l1)) ∧
      ((l2 ≤ (h (4 * l1) 1)) →
       CI 6 mX10_pushInto [vr 68, vi l1, vi l2, vi l3, vi l4] h (fun r8 h7 =>
        Q r8 h7)) ∧
      ((l2 > (h (4 * l1) 1)) →
       Q (-1) h)))) :
    CI 7 mX10_insert [vr 68, vi l1, vi l2, vi l3, vi l4] h Q := by
  refine CI_of_E fX10_insert.1 rfl (Nat.le_of_ble_eq_true rfl) ?_
  show E 7 mX10_insert 0 [(0, vr 68), (1, vi l1), (2, vi l2), (3, vi l3), (4, vi l4)] [] h (qi Q)
  refine E_iload_n 1 1 dX10_insert_0 rfl rfl ?_
  refine E_invSI [vi l1] dX10_insert_1 fX10_isNetwork lX10_90 (by decide) rfl rfl (Nat.le_of_ble_eq_true rfl) (sX10_isNetwork (h := h) (l0 := l1) ?_)
  refine E_if_eq 24 dX10_insert_4 rfl (fun hc => ?_) (fun hc => ?_)
  · replace hP := hP.1 (by have := ite0 hc; omega)
    refine E_iconst dX10_insert_24 (rg_of rfl) ?_
    exact E_retI dX10_insert_25 rfl hP
  · replace hP := hP.2 (by have := ite1 hc; omega)
    refine E_iload_n 2 2 dX10_insert_7 rfl rfl ?_
    refine E_if_lt 24 dX10_insert_8 rfl (fun hc => ?_) (fun hc => ?_)
    · replace hP := hP.1 (hc)
      refine E_iconst dX10_insert_24 (rg_of rfl) ?_
      exact E_retI dX10_insert_25 rfl hP
    · replace hP := hP.2 (by omega)
      obtain ⟨⟨v5_0, v5_1⟩, hP⟩ := hP
      refine E_iload_n 2 2 dX10_insert_11 rfl rfl ?_
      refine E_aload_n 0 0 dX10_insert_12 rfl rfl ?_
      refine E_gR 69 0 dX10_insert_13 FX10_11 ic_68 (by decide) ?_
      refine E_iload_n 1 1 dX10_insert_16 rfl rfl ?_
      refine E_aaloadN dX10_insert_17 ic_69 v5_0.1 v5_0.2 (rf_nets ⟨v5_0.1, v5_0.2⟩) ?_
      refine E_gI 1 1 dX10_insert_18 FX10_101 (icN0 v5_1) rfl ?_
      refine E_icmp_le 26 dX10_insert_21 rfl (fun hc => ?_) (fun hc => ?_)
      · replace hP := hP.1 (hc)
        refine E_aload_n 0 0 dX10_insert_26 rfl rfl ?_
        refine E_iload_n 1 1 dX10_insert_27 rfl rfl ?_
        refine E_iload_n 2 2 dX10_insert_28 rfl rfl ?_
        refine E_iload_n 3 3 dX10_insert_29 rfl rfl ?_
        refine E_iload 4 dX10_insert_30 rfl ?_
        refine E_invVI [vi l1, vi l2, vi l3, vi l4] dX10_insert_32 fX10_pushInto lX10_119 ic_68 rfl (by decide) rfl rfl (Nat.le_of_ble_eq_true rfl) (CI_mono hP (fun r8 h7 hP => ?_))
        exact E_retI dX10_insert_35 rfl hP
      · replace hP := hP.2 (by omega)
        refine E_iconst dX10_insert_24 (rg_of rfl) ?_
        exact E_retI dX10_insert_25 rfl hP
theorem dX10_remove_0 : decode prog_1_method_8_code 0 = .ok (.aload_n 0, 1) := by decide +kernel
theorem dX10_remove_1 : decode prog_1_method_8_code 1 = .ok (.iload_n 1, 1) := by decide +kernel
theorem dX10_remove_2 : decode prog_1_method_8_code 2 = .ok (.iload_n 2, 1) := by decide +kernel
theorem dX10_remove_3 : decode prog_1_method_8_code 3 = .ok (.invokevirtual 111, 3) := by decide +kernel
theorem dX10_remove_6 : decode prog_1_method_8_code 6 = .ok (.ifCond .ne 5, 3) := by decide +kernel
theorem dX10_remove_9 : decode prog_1_method_8_code 9 = .ok (.iconst (-1), 1) := by decide +kernel
theorem dX10_remove_10 : decode prog_1_method_8_code 10 = .ok (.ireturn, 1) := by decide +kernel
theorem dX10_remove_11 : decode prog_1_method_8_code 11 = .ok (.aload_n 0, 1) := by decide +kernel
theorem dX10_remove_12 : decode prog_1_method_8_code 12 = .ok (.iload_n 1, 1) := by decide +kernel
theorem dX10_remove_13 : decode prog_1_method_8_code 13 = .ok (.invokevirtual 97, 3) := by decide +kernel
theorem dX10_remove_16 : decode prog_1_method_8_code 16 = .ok (.aload_n 0, 1) := by decide +kernel
theorem dX10_remove_17 : decode prog_1_method_8_code 17 = .ok (.getfield 11, 3) := by decide +kernel
theorem dX10_remove_20 : decode prog_1_method_8_code 20 = .ok (.iload_n 1, 1) := by decide +kernel
theorem dX10_remove_21 : decode prog_1_method_8_code 21 = .ok (.aaload, 1) := by decide +kernel
theorem dX10_remove_22 : decode prog_1_method_8_code 22 = .ok (.iload_n 2, 1) := by decide +kernel
theorem dX10_remove_23 : decode prog_1_method_8_code 23 = .ok (.invokevirtual 115, 3) := by decide +kernel
theorem dX10_remove_26 : decode prog_1_method_8_code 26 = .ok (.istore_n 3, 1) := by decide +kernel
theorem dX10_remove_27 : decode prog_1_method_8_code 27 = .ok (.aload_n 0, 1) := by decide +kernel
theorem dX10_remove_28 : decode prog_1_method_8_code 28 = .ok (.getfield 11, 3) := by decide +kernel
theorem dX10_remove_31 : decode prog_1_method_8_code 31 = .ok (.iload_n 1, 1) := by decide +kernel
theorem dX10_remove_32 : decode prog_1_method_8_code 32 = .ok (.aaload, 1) := by decide +kernel
theorem dX10_remove_33 : decode prog_1_method_8_code 33 = .ok (.iload_n 2, 1) := by decide +kernel
theorem dX10_remove_34 : decode prog_1_method_8_code 34 = .ok (.invokevirtual 123, 3) := by decide +kernel
theorem dX10_remove_37 : decode prog_1_method_8_code 37 = .ok (.iload_n 3, 1) := by decide +kernel
theorem dX10_remove_38 : decode prog_1_method_8_code 38 = .ok (.ireturn, 1) := by decide +kernel
theorem sX10_remove {Q : Int → Hp → Prop} {h : Hp} {l1 l2 : Int}
    (hP : (((l1 ≥ 0 ∧ l1 < 4) → (ix l1 4)) ∧ ((l1 ≥ 0 ∧ l1 < 4) → (nA (4 * l1))) ∧ ((l1 ≥ 0 ∧ l1 < 4) → ((l2 ≥ 0) → (nA (4 * l1))))) ∧
    (((l1 ≥ 0 ∧ l1 < 4) ∧ (l2 ≥ 0 ∧ l2 < (h (4 * l1) 1))) →
     CV 5 mX10_remember [vr 68, vi l1] h (fun h3 =>
      (ix l1 4 ∧ nA (4 * l1) ∧ ((l2 ≥ 0) → (nA (4 * l1))) ∧ ((l2 ≥ 0 ∧ l2 < (h3 (4 * l1) 1)) → (ix l2 40)) ∧ ((l2 ≥ 0 ∧ l2 < (h3 (4 * l1) 1)) → (rj (10 * (h3 ((4 * l1) + 1) l2)))) ∧ ((l2 ≥ 0 ∧ l2 < (h3 (4 * l1) 1)) → (rj ((10 * (h3 ((4 * l1) + 1) l2)) + (h3 ((4 * l1) + 2) l2))))) ∧
      (∀ x5 : Int, x5 = (if l2 < 0 ∨ l2 ≥ (h3 (4 * l1) 1) then (-1) else ((10 * (h3 ((4 * l1) + 1) l2)) + (h3 ((4 * l1) + 2) l2))) →
      (ix l1 4 ∧ nA (4 * l1)) ∧
      CV 1 mX3_drop [vr (4 * l1), vi l2] h3 (fun h7 =>
       Q x5 h7)))) ∧
    (((l1 < 0 ∨ l1 ≥ 4) ∨ (l2 < 0 ∨ l2 ≥ (h (4 * l1) 1))) →
     Q (-1) h)) :
    CI 6 mX10_remove [vr 68, vi l1, vi l2] h Q := by
  refine CI_of_E fX10_remove.1 rfl (Nat.le_of_ble_eq_true rfl) ?_
  show E 6 mX10_remove 0 [(0, vr 68), (1, vi l1), (2, vi l2)] [] h (qi Q)
  obtain ⟨⟨v1_0, v1_1, v1_2⟩, hP⟩ := hP
  refine E_aload_n 0 0 dX10_remove_0 rfl rfl ?_
  refine E_iload_n 1 1 dX10_remove_1 rfl rfl ?_
  refine E_iload_n 2 2 dX10_remove_2 rfl rfl ?_
  refine E_invVI [vi l1, vi l2] dX10_remove_3 fX10_isPosition lX10_111 ic_68 rfl (by decide) rfl rfl (Nat.le_of_ble_eq_true rfl) (sX10_isPosition (h := h) (l1 := l1) (l2 := l2) ⟨⟨v1_0, v1_1, v1_2⟩, ?_⟩)
  refine E_if_ne 11 dX10_remove_6 rfl (fun hc => ?_) (fun hc => ?_)
  · replace hP := hP.1 (by have := ite1' hc; omega)
    refine E_aload_n 0 0 dX10_remove_11 rfl rfl ?_
    refine E_iload_n 1 1 dX10_remove_12 rfl rfl ?_
    refine E_invVV [vi l1] dX10_remove_13 fX10_remember lX10_97 ic_68 rfl (by decide) rfl rfl (Nat.le_of_ble_eq_true rfl) (CV_mono hP (fun h3 hP => ?_))
    obtain ⟨⟨v4_0, v4_1, v4_2, v4_3, v4_4, v4_5⟩, hP⟩ := hP
    refine E_aload_n 0 0 dX10_remove_16 rfl rfl ?_
    refine E_gR 69 0 dX10_remove_17 FX10_11 ic_68 (by decide) ?_
    refine E_iload_n 1 1 dX10_remove_20 rfl rfl ?_
    refine E_aaloadN dX10_remove_21 ic_69 v4_0.1 v4_0.2 (rf_nets ⟨v4_0.1, v4_0.2⟩) ?_
    refine E_iload_n 2 2 dX10_remove_22 rfl rfl ?_
    refine E_invVI [vi l2] dX10_remove_23 fX3_codeAt lX10_115 (icN0 v4_1) rfl (by decide) rfl rfl (Nat.le_of_ble_eq_true rfl) (sX3_codeAt (h := h3) (a0 := (4 * l1)) (l1 := l2) ⟨⟨v4_1, v4_2, v4_3, v4_4, v4_5⟩, ?_⟩)
    obtain ⟨x5, hx5⟩ : ∃ x : Int, x = (if l2 < 0 ∨ l2 ≥ (h3 (4 * l1) 1) then (-1) else ((10 * (h3 ((4 * l1) + 1) l2)) + (h3 ((4 * l1) + 2) l2))) := ⟨_, rfl⟩
    refine E_top hx5.symm ?_
    replace hP := hP x5 hx5
    refine E_istore_n dX10_remove_26 rfl (by decide) rfl ?_
    obtain ⟨⟨v6_0, v6_1⟩, hP⟩ := hP
    refine E_aload_n 1 0 dX10_remove_27 rfl rfl ?_
    refine E_gR 69 0 dX10_remove_28 FX10_11 ic_68 (by decide) ?_
    refine E_iload_n 2 1 dX10_remove_31 rfl rfl ?_
    refine E_aaloadN dX10_remove_32 ic_69 v6_0.1 v6_0.2 (rf_nets ⟨v6_0.1, v6_0.2⟩) ?_
    refine E_iload_n 3 2 dX10_remove_33 rfl rfl ?_
    refine E_invVV [vi l2] dX10_remove_34 fX3_drop lX10_123 (icN0 v6_1) rfl (by decide) rfl rfl (Nat.le_of_ble_eq_true rfl) (CV_mono hP (fun h7 hP => ?_))
    refine E_iload_n 0 3 dX10_remove_37 rfl rfl ?_
    exact E_retI dX10_remove_38 rfl hP
  · replace hP := hP.2 (by have := ite0 hc; omega)
    refine E_iconst dX10_remove_9 (rg_of rfl) ?_
    exact E_retI dX10_remove_10 rfl hP
theorem dX10_layer_0 : decode prog_1_method_9_code 0 = .ok (.aload_n 0, 1) := by decide +kernel
theorem dX10_layer_1 : decode prog_1_method_9_code 1 = .ok (.iload_n 1, 1) := by decide +kernel
theorem dX10_layer_2 : decode prog_1_method_9_code 2 = .ok (.iload_n 2, 1) := by decide +kernel
theorem dX10_layer_3 : decode prog_1_method_9_code 3 = .ok (.invokevirtual 111, 3) := by decide +kernel
theorem dX10_layer_6 : decode prog_1_method_9_code 6 = .ok (.ifCond .eq 16, 3) := by decide +kernel
theorem dX10_layer_9 : decode prog_1_method_9_code 9 = .ok (.aload_n 0, 1) := by decide +kernel
theorem dX10_layer_10 : decode prog_1_method_9_code 10 = .ok (.getfield 11, 3) := by decide +kernel
theorem dX10_layer_13 : decode prog_1_method_9_code 13 = .ok (.iload_n 1, 1) := by decide +kernel
theorem dX10_layer_14 : decode prog_1_method_9_code 14 = .ok (.aaload, 1) := by decide +kernel
theorem dX10_layer_15 : decode prog_1_method_9_code 15 = .ok (.iload_n 2, 1) := by decide +kernel
theorem dX10_layer_16 : decode prog_1_method_9_code 16 = .ok (.invokevirtual 126, 3) := by decide +kernel
theorem dX10_layer_19 : decode prog_1_method_9_code 19 = .ok (.goto 4, 3) := by decide +kernel
theorem dX10_layer_22 : decode prog_1_method_9_code 22 = .ok (.iconst (-1), 1) := by decide +kernel
theorem dX10_layer_23 : decode prog_1_method_9_code 23 = .ok (.ireturn, 1) := by decide +kernel
theorem sX10_layer {Q : Int → Hp → Prop} {h : Hp} {l1 l2 : Int}
    (hP : (((l1 ≥ 0 ∧ l1 < 4) → (ix l1 4)) ∧ ((l1 ≥ 0 ∧ l1 < 4) → (nA (4 * l1))) ∧ ((l1 ≥ 0 ∧ l1 < 4) → ((l2 ≥ 0) → (nA (4 * l1))))) ∧
    (((l1 < 0 ∨ l1 ≥ 4) ∨ (l2 < 0 ∨ l2 ≥ (h (4 * l1) 1))) →
     Q (-1) h) ∧
    (((l1 ≥ 0 ∧ l1 < 4) ∧ (l2 ≥ 0 ∧ l2 < (h (4 * l1) 1))) →
     (ix l1 4 ∧ nA (4 * l1)) ∧
     CI 2 mX3_levelAt [vr (4 * l1), vi l2] h (fun r5 h4 =>
      Q r5 h4))) :
    CI 3 mX10_layer [vr 68, vi l1, vi l2] h Q := by
  refine CI_of_E fX10_layer.1 rfl (Nat.le_of_ble_eq_true rfl) ?_
  show E 3 mX10_layer 0 [(0, vr 68), (1, vi l1), (2, vi l2)] [] h (qi Q)
  obtain ⟨⟨v1_0, v1_1, v1_2⟩, hP⟩ := hP
  refine E_aload_n 0 0 dX10_layer_0 rfl rfl ?_
  refine E_iload_n 1 1 dX10_layer_1 rfl rfl ?_
  refine E_iload_n 2 2 dX10_layer_2 rfl rfl ?_
  refine E_invVI [vi l1, vi l2] dX10_layer_3 fX10_isPosition lX10_111 ic_68 rfl (by decide) rfl rfl (Nat.le_of_ble_eq_true rfl) (sX10_isPosition (h := h) (l1 := l1) (l2 := l2) ⟨⟨v1_0, v1_1, v1_2⟩, ?_⟩)
  refine E_if_eq 22 dX10_layer_6 rfl (fun hc => ?_) (fun hc => ?_)
  · replace hP := hP.1 (by have := ite0 hc; omega)
    refine E_iconst dX10_layer_22 (rg_of rfl) ?_
    exact E_retI dX10_layer_23 rfl hP
  · replace hP := hP.2 (by have := ite1 hc; omega)
    obtain ⟨⟨v3_0, v3_1⟩, hP⟩ := hP
    refine E_aload_n 0 0 dX10_layer_9 rfl rfl ?_
    refine E_gR 69 0 dX10_layer_10 FX10_11 ic_68 (by decide) ?_
    refine E_iload_n 1 1 dX10_layer_13 rfl rfl ?_
    refine E_aaloadN dX10_layer_14 ic_69 v3_0.1 v3_0.2 (rf_nets ⟨v3_0.1, v3_0.2⟩) ?_
    refine E_iload_n 2 2 dX10_layer_15 rfl rfl ?_
    refine E_invVI [vi l2] dX10_layer_16 fX3_levelAt lX10_126 (icN0 v3_1) rfl (by decide) rfl rfl (Nat.le_of_ble_eq_true rfl) (CI_mono hP (fun r5 h4 hP => ?_))
    refine E_goto 23 dX10_layer_19 rfl ?_
    exact E_retI dX10_layer_23 rfl hP
theorem dX10_depth_0 : decode prog_1_method_10_code 0 = .ok (.iload_n 1, 1) := by decide +kernel
theorem dX10_depth_1 : decode prog_1_method_10_code 1 = .ok (.invokestatic 90, 3) := by decide +kernel
theorem dX10_depth_4 : decode prog_1_method_10_code 4 = .ok (.ifCond .eq 15, 3) := by decide +kernel
theorem dX10_depth_7 : decode prog_1_method_10_code 7 = .ok (.aload_n 0, 1) := by decide +kernel
theorem dX10_depth_8 : decode prog_1_method_10_code 8 = .ok (.getfield 11, 3) := by decide +kernel
theorem dX10_depth_11 : decode prog_1_method_10_code 11 = .ok (.iload_n 1, 1) := by decide +kernel
theorem dX10_depth_12 : decode prog_1_method_10_code 12 = .ok (.aaload, 1) := by decide +kernel
theorem dX10_depth_13 : decode prog_1_method_10_code 13 = .ok (.invokevirtual 129, 3) := by decide +kernel
theorem dX10_depth_16 : decode prog_1_method_10_code 16 = .ok (.goto 4, 3) := by decide +kernel
theorem dX10_depth_19 : decode prog_1_method_10_code 19 = .ok (.iconst (-1), 1) := by decide +kernel
theorem dX10_depth_20 : decode prog_1_method_10_code 20 = .ok (.ireturn, 1) := by decide +kernel
theorem sX10_depth {Q : Int → Hp → Prop} {h : Hp} {l1 : Int}
    (hP : ((l1 < 0 ∨ l1 ≥ 4) →
     Q (-1) h) ∧
    ((l1 ≥ 0 ∧ l1 < 4) →
     (ix l1 4 ∧ nA (4 * l1)) ∧
     CI 2 mX3_levels [vr (4 * l1)] h (fun r5 h4 =>
      Q r5 h4))) :
    CI 3 mX10_depth [vr 68, vi l1] h Q := by
  refine CI_of_E fX10_depth.1 rfl (Nat.le_of_ble_eq_true rfl) ?_
  show E 3 mX10_depth 0 [(0, vr 68), (1, vi l1)] [] h (qi Q)
  refine E_iload_n 1 1 dX10_depth_0 rfl rfl ?_
  refine E_invSI [vi l1] dX10_depth_1 fX10_isNetwork lX10_90 (by decide) rfl rfl (Nat.le_of_ble_eq_true rfl) (sX10_isNetwork (h := h) (l0 := l1) ?_)
  refine E_if_eq 19 dX10_depth_4 rfl (fun hc => ?_) (fun hc => ?_)
  · replace hP := hP.1 (by have := ite0 hc; omega)
    refine E_iconst dX10_depth_19 (rg_of rfl) ?_
    exact E_retI dX10_depth_20 rfl hP
  · replace hP := hP.2 (by have := ite1 hc; omega)
    obtain ⟨⟨v3_0, v3_1⟩, hP⟩ := hP
    refine E_aload_n 0 0 dX10_depth_7 rfl rfl ?_
    refine E_gR 69 0 dX10_depth_8 FX10_11 ic_68 (by decide) ?_
    refine E_iload_n 1 1 dX10_depth_11 rfl rfl ?_
    refine E_aaloadN dX10_depth_12 ic_69 v3_0.1 v3_0.2 (rf_nets ⟨v3_0.1, v3_0.2⟩) ?_
    refine E_invVI [] dX10_depth_13 fX3_levels lX10_129 (icN0 v3_1) rfl (by decide) rfl rfl (Nat.le_of_ble_eq_true rfl) (CI_mono hP (fun r5 h4 hP => ?_))
    refine E_goto 20 dX10_depth_16 rfl ?_
    exact E_retI dX10_depth_20 rfl hP
theorem dX10_append_0 : decode prog_1_method_11_code 0 = .ok (.aload_n 0, 1) := by decide +kernel
theorem dX10_append_1 : decode prog_1_method_11_code 1 = .ok (.getfield 30, 3) := by decide +kernel
theorem dX10_append_4 : decode prog_1_method_11_code 4 = .ok (.iload_n 1, 1) := by decide +kernel
theorem dX10_append_5 : decode prog_1_method_11_code 5 = .ok (.invokevirtual 133, 3) := by decide +kernel
theorem dX10_append_8 : decode prog_1_method_11_code 8 = .ok (.ireturn, 1) := by decide +kernel
theorem sX10_append {Q : Int → Hp → Prop} {h : Hp} {l1 : Int}
    (hP : CI 0 mX8_put [vr 73, vi l1] h (fun r3 h2 =>
     Q r3 h2)) :
    CI 1 mX10_append [vr 68, vi l1] h Q := by
  refine CI_of_E fX10_append.1 rfl (Nat.le_of_ble_eq_true rfl) ?_
  show E 1 mX10_append 0 [(0, vr 68), (1, vi l1)] [] h (qi Q)
  refine E_aload_n 0 0 dX10_append_0 rfl rfl ?_
  refine E_gR 73 3 dX10_append_1 FX10_30 ic_68 (by decide) ?_
  refine E_iload_n 1 1 dX10_append_4 rfl rfl ?_
  refine E_invVI [vi l1] dX10_append_5 fX8_put lX10_133 ic_73 rfl (by decide) rfl rfl (Nat.le_of_ble_eq_true rfl) (CI_mono hP (fun r3 h2 hP => ?_))
  exact E_retI dX10_append_8 rfl hP
theorem dX10_clearText_0 : decode prog_1_method_12_code 0 = .ok (.aload_n 0, 1) := by decide +kernel
theorem dX10_clearText_1 : decode prog_1_method_12_code 1 = .ok (.getfield 30, 3) := by decide +kernel
theorem dX10_clearText_4 : decode prog_1_method_12_code 4 = .ok (.invokevirtual 136, 3) := by decide +kernel
theorem dX10_clearText_7 : decode prog_1_method_12_code 7 = .ok (.ireturn, 1) := by decide +kernel
theorem sX10_clearText {Q : Int → Hp → Prop} {h : Hp}
    (hP : Q (h 73 1) (up h 73 1 0)) :
    CI 1 mX10_clearText [vr 68] h Q := by
  refine CI_of_E fX10_clearText.1 rfl (Nat.le_of_ble_eq_true rfl) ?_
  show E 1 mX10_clearText 0 [(0, vr 68)] [] h (qi Q)
  refine E_aload_n 0 0 dX10_clearText_0 rfl rfl ?_
  refine E_gR 73 3 dX10_clearText_1 FX10_30 ic_68 (by decide) ?_
  refine E_invVI [] dX10_clearText_4 fX8_empty lX10_136 ic_73 rfl (by decide) rfl rfl (Nat.le_of_ble_eq_true rfl) (sX8_empty (h := h)  ?_)
  exact E_retI dX10_clearText_7 rfl hP
theorem dX10_replaceBySpare_0 : decode prog_1_method_58_code 0 = .ok (.aload_n 0, 1) := by decide +kernel
theorem dX10_replaceBySpare_1 : decode prog_1_method_58_code 1 = .ok (.iload_n 1, 1) := by decide +kernel
theorem dX10_replaceBySpare_2 : decode prog_1_method_58_code 2 = .ok (.invokevirtual 97, 3) := by decide +kernel
theorem dX10_replaceBySpare_5 : decode prog_1_method_58_code 5 = .ok (.aload_n 0, 1) := by decide +kernel
theorem dX10_replaceBySpare_6 : decode prog_1_method_58_code 6 = .ok (.getfield 11, 3) := by decide +kernel
theorem dX10_replaceBySpare_9 : decode prog_1_method_58_code 9 = .ok (.iload_n 1, 1) := by decide +kernel
theorem dX10_replaceBySpare_10 : decode prog_1_method_58_code 10 = .ok (.aaload, 1) := by decide +kernel
theorem dX10_replaceBySpare_11 : decode prog_1_method_58_code 11 = .ok (.aload_n 0, 1) := by decide +kernel
theorem dX10_replaceBySpare_12 : decode prog_1_method_58_code 12 = .ok (.getfield 16, 3) := by decide +kernel
theorem dX10_replaceBySpare_15 : decode prog_1_method_58_code 15 = .ok (.invokevirtual 231, 3) := by decide +kernel
theorem dX10_replaceBySpare_18 : decode prog_1_method_58_code 18 = .ok (.aload_n 0, 1) := by decide +kernel
theorem dX10_replaceBySpare_19 : decode prog_1_method_58_code 19 = .ok (.getfield 16, 3) := by decide +kernel
theorem dX10_replaceBySpare_22 : decode prog_1_method_58_code 22 = .ok (.getfield 101, 3) := by decide +kernel
theorem dX10_replaceBySpare_25 : decode prog_1_method_58_code 25 = .ok (.ireturn, 1) := by decide +kernel
theorem sX10_replaceBySpare {Q : Int → Hp → Prop} {h : Hp} {l1 : Int}
    (hP : CV 5 mX10_remember [vr 68, vi l1] h (fun h2 =>
     (ix l1 4 ∧ nA (4 * l1)) ∧
     CV 3 mX3_takeOver [vr (4 * l1), vr 16] h2 (fun h4 =>
      Q (h4 16 1) h4))) :
    CI 6 mX10_replaceBySpare [vr 68, vi l1] h Q := by
  refine CI_of_E fX10_replaceBySpare.1 rfl (Nat.le_of_ble_eq_true rfl) ?_
  show E 6 mX10_replaceBySpare 0 [(0, vr 68), (1, vi l1)] [] h (qi Q)
  refine E_aload_n 0 0 dX10_replaceBySpare_0 rfl rfl ?_
  refine E_iload_n 1 1 dX10_replaceBySpare_1 rfl rfl ?_
  refine E_invVV [vi l1] dX10_replaceBySpare_2 fX10_remember lX10_97 ic_68 rfl (by decide) rfl rfl (Nat.le_of_ble_eq_true rfl) (CV_mono hP (fun h2 hP => ?_))
  obtain ⟨⟨v3_0, v3_1⟩, hP⟩ := hP
  refine E_aload_n 0 0 dX10_replaceBySpare_5 rfl rfl ?_
  refine E_gR 69 0 dX10_replaceBySpare_6 FX10_11 ic_68 (by decide) ?_
  refine E_iload_n 1 1 dX10_replaceBySpare_9 rfl rfl ?_
  refine E_aaloadN dX10_replaceBySpare_10 ic_69 v3_0.1 v3_0.2 (rf_nets ⟨v3_0.1, v3_0.2⟩) ?_
  refine E_aload_n 0 0 dX10_replaceBySpare_11 rfl rfl ?_
  refine E_gR 16 1 dX10_replaceBySpare_12 FX10_16 ic_68 (by decide) ?_
  refine E_invVV [vr 16] dX10_replaceBySpare_15 fX3_takeOver lX10_231 (icN0 v3_1) rfl (by decide) rfl rfl (Nat.le_of_ble_eq_true rfl) (CV_mono hP (fun h4 hP => ?_))
  refine E_aload_n 0 0 dX10_replaceBySpare_18 rfl rfl ?_
  refine E_gR 16 1 dX10_replaceBySpare_19 FX10_16 ic_68 (by decide) ?_
  refine E_gI 1 1 dX10_replaceBySpare_22 FX10_101 ic_16 rfl ?_
  exact E_retI dX10_replaceBySpare_25 rfl hP
theorem dX10_parse_0 : decode prog_1_method_13_code 0 = .ok (.iconst (-1), 1) := by decide +kernel
theorem dX10_parse_1 : decode prog_1_method_13_code 1 = .ok (.istore_n 2, 1) := by decide +kernel
theorem dX10_parse_2 : decode prog_1_method_13_code 2 = .ok (.iload_n 1, 1) := by decide +kernel
theorem dX10_parse_3 : decode prog_1_method_13_code 3 = .ok (.invokestatic 90, 3) := by decide +kernel
theorem dX10_parse_6 : decode prog_1_method_13_code 6 = .ok (.ifCond .eq 49, 3) := by decide +kernel
theorem dX10_parse_9 : decode prog_1_method_13_code 9 = .ok (.aload_n 0, 1) := by decide +kernel
theorem dX10_parse_10 : decode prog_1_method_13_code 10 = .ok (.getfield 16, 3) := by decide +kernel
theorem dX10_parse_13 : decode prog_1_method_13_code 13 = .ok (.aload_n 0, 1) := by decide +kernel
theorem dX10_parse_14 : decode prog_1_method_13_code 14 = .ok (.getfield 11, 3) := by decide +kernel
theorem dX10_parse_17 : decode prog_1_method_13_code 17 = .ok (.iload_n 1, 1) := by decide +kernel
theorem dX10_parse_18 : decode prog_1_method_13_code 18 = .ok (.aaload, 1) := by decide +kernel
theorem dX10_parse_19 : decode prog_1_method_13_code 19 = .ok (.getfield 108, 3) := by decide +kernel
theorem dX10_parse_22 : decode prog_1_method_13_code 22 = .ok (.invokevirtual 105, 3) := by decide +kernel
theorem dX10_parse_25 : decode prog_1_method_13_code 25 = .ok (.aload_n 0, 1) := by decide +kernel
theorem dX10_parse_26 : decode prog_1_method_13_code 26 = .ok (.getfield 30, 3) := by decide +kernel
theorem dX10_parse_29 : decode prog_1_method_13_code 29 = .ok (.aload_n 0, 1) := by decide +kernel
theorem dX10_parse_30 : decode prog_1_method_13_code 30 = .ok (.getfield 16, 3) := by decide +kernel
theorem dX10_parse_33 : decode prog_1_method_13_code 33 = .ok (.invokevirtual 139, 3) := by decide +kernel
theorem dX10_parse_36 : decode prog_1_method_13_code 36 = .ok (.istore_n 3, 1) := by decide +kernel
theorem dX10_parse_37 : decode prog_1_method_13_code 37 = .ok (.iload_n 3, 1) := by decide +kernel
theorem dX10_parse_38 : decode prog_1_method_13_code 38 = .ok (.iconst (-1), 1) := by decide +kernel
theorem dX10_parse_39 : decode prog_1_method_13_code 39 = .ok (.if_icmp .ne 11, 3) := by decide +kernel
theorem dX10_parse_42 : decode prog_1_method_13_code 42 = .ok (.aload_n 0, 1) := by decide +kernel
theorem dX10_parse_43 : decode prog_1_method_13_code 43 = .ok (.iload_n 1, 1) := by decide +kernel
theorem dX10_parse_44 : decode prog_1_method_13_code 44 = .ok (.invokevirtual 143, 3) := by decide +kernel
theorem dX10_parse_47 : decode prog_1_method_13_code 47 = .ok (.goto 7, 3) := by decide +kernel
theorem dX10_parse_50 : decode prog_1_method_13_code 50 = .ok (.bipush (-100), 2) := by decide +kernel
theorem dX10_parse_52 : decode prog_1_method_13_code 52 = .ok (.iload_n 3, 1) := by decide +kernel
theorem dX10_parse_53 : decode prog_1_method_13_code 53 = .ok (.isub, 1) := by decide +kernel
theorem dX10_parse_54 : decode prog_1_method_13_code 54 = .ok (.istore_n 2, 1) := by decide +kernel
theorem dX10_parse_55 : decode prog_1_method_13_code 55 = .ok (.aload_n 0, 1) := by decide +kernel
theorem dX10_parse_56 : decode prog_1_method_13_code 56 = .ok (.getfield 30, 3) := by decide +kernel
theorem dX10_parse_59 : decode prog_1_method_13_code 59 = .ok (.invokevirtual 136, 3) := by decide +kernel
theorem dX10_parse_62 : decode prog_1_method_13_code 62 = .ok (.pop, 1) := by decide +kernel
theorem dX10_parse_63 : decode prog_1_method_13_code 63 = .ok (.iload_n 2, 1) := by decide +kernel
theorem dX10_parse_64 : decode prog_1_method_13_code 64 = .ok (.ireturn, 1) := by decide +kernel
theorem sX10_parse {Q : Int → Hp → Prop} {h : Hp} {l1 : Int}
    (hP : ((l1 < 0 ∨ l1 ≥ 4) →
     Q (-1) (up h 73 1 0)) ∧
    ((l1 ≥ 0 ∧ l1 < 4) →
     (ix l1 4 ∧ nA (4 * l1) ∧ nA 16) ∧
     CI 3 mX8_readInto [vr 73, vr 16] (up (up h 16 0 (h (4 * l1) 0)) 16 1 0) (fun r5 h4 =>
      ((r5 ≠ (-1)) →
       (rj ((-100) - r5)) ∧
       Q ((-100) - r5) (up h4 73 1 0)) ∧
      ((r5 = (-1)) →
       CI 6 mX10_replaceBySpare [vr 68, vi l1] h4 (fun r10 h9 =>
        Q r10 (up h9 73 1 0)))))) :
    CI 7 mX10_parse [vr 68, vi l1] h Q := by
  refine CI_of_E fX10_parse.1 rfl (Nat.le_of_ble_eq_true rfl) ?_
  show E 7 mX10_parse 0 [(0, vr 68), (1, vi l1)] [] h (qi Q)
  refine E_iconst dX10_parse_0 (rg_of rfl) ?_
  refine E_istore_n dX10_parse_1 rfl (by decide) rfl ?_
  refine E_iload_n 2 1 dX10_parse_2 rfl rfl ?_
  refine E_invSI [vi l1] dX10_parse_3 fX10_isNetwork lX10_90 (by decide) rfl rfl (Nat.le_of_ble_eq_true rfl) (sX10_isNetwork (h := h) (l0 := l1) ?_)
  refine E_if_eq 55 dX10_parse_6 rfl (fun hc => ?_) (fun hc => ?_)
  · replace hP := hP.1 (by have := ite0 hc; omega)
    refine E_aload_n 1 0 dX10_parse_55 rfl rfl ?_
    refine E_gR 73 3 dX10_parse_56 FX10_30 ic_68 (by decide) ?_
    refine E_invVI [] dX10_parse_59 fX8_empty lX10_136 ic_73 rfl (by decide) rfl rfl (Nat.le_of_ble_eq_true rfl) (sX8_empty (h := h)  ?_)
    refine E_pop dX10_parse_62 rfl ?_
    refine E_iload_n 0 2 dX10_parse_63 rfl rfl ?_
    exact E_retI dX10_parse_64 rfl hP
  · replace hP := hP.2 (by have := ite1 hc; omega)
    obtain ⟨⟨v3_0, v3_1, v3_2⟩, hP⟩ := hP
    refine E_aload_n 1 0 dX10_parse_9 rfl rfl ?_
    refine E_gR 16 1 dX10_parse_10 FX10_16 ic_68 (by decide) ?_
    refine E_aload_n 1 0 dX10_parse_13 rfl rfl ?_
    refine E_gR 69 0 dX10_parse_14 FX10_11 ic_68 (by decide) ?_
    refine E_iload_n 2 1 dX10_parse_17 rfl rfl ?_
    refine E_aaloadN dX10_parse_18 ic_69 v3_0.1 v3_0.2 (rf_nets ⟨v3_0.1, v3_0.2⟩) ?_
    refine E_gI 0 0 dX10_parse_19 FX10_108 (icN0 v3_1) rfl ?_
    refine E_invVV [vi (h (4 * l1) 0)] dX10_parse_22 fX3_restart lX10_105 ic_16 rfl (by decide) rfl rfl (Nat.le_of_ble_eq_true rfl) (sX3_restart (h := h) (a0 := 16) (l1 := (h (4 * l1) 0)) ⟨v3_2, ?_⟩)
    refine E_aload_n 1 0 dX10_parse_25 rfl rfl ?_
    refine E_gR 73 3 dX10_parse_26 FX10_30 ic_68 (by decide) ?_
    refine E_aload_n 1 0 dX10_parse_29 rfl rfl ?_
    refine E_gR 16 1 dX10_parse_30 FX10_16 ic_68 (by decide) ?_
    refine E_invVI [vr 16] dX10_parse_33 fX8_readInto lX10_139 ic_73 rfl (by decide) rfl rfl (Nat.le_of_ble_eq_true rfl) (CI_mono hP (fun r5 h4 hP => ?_))
    refine E_istore_n dX10_parse_36 rfl (by decide) rfl ?_
    refine E_iload_n 0 3 dX10_parse_37 rfl rfl ?_
    refine E_iconst dX10_parse_38 (rg_of rfl) ?_
    refine E_icmp_ne 50 dX10_parse_39 rfl (fun hc => ?_) (fun hc => ?_)
    · replace hP := hP.1 (hc)
      obtain ⟨v7_0, hP⟩ := hP
      refine E_bipush dX10_parse_50 (by decide) ?_
      refine E_iload_n 0 3 dX10_parse_52 rfl rfl ?_
      refine E_isub dX10_parse_53 (rgI v7_0) ?_
      refine E_istore_n dX10_parse_54 rfl (by decide) rfl ?_
      refine E_aload_n 2 0 dX10_parse_55 rfl rfl ?_
      refine E_gR 73 3 dX10_parse_56 FX10_30 ic_68 (by decide) ?_
      refine E_invVI [] dX10_parse_59 fX8_empty lX10_136 ic_73 rfl (by decide) rfl rfl (Nat.le_of_ble_eq_true rfl) (sX8_empty (h := h4)  ?_)
      refine E_pop dX10_parse_62 rfl ?_
      refine E_iload_n 0 2 dX10_parse_63 rfl rfl ?_
      exact E_retI dX10_parse_64 rfl hP
    · replace hP := hP.2 (by omega)
      refine E_aload_n 2 0 dX10_parse_42 rfl rfl ?_
      refine E_iload_n 3 1 dX10_parse_43 rfl rfl ?_
      refine E_invVI [vi l1] dX10_parse_44 fX10_replaceBySpare lX10_143 ic_68 rfl (by decide) rfl rfl (Nat.le_of_ble_eq_true rfl) (CI_mono hP (fun r10 h9 hP => ?_))
      refine E_goto 54 dX10_parse_47 rfl ?_
      refine E_istore_n dX10_parse_54 rfl (by decide) rfl ?_
      refine E_aload_n 2 0 dX10_parse_55 rfl rfl ?_
      refine E_gR 73 3 dX10_parse_56 FX10_30 ic_68 (by decide) ?_
      refine E_invVI [] dX10_parse_59 fX8_empty lX10_136 ic_73 rfl (by decide) rfl rfl (Nat.le_of_ble_eq_true rfl) (sX8_empty (h := h9)  ?_)
      refine E_pop dX10_parse_62 rfl ?_
      refine E_iload_n 0 2 dX10_parse_63 rfl rfl ?_
      exact E_retI dX10_parse_64 rfl hP
theorem dX10_setKey_0 : decode prog_1_method_14_code 0 = .ok (.iload_n 1, 1) := by decide +kernel
theorem dX10_setKey_1 : decode prog_1_method_14_code 1 = .ok (.ifCond .lt 9, 3) := by decide +kernel
theorem dX10_setKey_4 : decode prog_1_method_14_code 4 = .ok (.iload_n 1, 1) := by decide +kernel
theorem dX10_setKey_5 : decode prog_1_method_14_code 5 = .ok (.bipush 8, 2) := by decide +kernel
theorem dX10_setKey_7 : decode prog_1_method_14_code 7 = .ok (.if_icmp .lt 5, 3) := by decide +kernel
theorem dX10_setKey_10 : decode prog_1_method_14_code 10 = .ok (.iconst (-1), 1) := by decide +kernel
theorem dX10_setKey_11 : decode prog_1_method_14_code 11 = .ok (.ireturn, 1) := by decide +kernel
theorem dX10_setKey_12 : decode prog_1_method_14_code 12 = .ok (.iload_n 2, 1) := by decide +kernel
theorem dX10_setKey_13 : decode prog_1_method_14_code 13 = .ok (.ifCond .lt 9, 3) := by decide +kernel
theorem dX10_setKey_16 : decode prog_1_method_14_code 16 = .ok (.iload_n 2, 1) := by decide +kernel
theorem dX10_setKey_17 : decode prog_1_method_14_code 17 = .ok (.bipush 99, 2) := by decide +kernel
theorem dX10_setKey_19 : decode prog_1_method_14_code 19 = .ok (.if_icmp .le 6, 3) := by decide +kernel
theorem dX10_setKey_22 : decode prog_1_method_14_code 22 = .ok (.bipush (-2), 2) := by decide +kernel
theorem dX10_setKey_24 : decode prog_1_method_14_code 24 = .ok (.ireturn, 1) := by decide +kernel
theorem dX10_setKey_25 : decode prog_1_method_14_code 25 = .ok (.aload_n 0, 1) := by decide +kernel
theorem dX10_setKey_26 : decode prog_1_method_14_code 26 = .ok (.getfield 34, 3) := by decide +kernel
theorem dX10_setKey_29 : decode prog_1_method_14_code 29 = .ok (.iload_n 1, 1) := by decide +kernel
theorem dX10_setKey_30 : decode prog_1_method_14_code 30 = .ok (.iaload, 1) := by decide +kernel
theorem dX10_setKey_31 : decode prog_1_method_14_code 31 = .ok (.istore_n 3, 1) := by decide +kernel
theorem dX10_setKey_32 : decode prog_1_method_14_code 32 = .ok (.aload_n 0, 1) := by decide +kernel
theorem dX10_setKey_33 : decode prog_1_method_14_code 33 = .ok (.getfield 34, 3) := by decide +kernel
theorem dX10_setKey_36 : decode prog_1_method_14_code 36 = .ok (.iload_n 1, 1) := by decide +kernel
theorem dX10_setKey_37 : decode prog_1_method_14_code 37 = .ok (.iload_n 2, 1) := by decide +kernel
theorem dX10_setKey_38 : decode prog_1_method_14_code 38 = .ok (.iastore, 1) := by decide +kernel
theorem dX10_setKey_39 : decode prog_1_method_14_code 39 = .ok (.iload_n 3, 1) := by decide +kernel
theorem dX10_setKey_40 : decode prog_1_method_14_code 40 = .ok (.ireturn, 1) := by decide +kernel
theorem sX10_setKey {Q : Int → Hp → Prop} {h : Hp} {l1 l2 : Int}
    (hP : ((l1 < 0) →
     Q (-1) h) ∧
    ((l1 ≥ 0) →
     ((l1 < 8) →
      ((l2 < 0) →
       Q (-2) h) ∧
      ((l2 ≥ 0) →
       ((l2 ≤ 99) →
        (ix l1 8) ∧
        Q (h 75 l1) (up h 75 l1 l2)) ∧
       ((l2 > 99) →
        Q (-2) h))) ∧
     ((l1 ≥ 8) →
      Q (-1) h))) :
    CI 0 mX10_setKey [vr 68, vi l1, vi l2] h Q := by
  refine CI_of_E fX10_setKey.1 rfl (Nat.le_of_ble_eq_true rfl) ?_
  show E 0 mX10_setKey 0 [(0, vr 68), (1, vi l1), (2, vi l2)] [] h (qi Q)
  refine E_iload_n 1 1 dX10_setKey_0 rfl rfl ?_
  refine E_if_lt 10 dX10_setKey_1 rfl (fun hc => ?_) (fun hc => ?_)
  · replace hP := hP.1 (hc)
    refine E_iconst dX10_setKey_10 (rg_of rfl) ?_
    exact E_retI dX10_setKey_11 rfl hP
  · replace hP := hP.2 (by omega)
    refine E_iload_n 1 1 dX10_setKey_4 rfl rfl ?_
    refine E_bipush dX10_setKey_5 (by decide) ?_
    refine E_icmp_lt 12 dX10_setKey_7 rfl (fun hc => ?_) (fun hc => ?_)
    · replace hP := hP.1 (hc)
      refine E_iload_n 2 2 dX10_setKey_12 rfl rfl ?_
      refine E_if_lt 22 dX10_setKey_13 rfl (fun hc => ?_) (fun hc => ?_)
      · replace hP := hP.1 (hc)
        refine E_bipush dX10_setKey_22 (by decide) ?_
        exact E_retI dX10_setKey_24 rfl hP
      · replace hP := hP.2 (by omega)
        refine E_iload_n 2 2 dX10_setKey_16 rfl rfl ?_
        refine E_bipush dX10_setKey_17 (by decide) ?_
        refine E_icmp_le 25 dX10_setKey_19 rfl (fun hc => ?_) (fun hc => ?_)
        · replace hP := hP.1 (hc)
          obtain ⟨v7_0, hP⟩ := hP
          refine E_aload_n 0 0 dX10_setKey_25 rfl rfl ?_
          refine E_gR 75 4 dX10_setKey_26 FX10_34 ic_68 (by decide) ?_
          refine E_iload_n 1 1 dX10_setKey_29 rfl rfl ?_
          refine E_iaload dX10_setKey_30 ic_75 v7_0.1 v7_0.2 ?_
          refine E_istore_n dX10_setKey_31 rfl (by decide) rfl ?_
          refine E_aload_n 1 0 dX10_setKey_32 rfl rfl ?_
          refine E_gR 75 4 dX10_setKey_33 FX10_34 ic_68 (by decide) ?_
          refine E_iload_n 2 1 dX10_setKey_36 rfl rfl ?_
          refine E_iload_n 3 2 dX10_setKey_37 rfl rfl ?_
          refine E_iastore dX10_setKey_38 ic_75 v7_0.1 v7_0.2 ?_
          refine E_iload_n 0 3 dX10_setKey_39 rfl rfl ?_
          exact E_retI dX10_setKey_40 rfl hP
        · replace hP := hP.2 (by omega)
          refine E_bipush dX10_setKey_22 (by decide) ?_
          exact E_retI dX10_setKey_24 rfl hP
    · replace hP := hP.2 (by omega)
      refine E_iconst dX10_setKey_10 (rg_of rfl) ?_
      exact E_retI dX10_setKey_11 rfl hP
theorem dX10_run_0 : decode prog_1_method_15_code 0 = .ok (.iload_n 1, 1) := by decide +kernel
theorem dX10_run_1 : decode prog_1_method_15_code 1 = .ok (.invokestatic 90, 3) := by decide +kernel
theorem dX10_run_4 : decode prog_1_method_15_code 4 = .ok (.ifCond .eq 23, 3) := by decide +kernel
theorem dX10_run_7 : decode prog_1_method_15_code 7 = .ok (.aload_n 0, 1) := by decide +kernel
theorem dX10_run_8 : decode prog_1_method_15_code 8 = .ok (.getfield 41, 3) := by decide +kernel
theorem dX10_run_11 : decode prog_1_method_15_code 11 = .ok (.aload_n 0, 1) := by decide +kernel
theorem dX10_run_12 : decode prog_1_method_15_code 12 = .ok (.getfield 11, 3) := by decide +kernel
theorem dX10_run_15 : decode prog_1_method_15_code 15 = .ok (.iload_n 1, 1) := by decide +kernel
theorem dX10_run_16 : decode prog_1_method_15_code 16 = .ok (.aaload, 1) := by decide +kernel
theorem dX10_run_17 : decode prog_1_method_15_code 17 = .ok (.aload_n 0, 1) := by decide +kernel
theorem dX10_run_18 : decode prog_1_method_15_code 18 = .ok (.getfield 34, 3) := by decide +kernel
theorem dX10_run_21 : decode prog_1_method_15_code 21 = .ok (.invokevirtual 146, 3) := by decide +kernel
theorem dX10_run_24 : decode prog_1_method_15_code 24 = .ok (.goto 4, 3) := by decide +kernel
theorem dX10_run_27 : decode prog_1_method_15_code 27 = .ok (.iconst (-1), 1) := by decide +kernel
theorem dX10_run_28 : decode prog_1_method_15_code 28 = .ok (.ireturn, 1) := by decide +kernel
theorem sX10_run {Q : Int → Hp → Prop} {h : Hp} {l1 : Int}
    (hP : ((l1 < 0 ∨ l1 ≥ 4) →
     Q (-1) h) ∧
    ((l1 ≥ 0 ∧ l1 < 4) →
     (ix l1 4) ∧
     CI 1 mX9_perform [vr 76, vr (4 * l1), vr 75] h (fun r5 h4 =>
      Q r5 h4))) :
    CI 2 mX10_run [vr 68, vi l1] h Q := by
  refine CI_of_E fX10_run.1 rfl (Nat.le_of_ble_eq_true rfl) ?_
  show E 2 mX10_run 0 [(0, vr 68), (1, vi l1)] [] h (qi Q)
  refine E_iload_n 1 1 dX10_run_0 rfl rfl ?_
  refine E_invSI [vi l1] dX10_run_1 fX10_isNetwork lX10_90 (by decide) rfl rfl (Nat.le_of_ble_eq_true rfl) (sX10_isNetwork (h := h) (l0 := l1) ?_)
  refine E_if_eq 27 dX10_run_4 rfl (fun hc => ?_) (fun hc => ?_)
  · replace hP := hP.1 (by have := ite0 hc; omega)
    refine E_iconst dX10_run_27 (rg_of rfl) ?_
    exact E_retI dX10_run_28 rfl hP
  · replace hP := hP.2 (by have := ite1 hc; omega)
    obtain ⟨v3_0, hP⟩ := hP
    refine E_aload_n 0 0 dX10_run_7 rfl rfl ?_
    refine E_gR 76 5 dX10_run_8 FX10_41 ic_68 (by decide) ?_
    refine E_aload_n 0 0 dX10_run_11 rfl rfl ?_
    refine E_gR 69 0 dX10_run_12 FX10_11 ic_68 (by decide) ?_
    refine E_iload_n 1 1 dX10_run_15 rfl rfl ?_
    refine E_aaloadN dX10_run_16 ic_69 v3_0.1 v3_0.2 (rf_nets ⟨v3_0.1, v3_0.2⟩) ?_
    refine E_aload_n 0 0 dX10_run_17 rfl rfl ?_
    refine E_gR 75 4 dX10_run_18 FX10_34 ic_68 (by decide) ?_
    refine E_invVI [vr (4 * l1), vr 75] dX10_run_21 fX9_perform lX10_146 ic_76 rfl (by decide) rfl rfl (Nat.le_of_ble_eq_true rfl) (CI_mono hP (fun r5 h4 hP => ?_))
    refine E_goto 28 dX10_run_24 rfl ?_
    exact E_retI dX10_run_28 rfl hP
theorem dX10_result_0 : decode prog_1_method_16_code 0 = .ok (.aload_n 0, 1) := by decide +kernel
theorem dX10_result_1 : decode prog_1_method_16_code 1 = .ok (.getfield 41, 3) := by decide +kernel
theorem dX10_result_4 : decode prog_1_method_16_code 4 = .ok (.getfield 150, 3) := by decide +kernel
theorem dX10_result_7 : decode prog_1_method_16_code 7 = .ok (.ifCond .ne 6, 3) := by decide +kernel
theorem dX10_result_10 : decode prog_1_method_16_code 10 = .ok (.bipush (-5), 2) := by decide +kernel
theorem dX10_result_12 : decode prog_1_method_16_code 12 = .ok (.ireturn, 1) := by decide +kernel
theorem dX10_result_13 : decode prog_1_method_16_code 13 = .ok (.aload_n 0, 1) := by decide +kernel
theorem dX10_result_14 : decode prog_1_method_16_code 14 = .ok (.getfield 41, 3) := by decide +kernel
theorem dX10_result_17 : decode prog_1_method_16_code 17 = .ok (.iload_n 1, 1) := by decide +kernel
theorem dX10_result_18 : decode prog_1_method_16_code 18 = .ok (.invokevirtual 154, 3) := by decide +kernel
theorem dX10_result_21 : decode prog_1_method_16_code 21 = .ok (.ifCond .eq 15, 3) := by decide +kernel
theorem dX10_result_24 : decode prog_1_method_16_code 24 = .ok (.aload_n 0, 1) := by decide +kernel
theorem dX10_result_25 : decode prog_1_method_16_code 25 = .ok (.getfield 41, 3) := by decide +kernel
theorem dX10_result_28 : decode prog_1_method_16_code 28 = .ok (.getfield 157, 3) := by decide +kernel
theorem dX10_result_31 : decode prog_1_method_16_code 31 = .ok (.iload_n 1, 1) := by decide +kernel
theorem dX10_result_32 : decode prog_1_method_16_code 32 = .ok (.iaload, 1) := by decide +kernel
theorem dX10_result_33 : decode prog_1_method_16_code 33 = .ok (.goto 4, 3) := by decide +kernel
theorem dX10_result_36 : decode prog_1_method_16_code 36 = .ok (.iconst (-1), 1) := by decide +kernel
theorem dX10_result_37 : decode prog_1_method_16_code 37 = .ok (.ireturn, 1) := by decide +kernel
theorem sX10_result {Q : Int → Hp → Prop} {h : Hp} {l1 : Int}
    (hP : (((h 76 0) ≠ 0) →
     (((l1 ≥ 0 ∧ l1 < (h 76 1)) → (ix l1 8))) ∧
     Q (if l1 < 0 ∨ l1 ≥ (h 76 1) then (-1) else (h 77 l1)) h) ∧
    (((h 76 0) = 0) →
     Q (-5) h)) :
    CI 1 mX10_result [vr 68, vi l1] h Q := by
  refine CI_of_E fX10_result.1 rfl (Nat.le_of_ble_eq_true rfl) ?_
  show E 1 mX10_result 0 [(0, vr 68), (1, vi l1)] [] h (qi Q)
  refine E_aload_n 0 0 dX10_result_0 rfl rfl ?_
  refine E_gR 76 5 dX10_result_1 FX10_41 ic_68 (by decide) ?_
  refine E_gI 0 0 dX10_result_4 FX10_150 ic_76 rfl ?_
  refine E_if_ne 13 dX10_result_7 rfl (fun hc => ?_) (fun hc => ?_)
  · replace hP := hP.1 (hc)
    obtain ⟨v2_0, hP⟩ := hP
    refine E_aload_n 0 0 dX10_result_13 rfl rfl ?_
    refine E_gR 76 5 dX10_result_14 FX10_41 ic_68 (by decide) ?_
    refine E_iload_n 1 1 dX10_result_17 rfl rfl ?_
    refine E_invVI [vi l1] dX10_result_18 fX9_hadWire lX10_154 ic_76 rfl (by decide) rfl rfl (Nat.le_of_ble_eq_true rfl) (sX9_hadWire (h := h) (l1 := l1) ?_)
    have hJ : E 1 mX10_result 37 [(0, vr 68), (1, vi l1)] [vi (if l1 < 0 ∨ l1 ≥ (h 76 1) then (-1) else (h 77 l1))] h (qi Q) := by
      exact E_retI dX10_result_37 rfl hP
    refine E_if_eq 36 dX10_result_21 rfl (fun hc => ?_) (fun hc => ?_)
    · have hp21 := (by have := ite0 hc; omega : l1 < 0 ∨ l1 ≥ (h 76 1))
      refine E_iconst dX10_result_36 (rg_of rfl) ?_
      exact E_top (by first | exact (if_pos (by omega)).symm | exact (if_neg (by omega)).symm | (repeat first | rw [if_pos (by omega)] | rw [if_neg (by omega)])) hJ
    · have hp21 := (by have := ite1 hc; omega : l1 ≥ 0 ∧ l1 < (h 76 1))
      refine E_aload_n 0 0 dX10_result_24 rfl rfl ?_
      refine E_gR 76 5 dX10_result_25 FX10_41 ic_68 (by decide) ?_
      refine E_gR 77 2 dX10_result_28 FX10_157 ic_76 (by decide) ?_
      refine E_iload_n 1 1 dX10_result_31 rfl rfl ?_
      refine E_iaload dX10_result_32 ic_77 (v2_0 (by omega)).1 (v2_0 (by omega)).2 ?_
      refine E_goto 37 dX10_result_33 rfl ?_
      exact E_top (by first | exact (if_pos (by omega)).symm | exact (if_neg (by omega)).symm | (repeat first | rw [if_pos (by omega)] | rw [if_neg (by omega)])) hJ
  · replace hP := hP.2 (by omega)
    refine E_bipush dX10_result_10 (by decide) ?_
    exact E_retI dX10_result_12 rfl hP
theorem dX10_origin_0 : decode prog_1_method_17_code 0 = .ok (.aload_n 0, 1) := by decide +kernel
theorem dX10_origin_1 : decode prog_1_method_17_code 1 = .ok (.getfield 41, 3) := by decide +kernel
theorem dX10_origin_4 : decode prog_1_method_17_code 4 = .ok (.getfield 150, 3) := by decide +kernel
theorem dX10_origin_7 : decode prog_1_method_17_code 7 = .ok (.ifCond .ne 6, 3) := by decide +kernel
theorem dX10_origin_10 : decode prog_1_method_17_code 10 = .ok (.bipush (-5), 2) := by decide +kernel
theorem dX10_origin_12 : decode prog_1_method_17_code 12 = .ok (.ireturn, 1) := by decide +kernel
theorem dX10_origin_13 : decode prog_1_method_17_code 13 = .ok (.aload_n 0, 1) := by decide +kernel
theorem dX10_origin_14 : decode prog_1_method_17_code 14 = .ok (.getfield 41, 3) := by decide +kernel
theorem dX10_origin_17 : decode prog_1_method_17_code 17 = .ok (.iload_n 1, 1) := by decide +kernel
theorem dX10_origin_18 : decode prog_1_method_17_code 18 = .ok (.invokevirtual 154, 3) := by decide +kernel
theorem dX10_origin_21 : decode prog_1_method_17_code 21 = .ok (.ifCond .eq 15, 3) := by decide +kernel
theorem dX10_origin_24 : decode prog_1_method_17_code 24 = .ok (.aload_n 0, 1) := by decide +kernel
theorem dX10_origin_25 : decode prog_1_method_17_code 25 = .ok (.getfield 41, 3) := by decide +kernel
theorem dX10_origin_28 : decode prog_1_method_17_code 28 = .ok (.getfield 160, 3) := by decide +kernel
theorem dX10_origin_31 : decode prog_1_method_17_code 31 = .ok (.iload_n 1, 1) := by decide +kernel
theorem dX10_origin_32 : decode prog_1_method_17_code 32 = .ok (.iaload, 1) := by decide +kernel
theorem dX10_origin_33 : decode prog_1_method_17_code 33 = .ok (.goto 4, 3) := by decide +kernel
theorem dX10_origin_36 : decode prog_1_method_17_code 36 = .ok (.iconst (-1), 1) := by decide +kernel
theorem dX10_origin_37 : decode prog_1_method_17_code 37 = .ok (.ireturn, 1) := by decide +kernel
theorem sX10_origin {Q : Int → Hp → Prop} {h : Hp} {l1 : Int}
    (hP : (((h 76 0) ≠ 0) →
     (((l1 ≥ 0 ∧ l1 < (h 76 1)) → (ix l1 8))) ∧
     Q (if l1 < 0 ∨ l1 ≥ (h 76 1) then (-1) else (h 78 l1)) h) ∧
    (((h 76 0) = 0) →
     Q (-5) h)) :
    CI 1 mX10_origin [vr 68, vi l1] h Q := by
  refine CI_of_E fX10_origin.1 rfl (Nat.le_of_ble_eq_true rfl) ?_
  show E 1 mX10_origin 0 [(0, vr 68), (1, vi l1)] [] h (qi Q)
  refine E_aload_n 0 0 dX10_origin_0 rfl rfl ?_
  refine E_gR 76 5 dX10_origin_1 FX10_41 ic_68 (by decide) ?_
  refine E_gI 0 0 dX10_origin_4 FX10_150 ic_76 rfl ?_
  refine E_if_ne 13 dX10_origin_7 rfl (fun hc => ?_) (fun hc => ?_)
  · replace hP := hP.1 (hc)
    obtain ⟨v2_0, hP⟩ := hP
    refine E_aload_n 0 0 dX10_origin_13 rfl rfl ?_
    refine E_gR 76 5 dX10_origin_14 FX10_41 ic_68 (by decide) ?_
    refine E_iload_n 1 1 dX10_origin_17 rfl rfl ?_
    refine E_invVI [vi l1] dX10_origin_18 fX9_hadWire lX10_154 ic_76 rfl (by decide) rfl rfl (Nat.le_of_ble_eq_true rfl) (sX9_hadWire (h := h) (l1 := l1) ?_)
    have hJ : E 1 mX10_origin 37 [(0, vr 68), (1, vi l1)] [vi (if l1 < 0 ∨ l1 ≥ (h 76 1) then (-1) else (h 78 l1))] h (qi Q) := by
      exact E_retI dX10_origin_37 rfl hP
    refine E_if_eq 36 dX10_origin_21 rfl (fun hc => ?_) (fun hc => ?_)
    · have hp21 := (by have := ite0 hc; omega : l1 < 0 ∨ l1 ≥ (h 76 1))
      refine E_iconst dX10_origin_36 (rg_of rfl) ?_
      exact E_top (by first | exact (if_pos (by omega)).symm | exact (if_neg (by omega)).symm | (repeat first | rw [if_pos (by omega)] | rw [if_neg (by omega)])) hJ
    · have hp21 := (by have := ite1 hc; omega : l1 ≥ 0 ∧ l1 < (h 76 1))
      refine E_aload_n 0 0 dX10_origin_24 rfl rfl ?_
      refine E_gR 76 5 dX10_origin_25 FX10_41 ic_68 (by decide) ?_
      refine E_gR 78 3 dX10_origin_28 FX10_160 ic_76 (by decide) ?_
      refine E_iload_n 1 1 dX10_origin_31 rfl rfl ?_
      refine E_iaload dX10_origin_32 ic_78 (v2_0 (by omega)).1 (v2_0 (by omega)).2 ?_
      refine E_goto 37 dX10_origin_33 rfl ?_
      exact E_top (by first | exact (if_pos (by omega)).symm | exact (if_neg (by omega)).symm | (repeat first | rw [if_pos (by omega)] | rw [if_neg (by omega)])) hJ
  · replace hP := hP.2 (by omega)
    refine E_bipush dX10_origin_10 (by decide) ?_
    exact E_retI dX10_origin_12 rfl hP
theorem dX10_isStable_0 : decode prog_1_method_18_code 0 = .ok (.aload_n 0, 1) := by decide +kernel
theorem dX10_isStable_1 : decode prog_1_method_18_code 1 = .ok (.getfield 41, 3) := by decide +kernel
theorem dX10_isStable_4 : decode prog_1_method_18_code 4 = .ok (.getfield 150, 3) := by decide +kernel
theorem dX10_isStable_7 : decode prog_1_method_18_code 7 = .ok (.ifCond .eq 16, 3) := by decide +kernel
theorem dX10_isStable_10 : decode prog_1_method_18_code 10 = .ok (.aload_n 0, 1) := by decide +kernel
theorem dX10_isStable_11 : decode prog_1_method_18_code 11 = .ok (.getfield 41, 3) := by decide +kernel
theorem dX10_isStable_14 : decode prog_1_method_18_code 14 = .ok (.invokevirtual 163, 3) := by decide +kernel
theorem dX10_isStable_17 : decode prog_1_method_18_code 17 = .ok (.invokestatic 167, 3) := by decide +kernel
theorem dX10_isStable_20 : decode prog_1_method_18_code 20 = .ok (.goto 5, 3) := by decide +kernel
theorem dX10_isStable_23 : decode prog_1_method_18_code 23 = .ok (.bipush (-5), 2) := by decide +kernel
theorem dX10_isStable_25 : decode prog_1_method_18_code 25 = .ok (.ireturn, 1) := by decide +kernel
theorem sX10_isStable {Q : Int → Hp → Prop} {h : Hp}
    (hP : (((h 76 0) = 0) →
     Q (-5) h) ∧
    (((h 76 0) ≠ 0) →
     CI 0 mX9_keptOrder [vr 76] h (fun r5 h4 =>
      Q (if r5 ≠ 0 then (1 : Int) else 0) h4))) :
    CI 1 mX10_isStable [vr 68] h Q := by
  refine CI_of_E fX10_isStable.1 rfl (Nat.le_of_ble_eq_true rfl) ?_
  show E 1 mX10_isStable 0 [(0, vr 68)] [] h (qi Q)
  refine E_aload_n 0 0 dX10_isStable_0 rfl rfl ?_
  refine E_gR 76 5 dX10_isStable_1 FX10_41 ic_68 (by decide) ?_
  refine E_gI 0 0 dX10_isStable_4 FX10_150 ic_76 rfl ?_
  refine E_if_eq 23 dX10_isStable_7 rfl (fun hc => ?_) (fun hc => ?_)
  · replace hP := hP.1 (hc)
    refine E_bipush dX10_isStable_23 (by decide) ?_
    exact E_retI dX10_isStable_25 rfl hP
  · replace hP := hP.2 (by omega)
    refine E_aload_n 0 0 dX10_isStable_10 rfl rfl ?_
    refine E_gR 76 5 dX10_isStable_11 FX10_41 ic_68 (by decide) ?_
    refine E_invVI [] dX10_isStable_14 fX9_keptOrder lX10_163 ic_76 rfl (by decide) rfl rfl (Nat.le_of_ble_eq_true rfl) (CI_mono hP (fun r5 h4 hP => ?_))
    refine E_invSI [vi r5] dX10_isStable_17 fX10_oneIf lX10_167 (by decide) rfl rfl (Nat.le_of_ble_eq_true rfl) (sX10_oneIf (h := h4) (l0 := r5) ?_)
    refine E_goto 25 dX10_isStable_20 rfl ?_
    exact E_retI dX10_isStable_25 rfl hP
theorem dX10_gatherOutputs_0 : decode prog_1_method_59_code 0 = .ok (.aload_n 0, 1) := by decide +kernel
theorem dX10_gatherOutputs_1 : decode prog_1_method_59_code 1 = .ok (.getfield 55, 3) := by decide +kernel
theorem dX10_gatherOutputs_4 : decode prog_1_method_59_code 4 = .ok (.aload_n 1, 1) := by decide +kernel
theorem dX10_gatherOutputs_5 : decode prog_1_method_59_code 5 = .ok (.iconst (-1), 1) := by decide +kernel
theorem dX10_gatherOutputs_6 : decode prog_1_method_59_code 6 = .ok (.invokevirtual 183, 3) := by decide +kernel
theorem dX10_gatherOutputs_9 : decode prog_1_method_59_code 9 = .ok (.aload_n 2, 1) := by decide +kernel
theorem dX10_gatherOutputs_10 : decode prog_1_method_59_code 10 = .ok (.aload_n 0, 1) := by decide +kernel
theorem dX10_gatherOutputs_11 : decode prog_1_method_59_code 11 = .ok (.getfield 55, 3) := by decide +kernel
theorem dX10_gatherOutputs_14 : decode prog_1_method_59_code 14 = .ok (.invokevirtual 340, 3) := by decide +kernel
theorem dX10_gatherOutputs_17 : decode prog_1_method_59_code 17 = .ok (.return_, 1) := by decide +kernel
theorem sX10_gatherOutputs {Q : Hp → Prop} {h : Hp} {a1 o2 : Int}
    (hP : CV 2 mX7_passAll [vr 83, vr a1, vi (-1)] h (fun h2 =>
     (oA o2) ∧
     CV 2 mX4_gather [vr o2, vr 83] h2 (fun h4 =>
      Q h4))) :
    CV 3 mX10_gatherOutputs [vr 68, vr a1, vr o2] h Q := by
  refine CV_of_E fX10_gatherOutputs.1 rfl (Nat.le_of_ble_eq_true rfl) ?_
  show E 3 mX10_gatherOutputs 0 [(0, vr 68), (1, vr a1), (2, vr o2)] [] h (qv Q)
  refine E_aload_n 0 0 dX10_gatherOutputs_0 rfl rfl ?_
  refine E_gR 83 7 dX10_gatherOutputs_1 FX10_55 ic_68 (by decide) ?_
  refine E_aload_n 1 1 dX10_gatherOutputs_4 rfl rfl ?_
  refine E_iconst dX10_gatherOutputs_5 (rg_of rfl) ?_
  refine E_invVV [vr a1, vi (-1)] dX10_gatherOutputs_6 fX7_passAll lX10_183 ic_83 rfl (by decide) rfl rfl (Nat.le_of_ble_eq_true rfl) (CV_mono hP (fun h2 hP => ?_))
  obtain ⟨v3_0, hP⟩ := hP
  refine E_aload_n 2 2 dX10_gatherOutputs_9 rfl rfl ?_
  refine E_aload_n 0 0 dX10_gatherOutputs_10 rfl rfl ?_
  refine E_gR 83 7 dX10_gatherOutputs_11 FX10_55 ic_68 (by decide) ?_
  refine E_invVV [vr 83] dX10_gatherOutputs_14 fX4_gather lX10_340 (icO0 v3_0) rfl (by decide) rfl rfl (Nat.le_of_ble_eq_true rfl) (CV_mono hP (fun h4 hP => ?_))
  exact E_retV dX10_gatherOutputs_17 rfl hP
theorem dX10_outputCount_0 : decode prog_1_method_19_code 0 = .ok (.iload_n 1, 1) := by decide +kernel
theorem dX10_outputCount_1 : decode prog_1_method_19_code 1 = .ok (.invokestatic 90, 3) := by decide +kernel
theorem dX10_outputCount_4 : decode prog_1_method_19_code 4 = .ok (.ifCond .ne 5, 3) := by decide +kernel
theorem dX10_outputCount_7 : decode prog_1_method_19_code 7 = .ok (.iconst (-1), 1) := by decide +kernel
theorem dX10_outputCount_8 : decode prog_1_method_19_code 8 = .ok (.ireturn, 1) := by decide +kernel
theorem dX10_outputCount_9 : decode prog_1_method_19_code 9 = .ok (.aload_n 0, 1) := by decide +kernel
theorem dX10_outputCount_10 : decode prog_1_method_19_code 10 = .ok (.aload_n 0, 1) := by decide +kernel
theorem dX10_outputCount_11 : decode prog_1_method_19_code 11 = .ok (.getfield 11, 3) := by decide +kernel
theorem dX10_outputCount_14 : decode prog_1_method_19_code 14 = .ok (.iload_n 1, 1) := by decide +kernel
theorem dX10_outputCount_15 : decode prog_1_method_19_code 15 = .ok (.aaload, 1) := by decide +kernel
theorem dX10_outputCount_16 : decode prog_1_method_19_code 16 = .ok (.aload_n 0, 1) := by decide +kernel
theorem dX10_outputCount_17 : decode prog_1_method_19_code 17 = .ok (.getfield 62, 3) := by decide +kernel
theorem dX10_outputCount_20 : decode prog_1_method_19_code 20 = .ok (.invokevirtual 171, 3) := by decide +kernel
theorem dX10_outputCount_23 : decode prog_1_method_19_code 23 = .ok (.aload_n 0, 1) := by decide +kernel
theorem dX10_outputCount_24 : decode prog_1_method_19_code 24 = .ok (.getfield 62, 3) := by decide +kernel
theorem dX10_outputCount_27 : decode prog_1_method_19_code 27 = .ok (.getfield 175, 3) := by decide +kernel
theorem dX10_outputCount_30 : decode prog_1_method_19_code 30 = .ok (.ireturn, 1) := by decide +kernel
theorem sX10_outputCount {Q : Int → Hp → Prop} {h : Hp} {l1 : Int}
    (hP : ((l1 ≥ 0 ∧ l1 < 4) →
     (ix l1 4) ∧
     CV 3 mX10_gatherOutputs [vr 68, vr (4 * l1), vr 85] h (fun h3 =>
      Q (h3 85 3) h3)) ∧
    ((l1 < 0 ∨ l1 ≥ 4) →
     Q (-1) h)) :
    CI 4 mX10_outputCount [vr 68, vi l1] h Q := by
  refine CI_of_E fX10_outputCount.1 rfl (Nat.le_of_ble_eq_true rfl) ?_
  show E 4 mX10_outputCount 0 [(0, vr 68), (1, vi l1)] [] h (qi Q)
  refine E_iload_n 1 1 dX10_outputCount_0 rfl rfl ?_
  refine E_invSI [vi l1] dX10_outputCount_1 fX10_isNetwork lX10_90 (by decide) rfl rfl (Nat.le_of_ble_eq_true rfl) (sX10_isNetwork (h := h) (l0 := l1) ?_)
  refine E_if_ne 9 dX10_outputCount_4 rfl (fun hc => ?_) (fun hc => ?_)
  · replace hP := hP.1 (by have := ite1' hc; omega)
    obtain ⟨v2_0, hP⟩ := hP
    refine E_aload_n 0 0 dX10_outputCount_9 rfl rfl ?_
    refine E_aload_n 0 0 dX10_outputCount_10 rfl rfl ?_
    refine E_gR 69 0 dX10_outputCount_11 FX10_11 ic_68 (by decide) ?_
    refine E_iload_n 1 1 dX10_outputCount_14 rfl rfl ?_
    refine E_aaloadN dX10_outputCount_15 ic_69 v2_0.1 v2_0.2 (rf_nets ⟨v2_0.1, v2_0.2⟩) ?_
    refine E_aload_n 0 0 dX10_outputCount_16 rfl rfl ?_
    refine E_gR 85 8 dX10_outputCount_17 FX10_62 ic_68 (by decide) ?_
    refine E_invVV [vr (4 * l1), vr 85] dX10_outputCount_20 fX10_gatherOutputs lX10_171 ic_68 rfl (by decide) rfl rfl (Nat.le_of_ble_eq_true rfl) (CV_mono hP (fun h3 hP => ?_))
    refine E_aload_n 0 0 dX10_outputCount_23 rfl rfl ?_
    refine E_gR 85 8 dX10_outputCount_24 FX10_62 ic_68 (by decide) ?_
    refine E_gI 3 3 dX10_outputCount_27 FX10_175 ic_85 rfl ?_
    exact E_retI dX10_outputCount_30 rfl hP
  · replace hP := hP.2 (by have := ite0 hc; omega)
    refine E_iconst dX10_outputCount_7 (rg_of rfl) ?_
    exact E_retI dX10_outputCount_8 rfl hP
theorem dX10_outputOf_0 : decode prog_1_method_20_code 0 = .ok (.iload_n 1, 1) := by decide +kernel
theorem dX10_outputOf_1 : decode prog_1_method_20_code 1 = .ok (.invokestatic 90, 3) := by decide +kernel
theorem dX10_outputOf_4 : decode prog_1_method_20_code 4 = .ok (.ifCond .ne 5, 3) := by decide +kernel
theorem dX10_outputOf_7 : decode prog_1_method_20_code 7 = .ok (.iconst (-1), 1) := by decide +kernel
theorem dX10_outputOf_8 : decode prog_1_method_20_code 8 = .ok (.ireturn, 1) := by decide +kernel
theorem dX10_outputOf_9 : decode prog_1_method_20_code 9 = .ok (.iload_n 2, 1) := by decide +kernel
theorem dX10_outputOf_10 : decode prog_1_method_20_code 10 = .ok (.ifCond .lt 18, 3) := by decide +kernel
theorem dX10_outputOf_13 : decode prog_1_method_20_code 13 = .ok (.iload_n 2, 1) := by decide +kernel
theorem dX10_outputOf_14 : decode prog_1_method_20_code 14 = .ok (.iconst 1, 1) := by decide +kernel
theorem dX10_outputOf_15 : decode prog_1_method_20_code 15 = .ok (.aload_n 0, 1) := by decide +kernel
theorem dX10_outputOf_16 : decode prog_1_method_20_code 16 = .ok (.getfield 11, 3) := by decide +kernel
theorem dX10_outputOf_19 : decode prog_1_method_20_code 19 = .ok (.iload_n 1, 1) := by decide +kernel
theorem dX10_outputOf_20 : decode prog_1_method_20_code 20 = .ok (.aaload, 1) := by decide +kernel
theorem dX10_outputOf_21 : decode prog_1_method_20_code 21 = .ok (.getfield 108, 3) := by decide +kernel
theorem dX10_outputOf_24 : decode prog_1_method_20_code 24 = .ok (.ishl, 1) := by decide +kernel
theorem dX10_outputOf_25 : decode prog_1_method_20_code 25 = .ok (.if_icmp .lt 6, 3) := by decide +kernel
theorem dX10_outputOf_28 : decode prog_1_method_20_code 28 = .ok (.bipush (-2), 2) := by decide +kernel
theorem dX10_outputOf_30 : decode prog_1_method_20_code 30 = .ok (.ireturn, 1) := by decide +kernel
theorem dX10_outputOf_31 : decode prog_1_method_20_code 31 = .ok (.aload_n 0, 1) := by decide +kernel
theorem dX10_outputOf_32 : decode prog_1_method_20_code 32 = .ok (.getfield 11, 3) := by decide +kernel
theorem dX10_outputOf_35 : decode prog_1_method_20_code 35 = .ok (.iload_n 1, 1) := by decide +kernel
theorem dX10_outputOf_36 : decode prog_1_method_20_code 36 = .ok (.aaload, 1) := by decide +kernel
theorem dX10_outputOf_37 : decode prog_1_method_20_code 37 = .ok (.iload_n 2, 1) := by decide +kernel
theorem dX10_outputOf_38 : decode prog_1_method_20_code 38 = .ok (.invokevirtual 176, 3) := by decide +kernel
theorem dX10_outputOf_41 : decode prog_1_method_20_code 41 = .ok (.ireturn, 1) := by decide +kernel
theorem sX10_outputOf {Q : Int → Hp → Prop} {h : Hp} {l1 l2 : Int}
    (hP : ((l1 ≥ 0 ∧ l1 < 4) →
     ((l2 < 0) →
      Q (-2) h) ∧
     ((l2 ≥ 0) →
      (ix l1 4 ∧ nA (4 * l1)) ∧
      ((l2 < (j_ishl 1 (h (4 * l1) 0))) →
       (ix l1 4 ∧ nA (4 * l1)) ∧
       CI 1 mX3_carry [vr (4 * l1), vi l2] h (fun r7 h6 =>
        Q r7 h6)) ∧
      ((l2 ≥ (j_ishl 1 (h (4 * l1) 0))) →
       Q (-2) h))) ∧
    ((l1 < 0 ∨ l1 ≥ 4) →
     Q (-1) h)) :
    CI 2 mX10_outputOf [vr 68, vi l1, vi l2] h Q := by
  refine CI_of_E fX10_outputOf.1 rfl (Nat.le_of_ble_eq_true rfl) ?_
  show E 2 mX10_outputOf 0 [(0, vr 68), (1, vi l1), (2, vi l2)] [] h (qi Q)
  refine E_iload_n 1 1 dX10_outputOf_0 rfl rfl ?_
  refine E_invSI [vi l1] dX10_outputOf_1 fX10_isNetwork lX10_90 (by decide) rfl rfl (Nat.le_of_ble_eq_true rfl) (sX10_isNetwork (h := h) (l0 := l1) ?_)
  refine E_if_ne 9 dX10_outputOf_4 rfl (fun hc => ?_) (fun hc => ?_)
  · replace hP := hP.1 (by have := ite1' hc; omega)
    refine E_iload_n 2 2 dX10_outputOf_9 rfl rfl ?_
    refine E_if_lt 28 dX10_outputOf_10 rfl (fun hc => ?_) (fun hc => ?_)
    · replace hP := hP.1 (hc)
      refine E_bipush dX10_outputOf_28 (by decide) ?_
      exact E_retI dX10_outputOf_30 rfl hP
    · replace hP := hP.2 (by omega)
      obtain ⟨⟨v4_0, v4_1⟩, hP⟩ := hP
      refine E_iload_n 2 2 dX10_outputOf_13 rfl rfl ?_
      refine E_iconst dX10_outputOf_14 (rg_of rfl) ?_
      refine E_aload_n 0 0 dX10_outputOf_15 rfl rfl ?_
      refine E_gR 69 0 dX10_outputOf_16 FX10_11 ic_68 (by decide) ?_
      refine E_iload_n 1 1 dX10_outputOf_19 rfl rfl ?_
      refine E_aaloadN dX10_outputOf_20 ic_69 v4_0.1 v4_0.2 (rf_nets ⟨v4_0.1, v4_0.2⟩) ?_
      refine E_gI 0 0 dX10_outputOf_21 FX10_108 (icN0 v4_1) rfl ?_
      refine E_ishl dX10_outputOf_24 ?_
      refine E_icmp_lt 31 dX10_outputOf_25 rfl (fun hc => ?_) (fun hc => ?_)
      · replace hP := hP.1 (hc)
        obtain ⟨⟨v5_0, v5_1⟩, hP⟩ := hP
        refine E_aload_n 0 0 dX10_outputOf_31 rfl rfl ?_
        refine E_gR 69 0 dX10_outputOf_32 FX10_11 ic_68 (by decide) ?_
        refine E_iload_n 1 1 dX10_outputOf_35 rfl rfl ?_
        refine E_aaloadN dX10_outputOf_36 ic_69 v5_0.1 v5_0.2 (rf_nets ⟨v5_0.1, v5_0.2⟩) ?_
        refine E_iload_n 2 2 dX10_outputOf_37 rfl rfl ?_
        refine E_invVI [vi l2] dX10_outputOf_38 fX3_carry lX10_176 (icN0 v5_1) rfl (by decide) rfl rfl (Nat.le_of_ble_eq_true rfl) (CI_mono hP (fun r7 h6 hP => ?_))
        exact E_retI dX10_outputOf_41 rfl hP
      · replace hP := hP.2 (by omega)
        refine E_bipush dX10_outputOf_28 (by decide) ?_
        exact E_retI dX10_outputOf_30 rfl hP
  · replace hP := hP.2 (by have := ite0 hc; omega)
    refine E_iconst dX10_outputOf_7 (rg_of rfl) ?_
    exact E_retI dX10_outputOf_8 rfl hP
theorem dX10_sorts_0 : decode prog_1_method_60_code 0 = .ok (.aload_n 0, 1) := by decide +kernel
theorem dX10_sorts_1 : decode prog_1_method_60_code 1 = .ok (.getfield 55, 3) := by decide +kernel
theorem dX10_sorts_4 : decode prog_1_method_60_code 4 = .ok (.aload_n 1, 1) := by decide +kernel
theorem dX10_sorts_5 : decode prog_1_method_60_code 5 = .ok (.iload_n 2, 1) := by decide +kernel
theorem dX10_sorts_6 : decode prog_1_method_60_code 6 = .ok (.invokevirtual 183, 3) := by decide +kernel
theorem dX10_sorts_9 : decode prog_1_method_60_code 9 = .ok (.aload_n 0, 1) := by decide +kernel
theorem dX10_sorts_10 : decode prog_1_method_60_code 10 = .ok (.getfield 55, 3) := by decide +kernel
theorem dX10_sorts_13 : decode prog_1_method_60_code 13 = .ok (.invokevirtual 187, 3) := by decide +kernel
theorem dX10_sorts_16 : decode prog_1_method_60_code 16 = .ok (.iconst (-1), 1) := by decide +kernel
theorem dX10_sorts_17 : decode prog_1_method_60_code 17 = .ok (.if_icmp .ne 7, 3) := by decide +kernel
theorem dX10_sorts_20 : decode prog_1_method_60_code 20 = .ok (.iconst 1, 1) := by decide +kernel
theorem dX10_sorts_21 : decode prog_1_method_60_code 21 = .ok (.goto 4, 3) := by decide +kernel
theorem dX10_sorts_24 : decode prog_1_method_60_code 24 = .ok (.iconst 0, 1) := by decide +kernel
theorem dX10_sorts_25 : decode prog_1_method_60_code 25 = .ok (.ireturn, 1) := by decide +kernel
theorem sX10_sorts {Q : Int → Hp → Prop} {h : Hp} {a1 l2 : Int}
    (hP : CV 2 mX7_passAll [vr 83, vr a1, vi l2] h (fun h2 =>
     CI 1 mX7_lowestFailure [vr 83] h2 (fun r5 h4 =>
      Q (if r5 = (-1) then (1 : Int) else 0) h4))) :
    CI 3 mX10_sorts [vr 68, vr a1, vi l2] h Q := by
  refine CI_of_E fX10_sorts.1 rfl (Nat.le_of_ble_eq_true rfl) ?_
  show E 3 mX10_sorts 0 [(0, vr 68), (1, vr a1), (2, vi l2)] [] h (qi Q)
  refine E_aload_n 0 0 dX10_sorts_0 rfl rfl ?_
  refine E_gR 83 7 dX10_sorts_1 FX10_55 ic_68 (by decide) ?_
  refine E_aload_n 1 1 dX10_sorts_4 rfl rfl ?_
  refine E_iload_n 2 2 dX10_sorts_5 rfl rfl ?_
  refine E_invVV [vr a1, vi l2] dX10_sorts_6 fX7_passAll lX10_183 ic_83 rfl (by decide) rfl rfl (Nat.le_of_ble_eq_true rfl) (CV_mono hP (fun h2 hP => ?_))
  refine E_aload_n 0 0 dX10_sorts_9 rfl rfl ?_
  refine E_gR 83 7 dX10_sorts_10 FX10_55 ic_68 (by decide) ?_
  refine E_invVI [] dX10_sorts_13 fX7_lowestFailure lX10_187 ic_83 rfl (by decide) rfl rfl (Nat.le_of_ble_eq_true rfl) (CI_mono hP (fun r5 h4 hP => ?_))
  refine E_iconst dX10_sorts_16 (rg_of rfl) ?_
  have hJ : E 3 mX10_sorts 25 [(0, vr 68), (1, vr a1), (2, vi l2)] [vi (if r5 = (-1) then (1 : Int) else 0)] h4 (qi Q) := by
    exact E_retZ dX10_sorts_25 rfl (b01 _) hP
  refine E_icmp_ne 24 dX10_sorts_17 rfl (fun hc => ?_) (fun hc => ?_)
  · have hp17 := (hc : r5 ≠ (-1))
    refine E_iconst dX10_sorts_24 (rg_of rfl) ?_
    exact E_top (if_neg (by omega)).symm hJ
  · have hp17 := (by omega : r5 = (-1))
    refine E_iconst dX10_sorts_20 (rg_of rfl) ?_
    refine E_goto 25 dX10_sorts_21 rfl ?_
    exact E_top (if_pos (by omega)).symm hJ
theorem dX10_isSorter_0 : decode prog_1_method_21_code 0 = .ok (.iload_n 1, 1) := by decide +kernel
theorem dX10_isSorter_1 : decode prog_1_method_21_code 1 = .ok (.invokestatic 90, 3) := by decide +kernel
theorem dX10_isSorter_4 : decode prog_1_method_21_code 4 = .ok (.ifCond .eq 20, 3) := by decide +kernel
theorem dX10_isSorter_7 : decode prog_1_method_21_code 7 = .ok (.aload_n 0, 1) := by decide +kernel
theorem dX10_isSorter_8 : decode prog_1_method_21_code 8 = .ok (.aload_n 0, 1) := by decide +kernel
theorem dX10_isSorter_9 : decode prog_1_method_21_code 9 = .ok (.getfield 11, 3) := by decide +kernel
theorem dX10_isSorter_12 : decode prog_1_method_21_code 12 = .ok (.iload_n 1, 1) := by decide +kernel
theorem dX10_isSorter_13 : decode prog_1_method_21_code 13 = .ok (.aaload, 1) := by decide +kernel
theorem dX10_isSorter_14 : decode prog_1_method_21_code 14 = .ok (.iconst (-1), 1) := by decide +kernel
theorem dX10_isSorter_15 : decode prog_1_method_21_code 15 = .ok (.invokevirtual 179, 3) := by decide +kernel
theorem dX10_isSorter_18 : decode prog_1_method_21_code 18 = .ok (.invokestatic 167, 3) := by decide +kernel
theorem dX10_isSorter_21 : decode prog_1_method_21_code 21 = .ok (.goto 4, 3) := by decide +kernel
theorem dX10_isSorter_24 : decode prog_1_method_21_code 24 = .ok (.iconst (-1), 1) := by decide +kernel
theorem dX10_isSorter_25 : decode prog_1_method_21_code 25 = .ok (.ireturn, 1) := by decide +kernel
theorem sX10_isSorter {Q : Int → Hp → Prop} {h : Hp} {l1 : Int}
    (hP : ((l1 < 0 ∨ l1 ≥ 4) →
     Q (-1) h) ∧
    ((l1 ≥ 0 ∧ l1 < 4) →
     (ix l1 4) ∧
     CI 3 mX10_sorts [vr 68, vr (4 * l1), vi (-1)] h (fun r5 h4 =>
      Q (if r5 ≠ 0 then (1 : Int) else 0) h4))) :
    CI 4 mX10_isSorter [vr 68, vi l1] h Q := by
  refine CI_of_E fX10_isSorter.1 rfl (Nat.le_of_ble_eq_true rfl) ?_
  show E 4 mX10_isSorter 0 [(0, vr 68), (1, vi l1)] [] h (qi Q)
  refine E_iload_n 1 1 dX10_isSorter_0 rfl rfl ?_
  refine E_invSI [vi l1] dX10_isSorter_1 fX10_isNetwork lX10_90 (by decide) rfl rfl (Nat.le_of_ble_eq_true rfl) (sX10_isNetwork (h := h) (l0 := l1) ?_)
  refine E_if_eq 24 dX10_isSorter_4 rfl (fun hc => ?_) (fun hc => ?_)
  · replace hP := hP.1 (by have := ite0 hc; omega)
    refine E_iconst dX10_isSorter_24 (rg_of rfl) ?_
    exact E_retI dX10_isSorter_25 rfl hP
  · replace hP := hP.2 (by have := ite1 hc; omega)
    obtain ⟨v3_0, hP⟩ := hP
    refine E_aload_n 0 0 dX10_isSorter_7 rfl rfl ?_
    refine E_aload_n 0 0 dX10_isSorter_8 rfl rfl ?_
    refine E_gR 69 0 dX10_isSorter_9 FX10_11 ic_68 (by decide) ?_
    refine E_iload_n 1 1 dX10_isSorter_12 rfl rfl ?_
    refine E_aaloadN dX10_isSorter_13 ic_69 v3_0.1 v3_0.2 (rf_nets ⟨v3_0.1, v3_0.2⟩) ?_
    refine E_iconst dX10_isSorter_14 (rg_of rfl) ?_
    refine E_invVI [vr (4 * l1), vi (-1)] dX10_isSorter_15 fX10_sorts lX10_179 ic_68 rfl (by decide) rfl rfl (Nat.le_of_ble_eq_true rfl) (CI_mono hP (fun r5 h4 hP => ?_))
    refine E_invSI [vi r5] dX10_isSorter_18 fX10_oneIf lX10_167 (by decide) rfl rfl (Nat.le_of_ble_eq_true rfl) (sX10_oneIf (h := h4) (l0 := r5) ?_)
    refine E_goto 25 dX10_isSorter_21 rfl ?_
    exact E_retI dX10_isSorter_25 rfl hP
theorem dX10_firstFailure_0 : decode prog_1_method_22_code 0 = .ok (.iload_n 1, 1) := by decide +kernel
theorem dX10_firstFailure_1 : decode prog_1_method_22_code 1 = .ok (.invokestatic 90, 3) := by decide +kernel
theorem dX10_firstFailure_4 : decode prog_1_method_22_code 4 = .ok (.ifCond .ne 5, 3) := by decide +kernel
theorem dX10_firstFailure_7 : decode prog_1_method_22_code 7 = .ok (.iconst (-1), 1) := by decide +kernel
theorem dX10_firstFailure_8 : decode prog_1_method_22_code 8 = .ok (.ireturn, 1) := by decide +kernel
theorem dX10_firstFailure_9 : decode prog_1_method_22_code 9 = .ok (.aload_n 0, 1) := by decide +kernel
theorem dX10_firstFailure_10 : decode prog_1_method_22_code 10 = .ok (.getfield 55, 3) := by decide +kernel
theorem dX10_firstFailure_13 : decode prog_1_method_22_code 13 = .ok (.aload_n 0, 1) := by decide +kernel
theorem dX10_firstFailure_14 : decode prog_1_method_22_code 14 = .ok (.getfield 11, 3) := by decide +kernel
theorem dX10_firstFailure_17 : decode prog_1_method_22_code 17 = .ok (.iload_n 1, 1) := by decide +kernel
theorem dX10_firstFailure_18 : decode prog_1_method_22_code 18 = .ok (.aaload, 1) := by decide +kernel
theorem dX10_firstFailure_19 : decode prog_1_method_22_code 19 = .ok (.iconst (-1), 1) := by decide +kernel
theorem dX10_firstFailure_20 : decode prog_1_method_22_code 20 = .ok (.invokevirtual 183, 3) := by decide +kernel
theorem dX10_firstFailure_23 : decode prog_1_method_22_code 23 = .ok (.aload_n 0, 1) := by decide +kernel
theorem dX10_firstFailure_24 : decode prog_1_method_22_code 24 = .ok (.getfield 55, 3) := by decide +kernel
theorem dX10_firstFailure_27 : decode prog_1_method_22_code 27 = .ok (.invokevirtual 187, 3) := by decide +kernel
theorem dX10_firstFailure_30 : decode prog_1_method_22_code 30 = .ok (.istore_n 2, 1) := by decide +kernel
theorem dX10_firstFailure_31 : decode prog_1_method_22_code 31 = .ok (.iload_n 2, 1) := by decide +kernel
theorem dX10_firstFailure_32 : decode prog_1_method_22_code 32 = .ok (.iconst (-1), 1) := by decide +kernel
theorem dX10_firstFailure_33 : decode prog_1_method_22_code 33 = .ok (.if_icmp .ne 8, 3) := by decide +kernel
theorem dX10_firstFailure_36 : decode prog_1_method_22_code 36 = .ok (.bipush (-4), 2) := by decide +kernel
theorem dX10_firstFailure_38 : decode prog_1_method_22_code 38 = .ok (.goto 4, 3) := by decide +kernel
theorem dX10_firstFailure_41 : decode prog_1_method_22_code 41 = .ok (.iload_n 2, 1) := by decide +kernel
theorem dX10_firstFailure_42 : decode prog_1_method_22_code 42 = .ok (.ireturn, 1) := by decide +kernel
theorem sX10_firstFailure {Q : Int → Hp → Prop} {h : Hp} {l1 : Int}
    (hP : ((l1 ≥ 0 ∧ l1 < 4) →
     (ix l1 4) ∧
     CV 2 mX7_passAll [vr 83, vr (4 * l1), vi (-1)] h (fun h3 =>
      CI 1 mX7_lowestFailure [vr 83] h3 (fun r6 h5 =>
       Q (if r6 ≠ (-1) then r6 else (-4)) h5))) ∧
    ((l1 < 0 ∨ l1 ≥ 4) →
     Q (-1) h)) :
    CI 3 mX10_firstFailure [vr 68, vi l1] h Q := by
  refine CI_of_E fX10_firstFailure.1 rfl (Nat.le_of_ble_eq_true rfl) ?_
  show E 3 mX10_firstFailure 0 [(0, vr 68), (1, vi l1)] [] h (qi Q)
  refine E_iload_n 1 1 dX10_firstFailure_0 rfl rfl ?_
  refine E_invSI [vi l1] dX10_firstFailure_1 fX10_isNetwork lX10_90 (by decide) rfl rfl (Nat.le_of_ble_eq_true rfl) (sX10_isNetwork (h := h) (l0 := l1) ?_)
  refine E_if_ne 9 dX10_firstFailure_4 rfl (fun hc => ?_) (fun hc => ?_)
  · replace hP := hP.1 (by have := ite1' hc; omega)
    obtain ⟨v2_0, hP⟩ := hP
    refine E_aload_n 0 0 dX10_firstFailure_9 rfl rfl ?_
    refine E_gR 83 7 dX10_firstFailure_10 FX10_55 ic_68 (by decide) ?_
    refine E_aload_n 0 0 dX10_firstFailure_13 rfl rfl ?_
    refine E_gR 69 0 dX10_firstFailure_14 FX10_11 ic_68 (by decide) ?_
    refine E_iload_n 1 1 dX10_firstFailure_17 rfl rfl ?_
    refine E_aaloadN dX10_firstFailure_18 ic_69 v2_0.1 v2_0.2 (rf_nets ⟨v2_0.1, v2_0.2⟩) ?_
    refine E_iconst dX10_firstFailure_19 (rg_of rfl) ?_
    refine E_invVV [vr (4 * l1), vi (-1)] dX10_firstFailure_20 fX7_passAll lX10_183 ic_83 rfl (by decide) rfl rfl (Nat.le_of_ble_eq_true rfl) (CV_mono hP (fun h3 hP => ?_))
    refine E_aload_n 0 0 dX10_firstFailure_23 rfl rfl ?_
    refine E_gR 83 7 dX10_firstFailure_24 FX10_55 ic_68 (by decide) ?_
    refine E_invVI [] dX10_firstFailure_27 fX7_lowestFailure lX10_187 ic_83 rfl (by decide) rfl rfl (Nat.le_of_ble_eq_true rfl) (CI_mono hP (fun r6 h5 hP => ?_))
    refine E_istore_n dX10_firstFailure_30 rfl (by decide) rfl ?_
    refine E_iload_n 0 2 dX10_firstFailure_31 rfl rfl ?_
    refine E_iconst dX10_firstFailure_32 (rg_of rfl) ?_
    have hJ : E 3 mX10_firstFailure 42 [(2, vi r6), (0, vr 68), (1, vi l1)] [vi (if r6 ≠ (-1) then r6 else (-4))] h5 (qi Q) := by
      exact E_retI dX10_firstFailure_42 rfl hP
    refine E_icmp_ne 41 dX10_firstFailure_33 rfl (fun hc => ?_) (fun hc => ?_)
    · have hp33 := (hc : r6 ≠ (-1))
      refine E_iload_n 0 2 dX10_firstFailure_41 rfl rfl ?_
      exact E_top (by first | exact (if_pos (by omega)).symm | exact (if_neg (by omega)).symm | (repeat first | rw [if_pos (by omega)] | rw [if_neg (by omega)])) hJ
    · have hp33 := (by omega : r6 = (-1))
      refine E_bipush dX10_firstFailure_36 (by decide) ?_
      refine E_goto 42 dX10_firstFailure_38 rfl ?_
      exact E_top (by first | exact (if_pos (by omega)).symm | exact (if_neg (by omega)).symm | (repeat first | rw [if_pos (by omega)] | rw [if_neg (by omega)])) hJ
  · replace hP := hP.2 (by have := ite0 hc; omega)
    refine E_iconst dX10_firstFailure_7 (rg_of rfl) ?_
    exact E_retI dX10_firstFailure_8 rfl hP
theorem dX10_isSelector_0 : decode prog_1_method_23_code 0 = .ok (.iload_n 1, 1) := by decide +kernel
theorem dX10_isSelector_1 : decode prog_1_method_23_code 1 = .ok (.invokestatic 90, 3) := by decide +kernel
theorem dX10_isSelector_4 : decode prog_1_method_23_code 4 = .ok (.ifCond .eq 16, 3) := by decide +kernel
theorem dX10_isSelector_7 : decode prog_1_method_23_code 7 = .ok (.aload_n 0, 1) := by decide +kernel
theorem dX10_isSelector_8 : decode prog_1_method_23_code 8 = .ok (.getfield 11, 3) := by decide +kernel
theorem dX10_isSelector_11 : decode prog_1_method_23_code 11 = .ok (.iload_n 1, 1) := by decide +kernel
theorem dX10_isSelector_12 : decode prog_1_method_23_code 12 = .ok (.aaload, 1) := by decide +kernel
theorem dX10_isSelector_13 : decode prog_1_method_23_code 13 = .ok (.iload_n 2, 1) := by decide +kernel
theorem dX10_isSelector_14 : decode prog_1_method_23_code 14 = .ok (.invokevirtual 190, 3) := by decide +kernel
theorem dX10_isSelector_17 : decode prog_1_method_23_code 17 = .ok (.ifCond .ne 5, 3) := by decide +kernel
theorem dX10_isSelector_20 : decode prog_1_method_23_code 20 = .ok (.iconst (-1), 1) := by decide +kernel
theorem dX10_isSelector_21 : decode prog_1_method_23_code 21 = .ok (.ireturn, 1) := by decide +kernel
theorem dX10_isSelector_22 : decode prog_1_method_23_code 22 = .ok (.aload_n 0, 1) := by decide +kernel
theorem dX10_isSelector_23 : decode prog_1_method_23_code 23 = .ok (.getfield 55, 3) := by decide +kernel
theorem dX10_isSelector_26 : decode prog_1_method_23_code 26 = .ok (.aload_n 0, 1) := by decide +kernel
theorem dX10_isSelector_27 : decode prog_1_method_23_code 27 = .ok (.getfield 11, 3) := by decide +kernel
theorem dX10_isSelector_30 : decode prog_1_method_23_code 30 = .ok (.iload_n 1, 1) := by decide +kernel
theorem dX10_isSelector_31 : decode prog_1_method_23_code 31 = .ok (.aaload, 1) := by decide +kernel
theorem dX10_isSelector_32 : decode prog_1_method_23_code 32 = .ok (.iconst (-1), 1) := by decide +kernel
theorem dX10_isSelector_33 : decode prog_1_method_23_code 33 = .ok (.invokevirtual 183, 3) := by decide +kernel
theorem dX10_isSelector_36 : decode prog_1_method_23_code 36 = .ok (.aload_n 0, 1) := by decide +kernel
theorem dX10_isSelector_37 : decode prog_1_method_23_code 37 = .ok (.getfield 55, 3) := by decide +kernel
theorem dX10_isSelector_40 : decode prog_1_method_23_code 40 = .ok (.iload_n 2, 1) := by decide +kernel
theorem dX10_isSelector_41 : decode prog_1_method_23_code 41 = .ok (.invokevirtual 193, 3) := by decide +kernel
theorem dX10_isSelector_44 : decode prog_1_method_23_code 44 = .ok (.invokestatic 167, 3) := by decide +kernel
theorem dX10_isSelector_47 : decode prog_1_method_23_code 47 = .ok (.ireturn, 1) := by decide +kernel
theorem sX10_isSelector {Q : Int → Hp → Prop} {h : Hp} {l1 l2 : Int}
    (hP : ((l1 < 0 ∨ l1 ≥ 4) →
     Q (-1) h) ∧
    ((l1 ≥ 0 ∧ l1 < 4) →
     (ix l1 4 ∧ nA (4 * l1) ∧ ((l2 ≥ 0) → (nA (4 * l1)))) ∧
     ((l2 ≥ 0 ∧ l2 < (h (4 * l1) 0)) →
      (ix l1 4) ∧
      CV 2 mX7_passAll [vr 83, vr (4 * l1), vi (-1)] h (fun h5 =>
       CI 1 mX7_selects [vr 83, vi l2] h5 (fun r8 h7 =>
        Q (if r8 ≠ 0 then (1 : Int) else 0) h7))) ∧
     ((l2 < 0 ∨ l2 ≥ (h (4 * l1) 0)) →
      Q (-1) h))) :
    CI 3 mX10_isSelector [vr 68, vi l1, vi l2] h Q := by
  refine CI_of_E fX10_isSelector.1 rfl (Nat.le_of_ble_eq_true rfl) ?_
  show E 3 mX10_isSelector 0 [(0, vr 68), (1, vi l1), (2, vi l2)] [] h (qi Q)
  refine E_iload_n 1 1 dX10_isSelector_0 rfl rfl ?_
  refine E_invSI [vi l1] dX10_isSelector_1 fX10_isNetwork lX10_90 (by decide) rfl rfl (Nat.le_of_ble_eq_true rfl) (sX10_isNetwork (h := h) (l0 := l1) ?_)
  refine E_if_eq 20 dX10_isSelector_4 rfl (fun hc => ?_) (fun hc => ?_)
  · replace hP := hP.1 (by have := ite0 hc; omega)
    refine E_iconst dX10_isSelector_20 (rg_of rfl) ?_
    exact E_retI dX10_isSelector_21 rfl hP
  · replace hP := hP.2 (by have := ite1 hc; omega)
    obtain ⟨⟨v3_0, v3_1, v3_2⟩, hP⟩ := hP
    refine E_aload_n 0 0 dX10_isSelector_7 rfl rfl ?_
    refine E_gR 69 0 dX10_isSelector_8 FX10_11 ic_68 (by decide) ?_
    refine E_iload_n 1 1 dX10_isSelector_11 rfl rfl ?_
    refine E_aaloadN dX10_isSelector_12 ic_69 v3_0.1 v3_0.2 (rf_nets ⟨v3_0.1, v3_0.2⟩) ?_
    refine E_iload_n 2 2 dX10_isSelector_13 rfl rfl ?_
    refine E_invVI [vi l2] dX10_isSelector_14 fX3_hasWire lX10_190 (icN0 v3_1) rfl (by decide) rfl rfl (Nat.le_of_ble_eq_true rfl) (sX3_hasWire (h := h) (a0 := (4 * l1)) (l1 := l2) ⟨v3_2, ?_⟩)
    refine E_if_ne 22 dX10_isSelector_17 rfl (fun hc => ?_) (fun hc => ?_)
    · replace hP := hP.1 (by have := ite1' hc; omega)
      obtain ⟨v4_0, hP⟩ := hP
      refine E_aload_n 0 0 dX10_isSelector_22 rfl rfl ?_
      refine E_gR 83 7 dX10_isSelector_23 FX10_55 ic_68 (by decide) ?_
      refine E_aload_n 0 0 dX10_isSelector_26 rfl rfl ?_
      refine E_gR 69 0 dX10_isSelector_27 FX10_11 ic_68 (by decide) ?_
      refine E_iload_n 1 1 dX10_isSelector_30 rfl rfl ?_
      refine E_aaloadN dX10_isSelector_31 ic_69 v4_0.1 v4_0.2 (rf_nets ⟨v4_0.1, v4_0.2⟩) ?_
      refine E_iconst dX10_isSelector_32 (rg_of rfl) ?_
      refine E_invVV [vr (4 * l1), vi (-1)] dX10_isSelector_33 fX7_passAll lX10_183 ic_83 rfl (by decide) rfl rfl (Nat.le_of_ble_eq_true rfl) (CV_mono hP (fun h5 hP => ?_))
      refine E_aload_n 0 0 dX10_isSelector_36 rfl rfl ?_
      refine E_gR 83 7 dX10_isSelector_37 FX10_55 ic_68 (by decide) ?_
      refine E_iload_n 2 2 dX10_isSelector_40 rfl rfl ?_
      refine E_invVI [vi l2] dX10_isSelector_41 fX7_selects lX10_193 ic_83 rfl (by decide) rfl rfl (Nat.le_of_ble_eq_true rfl) (CI_mono hP (fun r8 h7 hP => ?_))
      refine E_invSI [vi r8] dX10_isSelector_44 fX10_oneIf lX10_167 (by decide) rfl rfl (Nat.le_of_ble_eq_true rfl) (sX10_oneIf (h := h7) (l0 := r8) ?_)
      exact E_retI dX10_isSelector_47 rfl hP
    · replace hP := hP.2 (by have := ite0 hc; omega)
      refine E_iconst dX10_isSelector_20 (rg_of rfl) ?_
      exact E_retI dX10_isSelector_21 rfl hP
theorem dX10_countSorted_0 : decode prog_1_method_24_code 0 = .ok (.iload_n 1, 1) := by decide +kernel
theorem dX10_countSorted_1 : decode prog_1_method_24_code 1 = .ok (.invokestatic 90, 3) := by decide +kernel
theorem dX10_countSorted_4 : decode prog_1_method_24_code 4 = .ok (.ifCond .ne 5, 3) := by decide +kernel
theorem dX10_countSorted_7 : decode prog_1_method_24_code 7 = .ok (.iconst (-1), 1) := by decide +kernel
theorem dX10_countSorted_8 : decode prog_1_method_24_code 8 = .ok (.ireturn, 1) := by decide +kernel
theorem dX10_countSorted_9 : decode prog_1_method_24_code 9 = .ok (.aload_n 0, 1) := by decide +kernel
theorem dX10_countSorted_10 : decode prog_1_method_24_code 10 = .ok (.getfield 55, 3) := by decide +kernel
theorem dX10_countSorted_13 : decode prog_1_method_24_code 13 = .ok (.aload_n 0, 1) := by decide +kernel
theorem dX10_countSorted_14 : decode prog_1_method_24_code 14 = .ok (.getfield 11, 3) := by decide +kernel
theorem dX10_countSorted_17 : decode prog_1_method_24_code 17 = .ok (.iload_n 1, 1) := by decide +kernel
theorem dX10_countSorted_18 : decode prog_1_method_24_code 18 = .ok (.aaload, 1) := by decide +kernel
theorem dX10_countSorted_19 : decode prog_1_method_24_code 19 = .ok (.iconst (-1), 1) := by decide +kernel
theorem dX10_countSorted_20 : decode prog_1_method_24_code 20 = .ok (.invokevirtual 183, 3) := by decide +kernel
theorem dX10_countSorted_23 : decode prog_1_method_24_code 23 = .ok (.aload_n 0, 1) := by decide +kernel
theorem dX10_countSorted_24 : decode prog_1_method_24_code 24 = .ok (.getfield 79, 3) := by decide +kernel
theorem dX10_countSorted_27 : decode prog_1_method_24_code 27 = .ok (.aload_n 0, 1) := by decide +kernel
theorem dX10_countSorted_28 : decode prog_1_method_24_code 28 = .ok (.getfield 55, 3) := by decide +kernel
theorem dX10_countSorted_31 : decode prog_1_method_24_code 31 = .ok (.invokevirtual 196, 3) := by decide +kernel
theorem dX10_countSorted_34 : decode prog_1_method_24_code 34 = .ok (.ireturn, 1) := by decide +kernel
theorem sX10_countSorted {Q : Int → Hp → Prop} {h : Hp} {l1 : Int}
    (hP : ((l1 ≥ 0 ∧ l1 < 4) →
     (ix l1 4) ∧
     CV 2 mX7_passAll [vr 83, vr (4 * l1), vi (-1)] h (fun h3 =>
      CI 2 mX0_countWithoutFailure [vr 97, vr 83] h3 (fun r6 h5 =>
       Q r6 h5))) ∧
    ((l1 < 0 ∨ l1 ≥ 4) →
     Q (-1) h)) :
    CI 3 mX10_countSorted [vr 68, vi l1] h Q := by
  refine CI_of_E fX10_countSorted.1 rfl (Nat.le_of_ble_eq_true rfl) ?_
  show E 3 mX10_countSorted 0 [(0, vr 68), (1, vi l1)] [] h (qi Q)
  refine E_iload_n 1 1 dX10_countSorted_0 rfl rfl ?_
  refine E_invSI [vi l1] dX10_countSorted_1 fX10_isNetwork lX10_90 (by decide) rfl rfl (Nat.le_of_ble_eq_true rfl) (sX10_isNetwork (h := h) (l0 := l1) ?_)
  refine E_if_ne 9 dX10_countSorted_4 rfl (fun hc => ?_) (fun hc => ?_)
  · replace hP := hP.1 (by have := ite1' hc; omega)
    obtain ⟨v2_0, hP⟩ := hP
    refine E_aload_n 0 0 dX10_countSorted_9 rfl rfl ?_
    refine E_gR 83 7 dX10_countSorted_10 FX10_55 ic_68 (by decide) ?_
    refine E_aload_n 0 0 dX10_countSorted_13 rfl rfl ?_
    refine E_gR 69 0 dX10_countSorted_14 FX10_11 ic_68 (by decide) ?_
    refine E_iload_n 1 1 dX10_countSorted_17 rfl rfl ?_
    refine E_aaloadN dX10_countSorted_18 ic_69 v2_0.1 v2_0.2 (rf_nets ⟨v2_0.1, v2_0.2⟩) ?_
    refine E_iconst dX10_countSorted_19 (rg_of rfl) ?_
    refine E_invVV [vr (4 * l1), vi (-1)] dX10_countSorted_20 fX7_passAll lX10_183 ic_83 rfl (by decide) rfl rfl (Nat.le_of_ble_eq_true rfl) (CV_mono hP (fun h3 hP => ?_))
    refine E_aload_n 0 0 dX10_countSorted_23 rfl rfl ?_
    refine E_gR 97 11 dX10_countSorted_24 FX10_79 ic_68 (by decide) ?_
    refine E_aload_n 0 0 dX10_countSorted_27 rfl rfl ?_
    refine E_gR 83 7 dX10_countSorted_28 FX10_55 ic_68 (by decide) ?_
    refine E_invVI [vr 83] dX10_countSorted_31 fX0_countWithoutFailure lX10_196 ic_97 rfl (by decide) rfl rfl (Nat.le_of_ble_eq_true rfl) (CI_mono hP (fun r6 h5 hP => ?_))
    exact E_retI dX10_countSorted_34 rfl hP
  · replace hP := hP.2 (by have := ite0 hc; omega)
    refine E_iconst dX10_countSorted_7 (rg_of rfl) ?_
    exact E_retI dX10_countSorted_8 rfl hP
theorem dX10_firstUnsorted_0 : decode prog_1_method_25_code 0 = .ok (.iload_n 1, 1) := by decide +kernel
theorem dX10_firstUnsorted_1 : decode prog_1_method_25_code 1 = .ok (.invokestatic 90, 3) := by decide +kernel
theorem dX10_firstUnsorted_4 : decode prog_1_method_25_code 4 = .ok (.ifCond .ne 5, 3) := by decide +kernel
theorem dX10_firstUnsorted_7 : decode prog_1_method_25_code 7 = .ok (.iconst (-1), 1) := by decide +kernel
theorem dX10_firstUnsorted_8 : decode prog_1_method_25_code 8 = .ok (.ireturn, 1) := by decide +kernel
theorem dX10_firstUnsorted_9 : decode prog_1_method_25_code 9 = .ok (.aload_n 0, 1) := by decide +kernel
theorem dX10_firstUnsorted_10 : decode prog_1_method_25_code 10 = .ok (.getfield 55, 3) := by decide +kernel
theorem dX10_firstUnsorted_13 : decode prog_1_method_25_code 13 = .ok (.aload_n 0, 1) := by decide +kernel
theorem dX10_firstUnsorted_14 : decode prog_1_method_25_code 14 = .ok (.getfield 11, 3) := by decide +kernel
theorem dX10_firstUnsorted_17 : decode prog_1_method_25_code 17 = .ok (.iload_n 1, 1) := by decide +kernel
theorem dX10_firstUnsorted_18 : decode prog_1_method_25_code 18 = .ok (.aaload, 1) := by decide +kernel
theorem dX10_firstUnsorted_19 : decode prog_1_method_25_code 19 = .ok (.iconst (-1), 1) := by decide +kernel
theorem dX10_firstUnsorted_20 : decode prog_1_method_25_code 20 = .ok (.invokevirtual 183, 3) := by decide +kernel
theorem dX10_firstUnsorted_23 : decode prog_1_method_25_code 23 = .ok (.aload_n 0, 1) := by decide +kernel
theorem dX10_firstUnsorted_24 : decode prog_1_method_25_code 24 = .ok (.getfield 79, 3) := by decide +kernel
theorem dX10_firstUnsorted_27 : decode prog_1_method_25_code 27 = .ok (.aload_n 0, 1) := by decide +kernel
theorem dX10_firstUnsorted_28 : decode prog_1_method_25_code 28 = .ok (.getfield 55, 3) := by decide +kernel
theorem dX10_firstUnsorted_31 : decode prog_1_method_25_code 31 = .ok (.invokevirtual 200, 3) := by decide +kernel
theorem dX10_firstUnsorted_34 : decode prog_1_method_25_code 34 = .ok (.ireturn, 1) := by decide +kernel
theorem sX10_firstUnsorted {Q : Int → Hp → Prop} {h : Hp} {l1 : Int}
    (hP : ((l1 ≥ 0 ∧ l1 < 4) →
     (ix l1 4) ∧
     CV 2 mX7_passAll [vr 83, vr (4 * l1), vi (-1)] h (fun h3 =>
      CI 2 mX0_leastWithFailure [vr 97, vr 83] h3 (fun r6 h5 =>
       Q r6 h5))) ∧
    ((l1 < 0 ∨ l1 ≥ 4) →
     Q (-1) h)) :
    CI 3 mX10_firstUnsorted [vr 68, vi l1] h Q := by
  refine CI_of_E fX10_firstUnsorted.1 rfl (Nat.le_of_ble_eq_true rfl) ?_
  show E 3 mX10_firstUnsorted 0 [(0, vr 68), (1, vi l1)] [] h (qi Q)
  refine E_iload_n 1 1 dX10_firstUnsorted_0 rfl rfl ?_
  refine E_invSI [vi l1] dX10_firstUnsorted_1 fX10_isNetwork lX10_90 (by decide) rfl rfl (Nat.le_of_ble_eq_true rfl) (sX10_isNetwork (h := h) (l0 := l1) ?_)
  refine E_if_ne 9 dX10_firstUnsorted_4 rfl (fun hc => ?_) (fun hc => ?_)
  · replace hP := hP.1 (by have := ite1' hc; omega)
    obtain ⟨v2_0, hP⟩ := hP
    refine E_aload_n 0 0 dX10_firstUnsorted_9 rfl rfl ?_
    refine E_gR 83 7 dX10_firstUnsorted_10 FX10_55 ic_68 (by decide) ?_
    refine E_aload_n 0 0 dX10_firstUnsorted_13 rfl rfl ?_
    refine E_gR 69 0 dX10_firstUnsorted_14 FX10_11 ic_68 (by decide) ?_
    refine E_iload_n 1 1 dX10_firstUnsorted_17 rfl rfl ?_
    refine E_aaloadN dX10_firstUnsorted_18 ic_69 v2_0.1 v2_0.2 (rf_nets ⟨v2_0.1, v2_0.2⟩) ?_
    refine E_iconst dX10_firstUnsorted_19 (rg_of rfl) ?_
    refine E_invVV [vr (4 * l1), vi (-1)] dX10_firstUnsorted_20 fX7_passAll lX10_183 ic_83 rfl (by decide) rfl rfl (Nat.le_of_ble_eq_true rfl) (CV_mono hP (fun h3 hP => ?_))
    refine E_aload_n 0 0 dX10_firstUnsorted_23 rfl rfl ?_
    refine E_gR 97 11 dX10_firstUnsorted_24 FX10_79 ic_68 (by decide) ?_
    refine E_aload_n 0 0 dX10_firstUnsorted_27 rfl rfl ?_
    refine E_gR 83 7 dX10_firstUnsorted_28 FX10_55 ic_68 (by decide) ?_
    refine E_invVI [vr 83] dX10_firstUnsorted_31 fX0_leastWithFailure lX10_200 ic_97 rfl (by decide) rfl rfl (Nat.le_of_ble_eq_true rfl) (CI_mono hP (fun r6 h5 hP => ?_))
    exact E_retI dX10_firstUnsorted_34 rfl hP
  · replace hP := hP.2 (by have := ite0 hc; omega)
    refine E_iconst dX10_firstUnsorted_7 (rg_of rfl) ?_
    exact E_retI dX10_firstUnsorted_8 rfl hP
theorem dX10_totalExchanges_0 : decode prog_1_method_26_code 0 = .ok (.iload_n 1, 1) := by decide +kernel
theorem dX10_totalExchanges_1 : decode prog_1_method_26_code 1 = .ok (.invokestatic 90, 3) := by decide +kernel
theorem dX10_totalExchanges_4 : decode prog_1_method_26_code 4 = .ok (.ifCond .eq 19, 3) := by decide +kernel
theorem dX10_totalExchanges_7 : decode prog_1_method_26_code 7 = .ok (.aload_n 0, 1) := by decide +kernel
theorem dX10_totalExchanges_8 : decode prog_1_method_26_code 8 = .ok (.getfield 79, 3) := by decide +kernel
theorem dX10_totalExchanges_11 : decode prog_1_method_26_code 11 = .ok (.aload_n 0, 1) := by decide +kernel
theorem dX10_totalExchanges_12 : decode prog_1_method_26_code 12 = .ok (.getfield 11, 3) := by decide +kernel
theorem dX10_totalExchanges_15 : decode prog_1_method_26_code 15 = .ok (.iload_n 1, 1) := by decide +kernel
theorem dX10_totalExchanges_16 : decode prog_1_method_26_code 16 = .ok (.aaload, 1) := by decide +kernel
theorem dX10_totalExchanges_17 : decode prog_1_method_26_code 17 = .ok (.invokevirtual 203, 3) := by decide +kernel
theorem dX10_totalExchanges_20 : decode prog_1_method_26_code 20 = .ok (.goto 6, 3) := by decide +kernel
theorem dX10_totalExchanges_23 : decode prog_1_method_26_code 23 = .ok (.ldc2_w 207, 3) := by decide +kernel
theorem dX10_totalExchanges_26 : decode prog_1_method_26_code 26 = .ok (.lreturn, 1) := by decide +kernel
theorem sX10_totalExchanges {Q : Int → Hp → Prop} {h : Hp} {l1 : Int}
    (hP : ((l1 < 0 ∨ l1 ≥ 4) →
     Q (-1) h) ∧
    ((l1 ≥ 0 ∧ l1 < 4) →
     (ix l1 4) ∧
     CL 3 mX0_allExchanges [vr 97, vr (4 * l1)] h (fun r5 h4 =>
      Q r5 h4))) :
    CL 4 mX10_totalExchanges [vr 68, vi l1] h Q := by
  refine CL_of_E fX10_totalExchanges.1 rfl (Nat.le_of_ble_eq_true rfl) ?_
  show E 4 mX10_totalExchanges 0 [(0, vr 68), (1, vi l1)] [] h (ql Q)
  refine E_iload_n 1 1 dX10_totalExchanges_0 rfl rfl ?_
  refine E_invSI [vi l1] dX10_totalExchanges_1 fX10_isNetwork lX10_90 (by decide) rfl rfl (Nat.le_of_ble_eq_true rfl) (sX10_isNetwork (h := h) (l0 := l1) ?_)
  refine E_if_eq 23 dX10_totalExchanges_4 rfl (fun hc => ?_) (fun hc => ?_)
  · replace hP := hP.1 (by have := ite0 hc; omega)
    refine E_ldc2 (z := (-1)) dX10_totalExchanges_23 kX10_207 (by decide) ?_
    exact E_retL dX10_totalExchanges_26 rfl hP
  · replace hP := hP.2 (by have := ite1 hc; omega)
    obtain ⟨v3_0, hP⟩ := hP
    refine E_aload_n 0 0 dX10_totalExchanges_7 rfl rfl ?_
    refine E_gR 97 11 dX10_totalExchanges_8 FX10_79 ic_68 (by decide) ?_
    refine E_aload_n 0 0 dX10_totalExchanges_11 rfl rfl ?_
    refine E_gR 69 0 dX10_totalExchanges_12 FX10_11 ic_68 (by decide) ?_
    refine E_iload_n 1 1 dX10_totalExchanges_15 rfl rfl ?_
    refine E_aaloadN dX10_totalExchanges_16 ic_69 v3_0.1 v3_0.2 (rf_nets ⟨v3_0.1, v3_0.2⟩) ?_
    refine E_invVL [vr (4 * l1)] dX10_totalExchanges_17 fX0_allExchanges lX10_203 ic_97 rfl (by decide) rfl rfl (Nat.le_of_ble_eq_true rfl) (CL_mono hP (fun r5 h4 hP => ?_))
    refine E_goto 26 dX10_totalExchanges_20 rfl ?_
    exact E_retL dX10_totalExchanges_26 rfl hP
theorem dX10_mostExchanges_0 : decode prog_1_method_27_code 0 = .ok (.iload_n 1, 1) := by decide +kernel
theorem dX10_mostExchanges_1 : decode prog_1_method_27_code 1 = .ok (.invokestatic 90, 3) := by decide +kernel
theorem dX10_mostExchanges_4 : decode prog_1_method_27_code 4 = .ok (.ifCond .eq 19, 3) := by decide +kernel
theorem dX10_mostExchanges_7 : decode prog_1_method_27_code 7 = .ok (.aload_n 0, 1) := by decide +kernel
theorem dX10_mostExchanges_8 : decode prog_1_method_27_code 8 = .ok (.getfield 79, 3) := by decide +kernel
theorem dX10_mostExchanges_11 : decode prog_1_method_27_code 11 = .ok (.aload_n 0, 1) := by decide +kernel
theorem dX10_mostExchanges_12 : decode prog_1_method_27_code 12 = .ok (.getfield 11, 3) := by decide +kernel
theorem dX10_mostExchanges_15 : decode prog_1_method_27_code 15 = .ok (.iload_n 1, 1) := by decide +kernel
theorem dX10_mostExchanges_16 : decode prog_1_method_27_code 16 = .ok (.aaload, 1) := by decide +kernel
theorem dX10_mostExchanges_17 : decode prog_1_method_27_code 17 = .ok (.invokevirtual 209, 3) := by decide +kernel
theorem dX10_mostExchanges_20 : decode prog_1_method_27_code 20 = .ok (.goto 4, 3) := by decide +kernel
theorem dX10_mostExchanges_23 : decode prog_1_method_27_code 23 = .ok (.iconst (-1), 1) := by decide +kernel
theorem dX10_mostExchanges_24 : decode prog_1_method_27_code 24 = .ok (.ireturn, 1) := by decide +kernel
theorem sX10_mostExchanges {Q : Int → Hp → Prop} {h : Hp} {l1 : Int}
    (hP : ((l1 < 0 ∨ l1 ≥ 4) →
     Q (-1) h) ∧
    ((l1 ≥ 0 ∧ l1 < 4) →
     (ix l1 4) ∧
     CI 3 mX0_greatestExchanges [vr 97, vr (4 * l1)] h (fun r5 h4 =>
      Q r5 h4))) :
    CI 4 mX10_mostExchanges [vr 68, vi l1] h Q := by
  refine CI_of_E fX10_mostExchanges.1 rfl (Nat.le_of_ble_eq_true rfl) ?_
  show E 4 mX10_mostExchanges 0 [(0, vr 68), (1, vi l1)] [] h (qi Q)
  refine E_iload_n 1 1 dX10_mostExchanges_0 rfl rfl ?_
  refine E_invSI [vi l1] dX10_mostExchanges_1 fX10_isNetwork lX10_90 (by decide) rfl rfl (Nat.le_of_ble_eq_true rfl) (sX10_isNetwork (h := h) (l0 := l1) ?_)
  refine E_if_eq 23 dX10_mostExchanges_4 rfl (fun hc => ?_) (fun hc => ?_)
  · replace hP := hP.1 (by have := ite0 hc; omega)
    refine E_iconst dX10_mostExchanges_23 (rg_of rfl) ?_
    exact E_retI dX10_mostExchanges_24 rfl hP
  · replace hP := hP.2 (by have := ite1 hc; omega)
    obtain ⟨v3_0, hP⟩ := hP
    refine E_aload_n 0 0 dX10_mostExchanges_7 rfl rfl ?_
    refine E_gR 97 11 dX10_mostExchanges_8 FX10_79 ic_68 (by decide) ?_
    refine E_aload_n 0 0 dX10_mostExchanges_11 rfl rfl ?_
    refine E_gR 69 0 dX10_mostExchanges_12 FX10_11 ic_68 (by decide) ?_
    refine E_iload_n 1 1 dX10_mostExchanges_15 rfl rfl ?_
    refine E_aaloadN dX10_mostExchanges_16 ic_69 v3_0.1 v3_0.2 (rf_nets ⟨v3_0.1, v3_0.2⟩) ?_
    refine E_invVI [vr (4 * l1)] dX10_mostExchanges_17 fX0_greatestExchanges lX10_209 ic_97 rfl (by decide) rfl rfl (Nat.le_of_ble_eq_true rfl) (CI_mono hP (fun r5 h4 hP => ?_))
    refine E_goto 24 dX10_mostExchanges_20 rfl ?_
    exact E_retI dX10_mostExchanges_24 rfl hP
theorem dX10_isRedundant_0 : decode prog_1_method_28_code 0 = .ok (.aload_n 0, 1) := by decide +kernel
theorem dX10_isRedundant_1 : decode prog_1_method_28_code 1 = .ok (.iload_n 1, 1) := by decide +kernel
theorem dX10_isRedundant_2 : decode prog_1_method_28_code 2 = .ok (.iload_n 2, 1) := by decide +kernel
theorem dX10_isRedundant_3 : decode prog_1_method_28_code 3 = .ok (.invokevirtual 111, 3) := by decide +kernel
theorem dX10_isRedundant_6 : decode prog_1_method_28_code 6 = .ok (.ifCond .ne 5, 3) := by decide +kernel
theorem dX10_isRedundant_9 : decode prog_1_method_28_code 9 = .ok (.iconst (-1), 1) := by decide +kernel
theorem dX10_isRedundant_10 : decode prog_1_method_28_code 10 = .ok (.ireturn, 1) := by decide +kernel
theorem dX10_isRedundant_11 : decode prog_1_method_28_code 11 = .ok (.aload_n 0, 1) := by decide +kernel
theorem dX10_isRedundant_12 : decode prog_1_method_28_code 12 = .ok (.getfield 11, 3) := by decide +kernel
theorem dX10_isRedundant_15 : decode prog_1_method_28_code 15 = .ok (.iload_n 1, 1) := by decide +kernel
theorem dX10_isRedundant_16 : decode prog_1_method_28_code 16 = .ok (.aaload, 1) := by decide +kernel
theorem dX10_isRedundant_17 : decode prog_1_method_28_code 17 = .ok (.astore_n 3, 1) := by decide +kernel
theorem dX10_isRedundant_18 : decode prog_1_method_28_code 18 = .ok (.aload_n 0, 1) := by decide +kernel
theorem dX10_isRedundant_19 : decode prog_1_method_28_code 19 = .ok (.getfield 55, 3) := by decide +kernel
theorem dX10_isRedundant_22 : decode prog_1_method_28_code 22 = .ok (.aload_n 3, 1) := by decide +kernel
theorem dX10_isRedundant_23 : decode prog_1_method_28_code 23 = .ok (.getfield 108, 3) := by decide +kernel
theorem dX10_isRedundant_26 : decode prog_1_method_28_code 26 = .ok (.invokevirtual 212, 3) := by decide +kernel
theorem dX10_isRedundant_29 : decode prog_1_method_28_code 29 = .ok (.iconst 0, 1) := by decide +kernel
theorem dX10_isRedundant_30 : decode prog_1_method_28_code 30 = .ok (.istore 4, 2) := by decide +kernel
theorem dX10_isRedundant_32 : decode prog_1_method_28_code 32 = .ok (.iload 4, 2) := by decide +kernel
theorem dX10_isRedundant_34 : decode prog_1_method_28_code 34 = .ok (.iload_n 2, 1) := by decide +kernel
theorem dX10_isRedundant_35 : decode prog_1_method_28_code 35 = .ok (.if_icmp .ge 30, 3) := by decide +kernel
theorem dX10_isRedundant_38 : decode prog_1_method_28_code 38 = .ok (.aload_n 0, 1) := by decide +kernel
theorem dX10_isRedundant_39 : decode prog_1_method_28_code 39 = .ok (.getfield 55, 3) := by decide +kernel
theorem dX10_isRedundant_42 : decode prog_1_method_28_code 42 = .ok (.aload_n 3, 1) := by decide +kernel
theorem dX10_isRedundant_43 : decode prog_1_method_28_code 43 = .ok (.getfield 215, 3) := by decide +kernel
theorem dX10_isRedundant_46 : decode prog_1_method_28_code 46 = .ok (.iload 4, 2) := by decide +kernel
theorem dX10_isRedundant_48 : decode prog_1_method_28_code 48 = .ok (.iaload, 1) := by decide +kernel
theorem dX10_isRedundant_49 : decode prog_1_method_28_code 49 = .ok (.aload_n 3, 1) := by decide +kernel
theorem dX10_isRedundant_50 : decode prog_1_method_28_code 50 = .ok (.getfield 218, 3) := by decide +kernel
theorem dX10_isRedundant_53 : decode prog_1_method_28_code 53 = .ok (.iload 4, 2) := by decide +kernel
theorem dX10_isRedundant_55 : decode prog_1_method_28_code 55 = .ok (.iaload, 1) := by decide +kernel
theorem dX10_isRedundant_56 : decode prog_1_method_28_code 56 = .ok (.invokevirtual 221, 3) := by decide +kernel
theorem dX10_isRedundant_59 : decode prog_1_method_28_code 59 = .ok (.iinc 4 1, 3) := by decide +kernel
theorem dX10_isRedundant_62 : decode prog_1_method_28_code 62 = .ok (.goto (-30), 3) := by decide +kernel
theorem dX10_isRedundant_65 : decode prog_1_method_28_code 65 = .ok (.aload_n 0, 1) := by decide +kernel
theorem dX10_isRedundant_66 : decode prog_1_method_28_code 66 = .ok (.getfield 55, 3) := by decide +kernel
theorem dX10_isRedundant_69 : decode prog_1_method_28_code 69 = .ok (.aload_n 3, 1) := by decide +kernel
theorem dX10_isRedundant_70 : decode prog_1_method_28_code 70 = .ok (.getfield 215, 3) := by decide +kernel
theorem dX10_isRedundant_73 : decode prog_1_method_28_code 73 = .ok (.iload_n 2, 1) := by decide +kernel
theorem dX10_isRedundant_74 : decode prog_1_method_28_code 74 = .ok (.iaload, 1) := by decide +kernel
theorem dX10_isRedundant_75 : decode prog_1_method_28_code 75 = .ok (.aload_n 3, 1) := by decide +kernel
theorem dX10_isRedundant_76 : decode prog_1_method_28_code 76 = .ok (.getfield 218, 3) := by decide +kernel
theorem dX10_isRedundant_79 : decode prog_1_method_28_code 79 = .ok (.iload_n 2, 1) := by decide +kernel
theorem dX10_isRedundant_80 : decode prog_1_method_28_code 80 = .ok (.iaload, 1) := by decide +kernel
theorem dX10_isRedundant_81 : decode prog_1_method_28_code 81 = .ok (.invokevirtual 225, 3) := by decide +kernel
theorem dX10_isRedundant_84 : decode prog_1_method_28_code 84 = .ok (.ifCond .ne 7, 3) := by decide +kernel
theorem dX10_isRedundant_87 : decode prog_1_method_28_code 87 = .ok (.iconst 1, 1) := by decide +kernel
theorem dX10_isRedundant_88 : decode prog_1_method_28_code 88 = .ok (.goto 4, 3) := by decide +kernel
theorem dX10_isRedundant_91 : decode prog_1_method_28_code 91 = .ok (.iconst 0, 1) := by decide +kernel
theorem dX10_isRedundant_92 : decode prog_1_method_28_code 92 = .ok (.invokestatic 167, 3) := by decide +kernel
theorem dX10_isRedundant_95 : decode prog_1_method_28_code 95 = .ok (.ireturn, 1) := by decide +kernel
theorem sX10_isRedundant_65 {Q : Int → Hp → Prop} {h : Hp} {l2 a3 : Int}
    (hP : (nA a3 ∧ ix l2 40) ∧
    CI 0 mX7_exchanges [vr 83, vi (h (a3 + 1) l2), vi (h (a3 + 2) l2)] h (fun r3 h2 =>
     Q (if r3 = 0 then (1 : Int) else 0) h2)) :
    E 2 mX10_isRedundant 65 [(0, vr 68), (2, vi l2), (3, vr a3)] [] h (qi Q) := by
  obtain ⟨⟨v1_0, v1_1⟩, hP⟩ := hP
  refine E_aload_n 0 0 dX10_isRedundant_65 rfl rfl ?_
  refine E_gR 83 7 dX10_isRedundant_66 FX10_55 ic_68 (by decide) ?_
  refine E_aload_n 2 3 dX10_isRedundant_69 rfl rfl ?_
  refine E_gR (a3 + 1) 2 dX10_isRedundant_70 FX10_215 (icN0 v1_0) (rfN2 v1_0) ?_
  refine E_iload_n 1 2 dX10_isRedundant_73 rfl rfl ?_
  refine E_iaload dX10_isRedundant_74 (icN1 v1_0) v1_1.1 v1_1.2 ?_
  refine E_aload_n 2 3 dX10_isRedundant_75 rfl rfl ?_
  refine E_gR (a3 + 2) 3 dX10_isRedundant_76 FX10_218 (icN0 v1_0) (rfN3 v1_0) ?_
  refine E_iload_n 1 2 dX10_isRedundant_79 rfl rfl ?_
  refine E_iaload dX10_isRedundant_80 (icN2 v1_0) v1_1.1 v1_1.2 ?_
  refine E_invVI [vi (h (a3 + 1) l2), vi (h (a3 + 2) l2)] dX10_isRedundant_81 fX7_exchanges lX10_225 ic_83 rfl (by decide) rfl rfl (Nat.le_of_ble_eq_true rfl) (CI_mono hP (fun r3 h2 hP => ?_))
  have hJ : E 2 mX10_isRedundant 92 [(0, vr 68), (2, vi l2), (3, vr a3)] [vi (if r3 = 0 then (1 : Int) else 0)] h2 (qi Q) := by
    refine E_invSI [vi (if r3 = 0 then (1 : Int) else 0)] dX10_isRedundant_92 fX10_oneIf lX10_167 (by decide) rfl rfl (Nat.le_of_ble_eq_true rfl) (sX10_oneIf (h := h2) (l0 := (if r3 = 0 then (1 : Int) else 0)) ?_)
    refine E_top (y := (if r3 = 0 then (1 : Int) else 0)) (ite_if (fun hb => by first | (have := ite1' hb; omega) | (have := ite0 hb; omega)) (fun hb => by first | (rw [if_pos (by omega)]; decide) | (rw [if_neg (by omega)]))) ?_
    exact E_retI dX10_isRedundant_95 rfl hP
  refine E_if_ne 91 dX10_isRedundant_84 rfl (fun hc => ?_) (fun hc => ?_)
  · have hp84 := (hc : r3 ≠ 0)
    refine E_iconst dX10_isRedundant_91 (rg_of rfl) ?_
    exact E_top (if_neg (by omega)).symm hJ
  · have hp84 := (by omega : r3 = 0)
    refine E_iconst dX10_isRedundant_87 (rg_of rfl) ?_
    refine E_goto 92 dX10_isRedundant_88 rfl ?_
    exact E_top (if_pos (by omega)).symm hJ
theorem sX10_isRedundant_32 {Q : Int → Hp → Prop} {h : Hp} {l2 a3 l4 : Int}
    (hP : ((l4 ≥ l2) →
     E 2 mX10_isRedundant 65 [(0, vr 68), (2, vi l2), (3, vr a3)] [] h (qi Q)) ∧
    ((l4 < l2) →
     (nA a3 ∧ ix l4 40) ∧
     CV 0 mX7_pass [vr 83, vi (h (a3 + 1) l4), vi (h (a3 + 2) l4)] h (fun h4 =>
      (rj (l4 + 1)) ∧
      E 2 mX10_isRedundant 32 [(0, vr 68), (2, vi l2), (3, vr a3), (4, vi (l4 + 1))] [] h4 (qi Q)))) :
    E 2 mX10_isRedundant 32 [(0, vr 68), (2, vi l2), (3, vr a3), (4, vi l4)] [] h (qi Q) := by
  refine E_iload 3 dX10_isRedundant_32 rfl ?_
  refine E_iload_n 1 2 dX10_isRedundant_34 rfl rfl ?_
  refine E_icmp_ge 65 dX10_isRedundant_35 rfl (fun hc => ?_) (fun hc => ?_)
  · replace hP := hP.1 (hc)
    exact E_sub [0, 1, 2] rfl hP
  · replace hP := hP.2 (by omega)
    obtain ⟨⟨v3_0, v3_1⟩, hP⟩ := hP
    refine E_aload_n 0 0 dX10_isRedundant_38 rfl rfl ?_
    refine E_gR 83 7 dX10_isRedundant_39 FX10_55 ic_68 (by decide) ?_
    refine E_aload_n 2 3 dX10_isRedundant_42 rfl rfl ?_
    refine E_gR (a3 + 1) 2 dX10_isRedundant_43 FX10_215 (icN0 v3_0) (rfN2 v3_0) ?_
    refine E_iload 3 dX10_isRedundant_46 rfl ?_
    refine E_iaload dX10_isRedundant_48 (icN1 v3_0) v3_1.1 v3_1.2 ?_
    refine E_aload_n 2 3 dX10_isRedundant_49 rfl rfl ?_
    refine E_gR (a3 + 2) 3 dX10_isRedundant_50 FX10_218 (icN0 v3_0) (rfN3 v3_0) ?_
    refine E_iload 3 dX10_isRedundant_53 rfl ?_
    refine E_iaload dX10_isRedundant_55 (icN2 v3_0) v3_1.1 v3_1.2 ?_
    refine E_invVV [vi (h (a3 + 1) l4), vi (h (a3 + 2) l4)] dX10_isRedundant_56 fX7_pass lX10_221 ic_83 rfl (by decide) rfl rfl (Nat.le_of_ble_eq_true rfl) (CV_mono hP (fun h4 hP => ?_))
    obtain ⟨v5_0, hP⟩ := hP
    refine E_iinc 3 dX10_isRedundant_59 rfl (rgI v5_0) (by decide) rfl ?_
    refine E_goto 32 dX10_isRedundant_62 rfl ?_
    exact E_sub [1, 2, 3, 0] rfl hP
theorem sX10_isRedundant {Q : Int → Hp → Prop} {h : Hp} {l1 l2 : Int}
    (hP : (((l1 ≥ 0 ∧ l1 < 4) → (ix l1 4)) ∧ ((l1 ≥ 0 ∧ l1 < 4) → (nA (4 * l1))) ∧ ((l1 ≥ 0 ∧ l1 < 4) → ((l2 ≥ 0) → (nA (4 * l1))))) ∧
    (((l1 ≥ 0 ∧ l1 < 4) ∧ (l2 ≥ 0 ∧ l2 < (h (4 * l1) 1))) →
     (ix l1 4 ∧ nA (4 * l1)) ∧
     CV 1 mX7_start [vr 83, vi (h (4 * l1) 0)] h (fun h3 =>
      E 2 mX10_isRedundant 32 [(0, vr 68), (2, vi l2), (3, vr (4 * l1)), (4, vi 0)] [] h3 (qi Q))) ∧
    (((l1 < 0 ∨ l1 ≥ 4) ∨ (l2 < 0 ∨ l2 ≥ (h (4 * l1) 1))) →
     Q (-1) h)) :
    CI 2 mX10_isRedundant [vr 68, vi l1, vi l2] h Q := by
  refine CI_of_E fX10_isRedundant.1 rfl (Nat.le_of_ble_eq_true rfl) ?_
  show E 2 mX10_isRedundant 0 [(0, vr 68), (1, vi l1), (2, vi l2)] [] h (qi Q)
  obtain ⟨⟨v1_0, v1_1, v1_2⟩, hP⟩ := hP
  refine E_aload_n 0 0 dX10_isRedundant_0 rfl rfl ?_
  refine E_iload_n 1 1 dX10_isRedundant_1 rfl rfl ?_
  refine E_iload_n 2 2 dX10_isRedundant_2 rfl rfl ?_
  refine E_invVI [vi l1, vi l2] dX10_isRedundant_3 fX10_isPosition lX10_111 ic_68 rfl (by decide) rfl rfl (Nat.le_of_ble_eq_true rfl) (sX10_isPosition (h := h) (l1 := l1) (l2 := l2) ⟨⟨v1_0, v1_1, v1_2⟩, ?_⟩)
  refine E_if_ne 11 dX10_isRedundant_6 rfl (fun hc => ?_) (fun hc => ?_)
  · replace hP := hP.1 (by have := ite1' hc; omega)
    obtain ⟨⟨v2_0, v2_1⟩, hP⟩ := hP
    refine E_aload_n 0 0 dX10_isRedundant_11 rfl rfl ?_
    refine E_gR 69 0 dX10_isRedundant_12 FX10_11 ic_68 (by decide) ?_
    refine E_iload_n 1 1 dX10_isRedundant_15 rfl rfl ?_
    refine E_aaloadN dX10_isRedundant_16 ic_69 v2_0.1 v2_0.2 (rf_nets ⟨v2_0.1, v2_0.2⟩) ?_
    refine E_astore_n dX10_isRedundant_17 rfl (by decide) rfl ?_
    refine E_aload_n 1 0 dX10_isRedundant_18 rfl rfl ?_
    refine E_gR 83 7 dX10_isRedundant_19 FX10_55 ic_68 (by decide) ?_
    refine E_aload_n 0 3 dX10_isRedundant_22 rfl rfl ?_
    refine E_gI 0 0 dX10_isRedundant_23 FX10_108 (icN0 v2_1) rfl ?_
    refine E_invVV [vi (h (4 * l1) 0)] dX10_isRedundant_26 fX7_start lX10_212 ic_83 rfl (by decide) rfl rfl (Nat.le_of_ble_eq_true rfl) (CV_mono hP (fun h3 hP => ?_))
    refine E_iconst dX10_isRedundant_29 (rg_of rfl) ?_
    refine E_istore dX10_isRedundant_30 (by decide) rfl ?_
    exact E_sub [2, 4, 1, 0] rfl hP
  · replace hP := hP.2 (by have := ite0 hc; omega)
    refine E_iconst dX10_isRedundant_9 (rg_of rfl) ?_
    exact E_retI dX10_isRedundant_10 rfl hP
theorem dX10_prune_0 : decode prog_1_method_29_code 0 = .ok (.iload_n 1, 1) := by decide +kernel
theorem dX10_prune_1 : decode prog_1_method_29_code 1 = .ok (.invokestatic 90, 3) := by decide +kernel
theorem dX10_prune_4 : decode prog_1_method_29_code 4 = .ok (.ifCond .ne 5, 3) := by decide +kernel
theorem dX10_prune_7 : decode prog_1_method_29_code 7 = .ok (.iconst (-1), 1) := by decide +kernel
theorem dX10_prune_8 : decode prog_1_method_29_code 8 = .ok (.ireturn, 1) := by decide +kernel
theorem dX10_prune_9 : decode prog_1_method_29_code 9 = .ok (.aload_n 0, 1) := by decide +kernel
theorem dX10_prune_10 : decode prog_1_method_29_code 10 = .ok (.getfield 11, 3) := by decide +kernel
theorem dX10_prune_13 : decode prog_1_method_29_code 13 = .ok (.iload_n 1, 1) := by decide +kernel
theorem dX10_prune_14 : decode prog_1_method_29_code 14 = .ok (.aaload, 1) := by decide +kernel
theorem dX10_prune_15 : decode prog_1_method_29_code 15 = .ok (.astore_n 2, 1) := by decide +kernel
theorem dX10_prune_16 : decode prog_1_method_29_code 16 = .ok (.aload_n 2, 1) := by decide +kernel
theorem dX10_prune_17 : decode prog_1_method_29_code 17 = .ok (.getfield 101, 3) := by decide +kernel
theorem dX10_prune_20 : decode prog_1_method_29_code 20 = .ok (.istore_n 3, 1) := by decide +kernel
theorem dX10_prune_21 : decode prog_1_method_29_code 21 = .ok (.aload_n 0, 1) := by decide +kernel
theorem dX10_prune_22 : decode prog_1_method_29_code 22 = .ok (.getfield 16, 3) := by decide +kernel
theorem dX10_prune_25 : decode prog_1_method_29_code 25 = .ok (.aload_n 2, 1) := by decide +kernel
theorem dX10_prune_26 : decode prog_1_method_29_code 26 = .ok (.getfield 108, 3) := by decide +kernel
theorem dX10_prune_29 : decode prog_1_method_29_code 29 = .ok (.invokevirtual 105, 3) := by decide +kernel
theorem dX10_prune_32 : decode prog_1_method_29_code 32 = .ok (.aload_n 0, 1) := by decide +kernel
theorem dX10_prune_33 : decode prog_1_method_29_code 33 = .ok (.getfield 55, 3) := by decide +kernel
theorem dX10_prune_36 : decode prog_1_method_29_code 36 = .ok (.aload_n 2, 1) := by decide +kernel
theorem dX10_prune_37 : decode prog_1_method_29_code 37 = .ok (.getfield 108, 3) := by decide +kernel
theorem dX10_prune_40 : decode prog_1_method_29_code 40 = .ok (.invokevirtual 212, 3) := by decide +kernel
theorem dX10_prune_43 : decode prog_1_method_29_code 43 = .ok (.iconst 0, 1) := by decide +kernel
theorem dX10_prune_44 : decode prog_1_method_29_code 44 = .ok (.istore 4, 2) := by decide +kernel
theorem dX10_prune_46 : decode prog_1_method_29_code 46 = .ok (.iload 4, 2) := by decide +kernel
theorem dX10_prune_48 : decode prog_1_method_29_code 48 = .ok (.iload_n 3, 1) := by decide +kernel
theorem dX10_prune_49 : decode prog_1_method_29_code 49 = .ok (.if_icmp .ge 75, 3) := by decide +kernel
theorem dX10_prune_52 : decode prog_1_method_29_code 52 = .ok (.aload_n 0, 1) := by decide +kernel
theorem dX10_prune_53 : decode prog_1_method_29_code 53 = .ok (.getfield 55, 3) := by decide +kernel
theorem dX10_prune_56 : decode prog_1_method_29_code 56 = .ok (.aload_n 2, 1) := by decide +kernel
theorem dX10_prune_57 : decode prog_1_method_29_code 57 = .ok (.getfield 215, 3) := by decide +kernel
theorem dX10_prune_60 : decode prog_1_method_29_code 60 = .ok (.iload 4, 2) := by decide +kernel
theorem dX10_prune_62 : decode prog_1_method_29_code 62 = .ok (.iaload, 1) := by decide +kernel
theorem dX10_prune_63 : decode prog_1_method_29_code 63 = .ok (.aload_n 2, 1) := by decide +kernel
theorem dX10_prune_64 : decode prog_1_method_29_code 64 = .ok (.getfield 218, 3) := by decide +kernel
theorem dX10_prune_67 : decode prog_1_method_29_code 67 = .ok (.iload 4, 2) := by decide +kernel
theorem dX10_prune_69 : decode prog_1_method_29_code 69 = .ok (.iaload, 1) := by decide +kernel
theorem dX10_prune_70 : decode prog_1_method_29_code 70 = .ok (.invokevirtual 225, 3) := by decide +kernel
theorem dX10_prune_73 : decode prog_1_method_29_code 73 = .ok (.ifCond .eq 45, 3) := by decide +kernel
theorem dX10_prune_76 : decode prog_1_method_29_code 76 = .ok (.aload_n 0, 1) := by decide +kernel
theorem dX10_prune_77 : decode prog_1_method_29_code 77 = .ok (.getfield 16, 3) := by decide +kernel
theorem dX10_prune_80 : decode prog_1_method_29_code 80 = .ok (.aload_n 2, 1) := by decide +kernel
theorem dX10_prune_81 : decode prog_1_method_29_code 81 = .ok (.getfield 215, 3) := by decide +kernel
theorem dX10_prune_84 : decode prog_1_method_29_code 84 = .ok (.iload 4, 2) := by decide +kernel
theorem dX10_prune_86 : decode prog_1_method_29_code 86 = .ok (.iaload, 1) := by decide +kernel
theorem dX10_prune_87 : decode prog_1_method_29_code 87 = .ok (.aload_n 2, 1) := by decide +kernel
theorem dX10_prune_88 : decode prog_1_method_29_code 88 = .ok (.getfield 218, 3) := by decide +kernel
theorem dX10_prune_91 : decode prog_1_method_29_code 91 = .ok (.iload 4, 2) := by decide +kernel
theorem dX10_prune_93 : decode prog_1_method_29_code 93 = .ok (.iaload, 1) := by decide +kernel
theorem dX10_prune_94 : decode prog_1_method_29_code 94 = .ok (.invokevirtual 228, 3) := by decide +kernel
theorem dX10_prune_97 : decode prog_1_method_29_code 97 = .ok (.aload_n 0, 1) := by decide +kernel
theorem dX10_prune_98 : decode prog_1_method_29_code 98 = .ok (.getfield 55, 3) := by decide +kernel
theorem dX10_prune_101 : decode prog_1_method_29_code 101 = .ok (.aload_n 2, 1) := by decide +kernel
theorem dX10_prune_102 : decode prog_1_method_29_code 102 = .ok (.getfield 215, 3) := by decide +kernel
theorem dX10_prune_105 : decode prog_1_method_29_code 105 = .ok (.iload 4, 2) := by decide +kernel
theorem dX10_prune_107 : decode prog_1_method_29_code 107 = .ok (.iaload, 1) := by decide +kernel
theorem dX10_prune_108 : decode prog_1_method_29_code 108 = .ok (.aload_n 2, 1) := by decide +kernel
theorem dX10_prune_109 : decode prog_1_method_29_code 109 = .ok (.getfield 218, 3) := by decide +kernel
theorem dX10_prune_112 : decode prog_1_method_29_code 112 = .ok (.iload 4, 2) := by decide +kernel
theorem dX10_prune_114 : decode prog_1_method_29_code 114 = .ok (.iaload, 1) := by decide +kernel
theorem dX10_prune_115 : decode prog_1_method_29_code 115 = .ok (.invokevirtual 221, 3) := by decide +kernel
theorem dX10_prune_118 : decode prog_1_method_29_code 118 = .ok (.iinc 4 1, 3) := by decide +kernel
theorem dX10_prune_121 : decode prog_1_method_29_code 121 = .ok (.goto (-75), 3) := by decide +kernel
theorem dX10_prune_124 : decode prog_1_method_29_code 124 = .ok (.iload_n 3, 1) := by decide +kernel
theorem dX10_prune_125 : decode prog_1_method_29_code 125 = .ok (.aload_n 0, 1) := by decide +kernel
theorem dX10_prune_126 : decode prog_1_method_29_code 126 = .ok (.iload_n 1, 1) := by decide +kernel
theorem dX10_prune_127 : decode prog_1_method_29_code 127 = .ok (.invokevirtual 143, 3) := by decide +kernel
theorem dX10_prune_130 : decode prog_1_method_29_code 130 = .ok (.isub, 1) := by decide +kernel
theorem dX10_prune_131 : decode prog_1_method_29_code 131 = .ok (.ireturn, 1) := by decide +kernel
theorem sX10_prune_46 {Q : Int → Hp → Prop} {h : Hp} {l1 a2 l3 l4 : Int}
    (hP : ((l4 ≥ l3) →
     CI 6 mX10_replaceBySpare [vr 68, vi l1] h (fun r4 h3 =>
      (rj (l3 - r4)) ∧
      Q (l3 - r4) h3)) ∧
    ((l4 < l3) →
     (nA a2 ∧ ix l4 40) ∧
     CI 0 mX7_exchanges [vr 83, vi (h (a2 + 1) l4), vi (h (a2 + 2) l4)] h (fun r8 h7 =>
      ((r8 = 0) →
       (rj (l4 + 1)) ∧
       E 7 mX10_prune 46 [(0, vr 68), (1, vi l1), (2, vr a2), (3, vi l3), (4, vi (l4 + 1))] [] h7 (qi Q)) ∧
      ((r8 ≠ 0) →
       (nA a2 ∧ ix l4 40) ∧
       CV 2 mX3_push [vr 16, vi (h7 (a2 + 1) l4), vi (h7 (a2 + 2) l4)] h7 (fun h12 =>
        (nA a2 ∧ ix l4 40) ∧
        CV 0 mX7_pass [vr 83, vi (h12 (a2 + 1) l4), vi (h12 (a2 + 2) l4)] h12 (fun h14 =>
         (rj (l4 + 1)) ∧
         E 7 mX10_prune 46 [(0, vr 68), (1, vi l1), (2, vr a2), (3, vi l3), (4, vi (l4 + 1))] [] h14 (qi Q))))))) :
    E 7 mX10_prune 46 [(0, vr 68), (1, vi l1), (2, vr a2), (3, vi l3), (4, vi l4)] [] h (qi Q) := by
  refine E_iload 4 dX10_prune_46 rfl ?_
  refine E_iload_n 3 3 dX10_prune_48 rfl rfl ?_
  refine E_icmp_ge 124 dX10_prune_49 rfl (fun hc => ?_) (fun hc => ?_)
  · replace hP := hP.1 (hc)
    refine E_iload_n 3 3 dX10_prune_124 rfl rfl ?_
    refine E_aload_n 0 0 dX10_prune_125 rfl rfl ?_
    refine E_iload_n 1 1 dX10_prune_126 rfl rfl ?_
    refine E_invVI [vi l1] dX10_prune_127 fX10_replaceBySpare lX10_143 ic_68 rfl (by decide) rfl rfl (Nat.le_of_ble_eq_true rfl) (CI_mono hP (fun r4 h3 hP => ?_))
    obtain ⟨v5_0, hP⟩ := hP
    refine E_isub dX10_prune_130 (rgI v5_0) ?_
    exact E_retI dX10_prune_131 rfl hP
  · replace hP := hP.2 (by omega)
    obtain ⟨⟨v6_0, v6_1⟩, hP⟩ := hP
    refine E_aload_n 0 0 dX10_prune_52 rfl rfl ?_
    refine E_gR 83 7 dX10_prune_53 FX10_55 ic_68 (by decide) ?_
    refine E_aload_n 2 2 dX10_prune_56 rfl rfl ?_
    refine E_gR (a2 + 1) 2 dX10_prune_57 FX10_215 (icN0 v6_0) (rfN2 v6_0) ?_
    refine E_iload 4 dX10_prune_60 rfl ?_
    refine E_iaload dX10_prune_62 (icN1 v6_0) v6_1.1 v6_1.2 ?_
    refine E_aload_n 2 2 dX10_prune_63 rfl rfl ?_
    refine E_gR (a2 + 2) 3 dX10_prune_64 FX10_218 (icN0 v6_0) (rfN3 v6_0) ?_
    refine E_iload 4 dX10_prune_67 rfl ?_
    refine E_iaload dX10_prune_69 (icN2 v6_0) v6_1.1 v6_1.2 ?_
    refine E_invVI [vi (h (a2 + 1) l4), vi (h (a2 + 2) l4)] dX10_prune_70 fX7_exchanges lX10_225 ic_83 rfl (by decide) rfl rfl (Nat.le_of_ble_eq_true rfl) (CI_mono hP (fun r8 h7 hP => ?_))
    refine E_if_eq 118 dX10_prune_73 rfl (fun hc => ?_) (fun hc => ?_)
    · replace hP := hP.1 (hc)
      obtain ⟨v10_0, hP⟩ := hP
      refine E_iinc 4 dX10_prune_118 rfl (rgI v10_0) (by decide) rfl ?_
      refine E_goto 46 dX10_prune_121 rfl ?_
      exact E_sub [1, 2, 3, 4, 0] rfl hP
    · replace hP := hP.2 (by omega)
      obtain ⟨⟨v11_0, v11_1⟩, hP⟩ := hP
      refine E_aload_n 0 0 dX10_prune_76 rfl rfl ?_
      refine E_gR 16 1 dX10_prune_77 FX10_16 ic_68 (by decide) ?_
      refine E_aload_n 2 2 dX10_prune_80 rfl rfl ?_
      refine E_gR (a2 + 1) 2 dX10_prune_81 FX10_215 (icN0 v11_0) (rfN2 v11_0) ?_
      refine E_iload 4 dX10_prune_84 rfl ?_
      refine E_iaload dX10_prune_86 (icN1 v11_0) v11_1.1 v11_1.2 ?_
      refine E_aload_n 2 2 dX10_prune_87 rfl rfl ?_
      refine E_gR (a2 + 2) 3 dX10_prune_88 FX10_218 (icN0 v11_0) (rfN3 v11_0) ?_
      refine E_iload 4 dX10_prune_91 rfl ?_
      refine E_iaload dX10_prune_93 (icN2 v11_0) v11_1.1 v11_1.2 ?_
      refine E_invVV [vi (h7 (a2 + 1) l4), vi (h7 (a2 + 2) l4)] dX10_prune_94 fX3_push lX10_228 ic_16 rfl (by decide) rfl rfl (Nat.le_of_ble_eq_true rfl) (CV_mono hP (fun h12 hP => ?_))
      obtain ⟨⟨v13_0, v13_1⟩, hP⟩ := hP
      refine E_aload_n 0 0 dX10_prune_97 rfl rfl ?_
      refine E_gR 83 7 dX10_prune_98 FX10_55 ic_68 (by decide) ?_
      refine E_aload_n 2 2 dX10_prune_101 rfl rfl ?_
      refine E_gR (a2 + 1) 2 dX10_prune_102 FX10_215 (icN0 v13_0) (rfN2 v13_0) ?_
      refine E_iload 4 dX10_prune_105 rfl ?_
      refine E_iaload dX10_prune_107 (icN1 v13_0) v13_1.1 v13_1.2 ?_
      refine E_aload_n 2 2 dX10_prune_108 rfl rfl ?_
      refine E_gR (a2 + 2) 3 dX10_prune_109 FX10_218 (icN0 v13_0) (rfN3 v13_0) ?_
      refine E_iload 4 dX10_prune_112 rfl ?_
      refine E_iaload dX10_prune_114 (icN2 v13_0) v13_1.1 v13_1.2 ?_
      refine E_invVV [vi (h12 (a2 + 1) l4), vi (h12 (a2 + 2) l4)] dX10_prune_115 fX7_pass lX10_221 ic_83 rfl (by decide) rfl rfl (Nat.le_of_ble_eq_true rfl) (CV_mono hP (fun h14 hP => ?_))
      obtain ⟨v15_0, hP⟩ := hP
      refine E_iinc 4 dX10_prune_118 rfl (rgI v15_0) (by decide) rfl ?_
      refine E_goto 46 dX10_prune_121 rfl ?_
      exact E_sub [1, 2, 3, 4, 0] rfl hP
theorem sX10_prune {Q : Int → Hp → Prop} {h : Hp} {l1 : Int}
    (hP : ((l1 ≥ 0 ∧ l1 < 4) →
     (ix l1 4 ∧ nA (4 * l1) ∧ nA 16) ∧
     CV 1 mX7_start [vr 83, vi ((up (up h 16 0 (h (4 * l1) 0)) 16 1 0) (4 * l1) 0)] (up (up h 16 0 (h (4 * l1) 0)) 16 1 0) (fun h3 =>
      E 7 mX10_prune 46 [(0, vr 68), (1, vi l1), (2, vr (4 * l1)), (3, vi (h (4 * l1) 1)), (4, vi 0)] [] h3 (qi Q))) ∧
    ((l1 < 0 ∨ l1 ≥ 4) →
     Q (-1) h)) :
    CI 7 mX10_prune [vr 68, vi l1] h Q := by
  refine CI_of_E fX10_prune.1 rfl (Nat.le_of_ble_eq_true rfl) ?_
  show E 7 mX10_prune 0 [(0, vr 68), (1, vi l1)] [] h (qi Q)
  refine E_iload_n 1 1 dX10_prune_0 rfl rfl ?_
  refine E_invSI [vi l1] dX10_prune_1 fX10_isNetwork lX10_90 (by decide) rfl rfl (Nat.le_of_ble_eq_true rfl) (sX10_isNetwork (h := h) (l0 := l1) ?_)
  refine E_if_ne 9 dX10_prune_4 rfl (fun hc => ?_) (fun hc => ?_)
  · replace hP := hP.1 (by have := ite1' hc; omega)
    obtain ⟨⟨v2_0, v2_1, v2_2⟩, hP⟩ := hP
    refine E_aload_n 0 0 dX10_prune_9 rfl rfl ?_
    refine E_gR 69 0 dX10_prune_10 FX10_11 ic_68 (by decide) ?_
    refine E_iload_n 1 1 dX10_prune_13 rfl rfl ?_
    refine E_aaloadN dX10_prune_14 ic_69 v2_0.1 v2_0.2 (rf_nets ⟨v2_0.1, v2_0.2⟩) ?_
    refine E_astore_n dX10_prune_15 rfl (by decide) rfl ?_
    refine E_aload_n 0 2 dX10_prune_16 rfl rfl ?_
    refine E_gI 1 1 dX10_prune_17 FX10_101 (icN0 v2_1) rfl ?_
    refine E_istore_n dX10_prune_20 rfl (by decide) rfl ?_
    refine E_aload_n 2 0 dX10_prune_21 rfl rfl ?_
    refine E_gR 16 1 dX10_prune_22 FX10_16 ic_68 (by decide) ?_
    refine E_aload_n 1 2 dX10_prune_25 rfl rfl ?_
    refine E_gI 0 0 dX10_prune_26 FX10_108 (icN0 v2_1) rfl ?_
    refine E_invVV [vi (h (4 * l1) 0)] dX10_prune_29 fX3_restart lX10_105 ic_16 rfl (by decide) rfl rfl (Nat.le_of_ble_eq_true rfl) (sX3_restart (h := h) (a0 := 16) (l1 := (h (4 * l1) 0)) ⟨v2_2, ?_⟩)
    refine E_aload_n 2 0 dX10_prune_32 rfl rfl ?_
    refine E_gR 83 7 dX10_prune_33 FX10_55 ic_68 (by decide) ?_
    refine E_aload_n 1 2 dX10_prune_36 rfl rfl ?_
    refine E_gI 0 0 dX10_prune_37 FX10_108 (icN0 v2_1) rfl ?_
    refine E_invVV [vi ((up (up h 16 0 (h (4 * l1) 0)) 16 1 0) (4 * l1) 0)] dX10_prune_40 fX7_start lX10_212 ic_83 rfl (by decide) rfl rfl (Nat.le_of_ble_eq_true rfl) (CV_mono hP (fun h3 hP => ?_))
    refine E_iconst dX10_prune_43 (rg_of rfl) ?_
    refine E_istore dX10_prune_44 (by decide) rfl ?_
    exact E_sub [3, 4, 2, 1, 0] rfl hP
  · replace hP := hP.2 (by have := ite0 hc; omega)
    refine E_iconst dX10_prune_7 (rg_of rfl) ?_
    exact E_retI dX10_prune_8 rfl hP
theorem dX10_lastNeedless_0 : decode prog_1_method_61_code 0 = .ok (.aload_n 1, 1) := by decide +kernel
theorem dX10_lastNeedless_1 : decode prog_1_method_61_code 1 = .ok (.getfield 101, 3) := by decide +kernel
theorem dX10_lastNeedless_4 : decode prog_1_method_61_code 4 = .ok (.iconst 1, 1) := by decide +kernel
theorem dX10_lastNeedless_5 : decode prog_1_method_61_code 5 = .ok (.isub, 1) := by decide +kernel
theorem dX10_lastNeedless_6 : decode prog_1_method_61_code 6 = .ok (.istore_n 2, 1) := by decide +kernel
theorem dX10_lastNeedless_7 : decode prog_1_method_61_code 7 = .ok (.iload_n 2, 1) := by decide +kernel
theorem dX10_lastNeedless_8 : decode prog_1_method_61_code 8 = .ok (.ifCond .lt 20, 3) := by decide +kernel
theorem dX10_lastNeedless_11 : decode prog_1_method_61_code 11 = .ok (.aload_n 0, 1) := by decide +kernel
theorem dX10_lastNeedless_12 : decode prog_1_method_61_code 12 = .ok (.aload_n 1, 1) := by decide +kernel
theorem dX10_lastNeedless_13 : decode prog_1_method_61_code 13 = .ok (.iload_n 2, 1) := by decide +kernel
theorem dX10_lastNeedless_14 : decode prog_1_method_61_code 14 = .ok (.invokevirtual 179, 3) := by decide +kernel
theorem dX10_lastNeedless_17 : decode prog_1_method_61_code 17 = .ok (.ifCond .eq 5, 3) := by decide +kernel
theorem dX10_lastNeedless_20 : decode prog_1_method_61_code 20 = .ok (.iload_n 2, 1) := by decide +kernel
theorem dX10_lastNeedless_21 : decode prog_1_method_61_code 21 = .ok (.ireturn, 1) := by decide +kernel
theorem dX10_lastNeedless_22 : decode prog_1_method_61_code 22 = .ok (.iinc 2 (-1), 3) := by decide +kernel
theorem dX10_lastNeedless_25 : decode prog_1_method_61_code 25 = .ok (.goto (-18), 3) := by decide +kernel
theorem dX10_lastNeedless_28 : decode prog_1_method_61_code 28 = .ok (.iconst (-1), 1) := by decide +kernel
theorem dX10_lastNeedless_29 : decode prog_1_method_61_code 29 = .ok (.ireturn, 1) := by decide +kernel
theorem sX10_lastNeedless_7 {Q : Int → Hp → Prop} {h : Hp} {a1 l2 : Int}
    (hP : ((l2 < 0) →
     Q (-1) h) ∧
    ((l2 ≥ 0) →
     CI 3 mX10_sorts [vr 68, vr a1, vi l2] h (fun r5 h4 =>
      ((r5 = 0) →
       (rj (l2 + (-1))) ∧
       E 4 mX10_lastNeedless 7 [(0, vr 68), (1, vr a1), (2, vi (l2 + (-1)))] [] h4 (qi Q)) ∧
      ((r5 ≠ 0) →
       Q l2 h4)))) :
    E 4 mX10_lastNeedless 7 [(0, vr 68), (1, vr a1), (2, vi l2)] [] h (qi Q) := by
  refine E_iload_n 2 2 dX10_lastNeedless_7 rfl rfl ?_
  refine E_if_lt 28 dX10_lastNeedless_8 rfl (fun hc => ?_) (fun hc => ?_)
  · replace hP := hP.1 (hc)
    refine E_iconst dX10_lastNeedless_28 (rg_of rfl) ?_
    exact E_retI dX10_lastNeedless_29 rfl hP
  · replace hP := hP.2 (by omega)
    refine E_aload_n 0 0 dX10_lastNeedless_11 rfl rfl ?_
    refine E_aload_n 1 1 dX10_lastNeedless_12 rfl rfl ?_
    refine E_iload_n 2 2 dX10_lastNeedless_13 rfl rfl ?_
    refine E_invVI [vr a1, vi l2] dX10_lastNeedless_14 fX10_sorts lX10_179 ic_68 rfl (by decide) rfl rfl (Nat.le_of_ble_eq_true rfl) (CI_mono hP (fun r5 h4 hP => ?_))
    refine E_if_eq 22 dX10_lastNeedless_17 rfl (fun hc => ?_) (fun hc => ?_)
    · replace hP := hP.1 (hc)
      obtain ⟨v7_0, hP⟩ := hP
      refine E_iinc 2 dX10_lastNeedless_22 rfl (rgI v7_0) (by decide) rfl ?_
      refine E_goto 7 dX10_lastNeedless_25 rfl ?_
      exact E_sub [1, 2, 0] rfl hP
    · replace hP := hP.2 (by omega)
      refine E_iload_n 2 2 dX10_lastNeedless_20 rfl rfl ?_
      exact E_retI dX10_lastNeedless_21 rfl hP
theorem sX10_lastNeedless {Q : Int → Hp → Prop} {h : Hp} {a1 : Int}
    (hP : (nA a1 ∧ rj ((h a1 1) - 1)) ∧
    E 4 mX10_lastNeedless 7 [(0, vr 68), (1, vr a1), (2, vi ((h a1 1) - 1))] [] h (qi Q)) :
    CI 4 mX10_lastNeedless [vr 68, vr a1] h Q := by
  refine CI_of_E fX10_lastNeedless.1 rfl (Nat.le_of_ble_eq_true rfl) ?_
  show E 4 mX10_lastNeedless 0 [(0, vr 68), (1, vr a1)] [] h (qi Q)
  obtain ⟨⟨v1_0, v1_1⟩, hP⟩ := hP
  refine E_aload_n 1 1 dX10_lastNeedless_0 rfl rfl ?_
  refine E_gI 1 1 dX10_lastNeedless_1 FX10_101 (icN0 v1_0) rfl ?_
  refine E_iconst dX10_lastNeedless_4 (rg_of rfl) ?_
  refine E_isub dX10_lastNeedless_5 (rgI v1_1) ?_
  refine E_istore_n dX10_lastNeedless_6 rfl (by decide) rfl ?_
  exact E_sub [1, 2, 0] rfl hP
theorem dX10_reduce_0 : decode prog_1_method_30_code 0 = .ok (.iload_n 1, 1) := by decide +kernel
theorem dX10_reduce_1 : decode prog_1_method_30_code 1 = .ok (.invokestatic 90, 3) := by decide +kernel
theorem dX10_reduce_4 : decode prog_1_method_30_code 4 = .ok (.ifCond .ne 5, 3) := by decide +kernel
theorem dX10_reduce_7 : decode prog_1_method_30_code 7 = .ok (.iconst (-1), 1) := by decide +kernel
theorem dX10_reduce_8 : decode prog_1_method_30_code 8 = .ok (.ireturn, 1) := by decide +kernel
theorem dX10_reduce_9 : decode prog_1_method_30_code 9 = .ok (.aload_n 0, 1) := by decide +kernel
theorem dX10_reduce_10 : decode prog_1_method_30_code 10 = .ok (.aload_n 0, 1) := by decide +kernel
theorem dX10_reduce_11 : decode prog_1_method_30_code 11 = .ok (.getfield 11, 3) := by decide +kernel
theorem dX10_reduce_14 : decode prog_1_method_30_code 14 = .ok (.iload_n 1, 1) := by decide +kernel
theorem dX10_reduce_15 : decode prog_1_method_30_code 15 = .ok (.aaload, 1) := by decide +kernel
theorem dX10_reduce_16 : decode prog_1_method_30_code 16 = .ok (.iconst (-1), 1) := by decide +kernel
theorem dX10_reduce_17 : decode prog_1_method_30_code 17 = .ok (.invokevirtual 179, 3) := by decide +kernel
theorem dX10_reduce_20 : decode prog_1_method_30_code 20 = .ok (.ifCond .ne 6, 3) := by decide +kernel
theorem dX10_reduce_23 : decode prog_1_method_30_code 23 = .ok (.bipush (-5), 2) := by decide +kernel
theorem dX10_reduce_25 : decode prog_1_method_30_code 25 = .ok (.ireturn, 1) := by decide +kernel
theorem dX10_reduce_26 : decode prog_1_method_30_code 26 = .ok (.aload_n 0, 1) := by decide +kernel
theorem dX10_reduce_27 : decode prog_1_method_30_code 27 = .ok (.getfield 11, 3) := by decide +kernel
theorem dX10_reduce_30 : decode prog_1_method_30_code 30 = .ok (.iload_n 1, 1) := by decide +kernel
theorem dX10_reduce_31 : decode prog_1_method_30_code 31 = .ok (.aaload, 1) := by decide +kernel
theorem dX10_reduce_32 : decode prog_1_method_30_code 32 = .ok (.getfield 101, 3) := by decide +kernel
theorem dX10_reduce_35 : decode prog_1_method_30_code 35 = .ok (.istore_n 2, 1) := by decide +kernel
theorem dX10_reduce_36 : decode prog_1_method_30_code 36 = .ok (.aload_n 0, 1) := by decide +kernel
theorem dX10_reduce_37 : decode prog_1_method_30_code 37 = .ok (.getfield 16, 3) := by decide +kernel
theorem dX10_reduce_40 : decode prog_1_method_30_code 40 = .ok (.aload_n 0, 1) := by decide +kernel
theorem dX10_reduce_41 : decode prog_1_method_30_code 41 = .ok (.getfield 11, 3) := by decide +kernel
theorem dX10_reduce_44 : decode prog_1_method_30_code 44 = .ok (.iload_n 1, 1) := by decide +kernel
theorem dX10_reduce_45 : decode prog_1_method_30_code 45 = .ok (.aaload, 1) := by decide +kernel
theorem dX10_reduce_46 : decode prog_1_method_30_code 46 = .ok (.invokevirtual 231, 3) := by decide +kernel
theorem dX10_reduce_49 : decode prog_1_method_30_code 49 = .ok (.aload_n 0, 1) := by decide +kernel
theorem dX10_reduce_50 : decode prog_1_method_30_code 50 = .ok (.aload_n 0, 1) := by decide +kernel
theorem dX10_reduce_51 : decode prog_1_method_30_code 51 = .ok (.getfield 16, 3) := by decide +kernel
theorem dX10_reduce_54 : decode prog_1_method_30_code 54 = .ok (.invokevirtual 235, 3) := by decide +kernel
theorem dX10_reduce_57 : decode prog_1_method_30_code 57 = .ok (.istore_n 3, 1) := by decide +kernel
theorem dX10_reduce_58 : decode prog_1_method_30_code 58 = .ok (.iconst 0, 1) := by decide +kernel
theorem dX10_reduce_59 : decode prog_1_method_30_code 59 = .ok (.istore 4, 2) := by decide +kernel
theorem dX10_reduce_61 : decode prog_1_method_30_code 61 = .ok (.iload 4, 2) := by decide +kernel
theorem dX10_reduce_63 : decode prog_1_method_30_code 63 = .ok (.bipush 40, 2) := by decide +kernel
theorem dX10_reduce_65 : decode prog_1_method_30_code 65 = .ok (.if_icmp .ge 31, 3) := by decide +kernel
theorem dX10_reduce_68 : decode prog_1_method_30_code 68 = .ok (.iload_n 3, 1) := by decide +kernel
theorem dX10_reduce_69 : decode prog_1_method_30_code 69 = .ok (.iconst (-1), 1) := by decide +kernel
theorem dX10_reduce_70 : decode prog_1_method_30_code 70 = .ok (.if_icmp .eq 26, 3) := by decide +kernel
theorem dX10_reduce_73 : decode prog_1_method_30_code 73 = .ok (.aload_n 0, 1) := by decide +kernel
theorem dX10_reduce_74 : decode prog_1_method_30_code 74 = .ok (.getfield 16, 3) := by decide +kernel
theorem dX10_reduce_77 : decode prog_1_method_30_code 77 = .ok (.iload_n 3, 1) := by decide +kernel
theorem dX10_reduce_78 : decode prog_1_method_30_code 78 = .ok (.invokevirtual 123, 3) := by decide +kernel
theorem dX10_reduce_81 : decode prog_1_method_30_code 81 = .ok (.aload_n 0, 1) := by decide +kernel
theorem dX10_reduce_82 : decode prog_1_method_30_code 82 = .ok (.aload_n 0, 1) := by decide +kernel
theorem dX10_reduce_83 : decode prog_1_method_30_code 83 = .ok (.getfield 16, 3) := by decide +kernel
theorem dX10_reduce_86 : decode prog_1_method_30_code 86 = .ok (.invokevirtual 235, 3) := by decide +kernel
theorem dX10_reduce_89 : decode prog_1_method_30_code 89 = .ok (.istore_n 3, 1) := by decide +kernel
theorem dX10_reduce_90 : decode prog_1_method_30_code 90 = .ok (.iinc 4 1, 3) := by decide +kernel
theorem dX10_reduce_93 : decode prog_1_method_30_code 93 = .ok (.goto (-32), 3) := by decide +kernel
theorem dX10_reduce_96 : decode prog_1_method_30_code 96 = .ok (.iload_n 2, 1) := by decide +kernel
theorem dX10_reduce_97 : decode prog_1_method_30_code 97 = .ok (.aload_n 0, 1) := by decide +kernel
theorem dX10_reduce_98 : decode prog_1_method_30_code 98 = .ok (.iload_n 1, 1) := by decide +kernel
theorem dX10_reduce_99 : decode prog_1_method_30_code 99 = .ok (.invokevirtual 143, 3) := by decide +kernel
theorem dX10_reduce_102 : decode prog_1_method_30_code 102 = .ok (.isub, 1) := by decide +kernel
theorem dX10_reduce_103 : decode prog_1_method_30_code 103 = .ok (.ireturn, 1) := by decide +kernel
theorem sX10_reduce_61 {Q : Int → Hp → Prop} {h : Hp} {l1 l2 l3 l4 : Int}
    (hP : ((l4 ≥ 40) →
     CI 6 mX10_replaceBySpare [vr 68, vi l1] h (fun r4 h3 =>
      (rj (l2 - r4)) ∧
      Q (l2 - r4) h3)) ∧
    ((l4 < 40) →
     ((l3 = (-1)) →
      CI 6 mX10_replaceBySpare [vr 68, vi l1] h (fun r9 h8 =>
       (rj (l2 - r9)) ∧
       Q (l2 - r9) h8)) ∧
     ((l3 ≠ (-1)) →
      CV 1 mX3_drop [vr 16, vi l3] h (fun h12 =>
       CI 4 mX10_lastNeedless [vr 68, vr 16] h12 (fun r15 h14 =>
        (rj (l4 + 1)) ∧
        E 7 mX10_reduce 61 [(0, vr 68), (1, vi l1), (2, vi l2), (3, vi r15), (4, vi (l4 + 1))] [] h14 (qi Q)))))) :
    E 7 mX10_reduce 61 [(0, vr 68), (1, vi l1), (2, vi l2), (3, vi l3), (4, vi l4)] [] h (qi Q) := by
  refine E_iload 4 dX10_reduce_61 rfl ?_
  refine E_bipush dX10_reduce_63 (by decide) ?_
  refine E_icmp_ge 96 dX10_reduce_65 rfl (fun hc => ?_) (fun hc => ?_)
  · replace hP := hP.1 (hc)
    refine E_iload_n 2 2 dX10_reduce_96 rfl rfl ?_
    refine E_aload_n 0 0 dX10_reduce_97 rfl rfl ?_
    refine E_iload_n 1 1 dX10_reduce_98 rfl rfl ?_
    refine E_invVI [vi l1] dX10_reduce_99 fX10_replaceBySpare lX10_143 ic_68 rfl (by decide) rfl rfl (Nat.le_of_ble_eq_true rfl) (CI_mono hP (fun r4 h3 hP => ?_))
    obtain ⟨v5_0, hP⟩ := hP
    refine E_isub dX10_reduce_102 (rgI v5_0) ?_
    exact E_retI dX10_reduce_103 rfl hP
  · replace hP := hP.2 (by omega)
    refine E_iload_n 3 3 dX10_reduce_68 rfl rfl ?_
    refine E_iconst dX10_reduce_69 (rg_of rfl) ?_
    refine E_icmp_eq 96 dX10_reduce_70 rfl (fun hc => ?_) (fun hc => ?_)
    · replace hP := hP.1 (hc)
      refine E_iload_n 2 2 dX10_reduce_96 rfl rfl ?_
      refine E_aload_n 0 0 dX10_reduce_97 rfl rfl ?_
      refine E_iload_n 1 1 dX10_reduce_98 rfl rfl ?_
      refine E_invVI [vi l1] dX10_reduce_99 fX10_replaceBySpare lX10_143 ic_68 rfl (by decide) rfl rfl (Nat.le_of_ble_eq_true rfl) (CI_mono hP (fun r9 h8 hP => ?_))
      obtain ⟨v10_0, hP⟩ := hP
      refine E_isub dX10_reduce_102 (rgI v10_0) ?_
      exact E_retI dX10_reduce_103 rfl hP
    · replace hP := hP.2 (by omega)
      refine E_aload_n 0 0 dX10_reduce_73 rfl rfl ?_
      refine E_gR 16 1 dX10_reduce_74 FX10_16 ic_68 (by decide) ?_
      refine E_iload_n 3 3 dX10_reduce_77 rfl rfl ?_
      refine E_invVV [vi l3] dX10_reduce_78 fX3_drop lX10_123 ic_16 rfl (by decide) rfl rfl (Nat.le_of_ble_eq_true rfl) (CV_mono hP (fun h12 hP => ?_))
      refine E_aload_n 0 0 dX10_reduce_81 rfl rfl ?_
      refine E_aload_n 0 0 dX10_reduce_82 rfl rfl ?_
      refine E_gR 16 1 dX10_reduce_83 FX10_16 ic_68 (by decide) ?_
      refine E_invVI [vr 16] dX10_reduce_86 fX10_lastNeedless lX10_235 ic_68 rfl (by decide) rfl rfl (Nat.le_of_ble_eq_true rfl) (CI_mono hP (fun r15 h14 hP => ?_))
      obtain ⟨v16_0, hP⟩ := hP
      refine E_istore_n dX10_reduce_89 rfl (by decide) rfl ?_
      refine E_iinc 4 dX10_reduce_90 rfl (rgI v16_0) (by decide) rfl ?_
      refine E_goto 61 dX10_reduce_93 rfl ?_
      exact E_sub [2, 3, 4, 1, 0] rfl hP
theorem sX10_reduce {Q : Int → Hp → Prop} {h : Hp} {l1 : Int}
    (hP : ((l1 ≥ 0 ∧ l1 < 4) →
     (ix l1 4) ∧
     CI 3 mX10_sorts [vr 68, vr (4 * l1), vi (-1)] h (fun r4 h3 =>
      ((r4 ≠ 0) →
       (ix l1 4 ∧ nA (4 * l1)) ∧
       CV 3 mX3_takeOver [vr 16, vr (4 * l1)] h3 (fun h7 =>
        CI 4 mX10_lastNeedless [vr 68, vr 16] h7 (fun r10 h9 =>
         E 7 mX10_reduce 61 [(0, vr 68), (1, vi l1), (2, vi (h3 (4 * l1) 1)), (3, vi r10), (4, vi 0)] [] h9 (qi Q)))) ∧
      ((r4 = 0) →
       Q (-5) h3))) ∧
    ((l1 < 0 ∨ l1 ≥ 4) →
     Q (-1) h)) :
    CI 7 mX10_reduce [vr 68, vi l1] h Q := by
  refine CI_of_E fX10_reduce.1 rfl (Nat.le_of_ble_eq_true rfl) ?_
  show E 7 mX10_reduce 0 [(0, vr 68), (1, vi l1)] [] h (qi Q)
  refine E_iload_n 1 1 dX10_reduce_0 rfl rfl ?_
  refine E_invSI [vi l1] dX10_reduce_1 fX10_isNetwork lX10_90 (by decide) rfl rfl (Nat.le_of_ble_eq_true rfl) (sX10_isNetwork (h := h) (l0 := l1) ?_)
  refine E_if_ne 9 dX10_reduce_4 rfl (fun hc => ?_) (fun hc => ?_)
  · replace hP := hP.1 (by have := ite1' hc; omega)
    obtain ⟨v2_0, hP⟩ := hP
    refine E_aload_n 0 0 dX10_reduce_9 rfl rfl ?_
    refine E_aload_n 0 0 dX10_reduce_10 rfl rfl ?_
    refine E_gR 69 0 dX10_reduce_11 FX10_11 ic_68 (by decide) ?_
    refine E_iload_n 1 1 dX10_reduce_14 rfl rfl ?_
    refine E_aaloadN dX10_reduce_15 ic_69 v2_0.1 v2_0.2 (rf_nets ⟨v2_0.1, v2_0.2⟩) ?_
    refine E_iconst dX10_reduce_16 (rg_of rfl) ?_
    refine E_invVI [vr (4 * l1), vi (-1)] dX10_reduce_17 fX10_sorts lX10_179 ic_68 rfl (by decide) rfl rfl (Nat.le_of_ble_eq_true rfl) (CI_mono hP (fun r4 h3 hP => ?_))
    refine E_if_ne 26 dX10_reduce_20 rfl (fun hc => ?_) (fun hc => ?_)
    · replace hP := hP.1 (hc)
      obtain ⟨⟨v6_0, v6_1⟩, hP⟩ := hP
      refine E_aload_n 0 0 dX10_reduce_26 rfl rfl ?_
      refine E_gR 69 0 dX10_reduce_27 FX10_11 ic_68 (by decide) ?_
      refine E_iload_n 1 1 dX10_reduce_30 rfl rfl ?_
      refine E_aaloadN dX10_reduce_31 ic_69 v6_0.1 v6_0.2 (rf_nets ⟨v6_0.1, v6_0.2⟩) ?_
      refine E_gI 1 1 dX10_reduce_32 FX10_101 (icN0 v6_1) rfl ?_
      refine E_istore_n dX10_reduce_35 rfl (by decide) rfl ?_
      refine E_aload_n 1 0 dX10_reduce_36 rfl rfl ?_
      refine E_gR 16 1 dX10_reduce_37 FX10_16 ic_68 (by decide) ?_
      refine E_aload_n 1 0 dX10_reduce_40 rfl rfl ?_
      refine E_gR 69 0 dX10_reduce_41 FX10_11 ic_68 (by decide) ?_
      refine E_iload_n 2 1 dX10_reduce_44 rfl rfl ?_
      refine E_aaloadN dX10_reduce_45 ic_69 v6_0.1 v6_0.2 (rf_nets ⟨v6_0.1, v6_0.2⟩) ?_
      refine E_invVV [vr (4 * l1)] dX10_reduce_46 fX3_takeOver lX10_231 ic_16 rfl (by decide) rfl rfl (Nat.le_of_ble_eq_true rfl) (CV_mono hP (fun h7 hP => ?_))
      refine E_aload_n 1 0 dX10_reduce_49 rfl rfl ?_
      refine E_aload_n 1 0 dX10_reduce_50 rfl rfl ?_
      refine E_gR 16 1 dX10_reduce_51 FX10_16 ic_68 (by decide) ?_
      refine E_invVI [vr 16] dX10_reduce_54 fX10_lastNeedless lX10_235 ic_68 rfl (by decide) rfl rfl (Nat.le_of_ble_eq_true rfl) (CI_mono hP (fun r10 h9 hP => ?_))
      refine E_istore_n dX10_reduce_57 rfl (by decide) rfl ?_
      refine E_iconst dX10_reduce_58 (rg_of rfl) ?_
      refine E_istore dX10_reduce_59 (by decide) rfl ?_
      exact E_sub [3, 4, 2, 1, 0] rfl hP
    · replace hP := hP.2 (by omega)
      refine E_bipush dX10_reduce_23 (by decide) ?_
      exact E_retI dX10_reduce_25 rfl hP
  · replace hP := hP.2 (by have := ite0 hc; omega)
    refine E_iconst dX10_reduce_7 (rg_of rfl) ?_
    exact E_retI dX10_reduce_8 rfl hP
