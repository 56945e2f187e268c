theorem dX11_isIn_0 : decode prog_13_method_2_code 0 = .ok (.iload_n 0, 1) := by decide +kernel
theorem dX11_isIn_1 : decode prog_13_method_2_code 1 = .ok (.iload_n 1, 1) := by decide +kernel
theorem dX11_isIn_2 : decode prog_13_method_2_code 2 = .ok (.if_icmp .lt 12, 3) := by decide +kernel
theorem dX11_isIn_5 : decode prog_13_method_2_code 5 = .ok (.iload_n 0, 1) := by decide +kernel
theorem dX11_isIn_6 : decode prog_13_method_2_code 6 = .ok (.iload_n 2, 1) := by decide +kernel
theorem dX11_isIn_7 : decode prog_13_method_2_code 7 = .ok (.if_icmp .gt 7, 3) := by decide +kernel
theorem dX11_isIn_10 : decode prog_13_method_2_code 10 = .ok (.iconst 1, 1) := by decide +kernel
theorem dX11_isIn_11 : decode prog_13_method_2_code 11 = .ok (.goto 4, 3) := by decide +kernel
theorem dX11_isIn_14 : decode prog_13_method_2_code 14 = .ok (.iconst 0, 1) := by decide +kernel
theorem dX11_isIn_15 : decode prog_13_method_2_code 15 = .ok (.ireturn, 1) := by decide +kernel
theorem sX11_isIn {Q : Int → Hp → Prop} {h : Hp} {l0 l1 l2 : Int}
    (hP : Q (if l0 ≥ l1 ∧ l0 ≤ l2 then (1 : Int) else 0) h) :
    CI 0 mX11_isIn [vi l0, vi l1, vi l2] h Q := by
  refine CI_of_E fX11_isIn.1 rfl (Nat.le_of_ble_eq_true rfl) ?_
  show E 0 mX11_isIn 0 [(0, vi l0), (1, vi l1), (2, vi l2)] [] h (qi Q)
  refine E_iload_n 0 0 dX11_isIn_0 rfl rfl ?_
  refine E_iload_n 1 1 dX11_isIn_1 rfl rfl ?_
  have hJ : E 0 mX11_isIn 15 [(0, vi l0), (1, vi l1), (2, vi l2)] [vi (if l0 ≥ l1 ∧ l0 ≤ l2 then (1 : Int) else 0)] h (qi Q) := by
    exact E_retZ dX11_isIn_15 rfl (b01 _) hP
  refine E_icmp_lt 14 dX11_isIn_2 rfl (fun hc => ?_) (fun hc => ?_)
  · have hp2 := (hc : l0 < l1)
    refine E_iconst dX11_isIn_14 (rg_of rfl) ?_
    exact E_top (if_neg (by omega)).symm hJ
  · have hp2 := (by omega : l0 ≥ l1)
    refine E_iload_n 0 0 dX11_isIn_5 rfl rfl ?_
    refine E_iload_n 2 2 dX11_isIn_6 rfl rfl ?_
    refine E_icmp_gt 14 dX11_isIn_7 rfl (fun hc => ?_) (fun hc => ?_)
    · have hp7 := (hc : l0 > l2)
      refine E_iconst dX11_isIn_14 (rg_of rfl) ?_
      exact E_top (if_neg (by omega)).symm hJ
    · have hp7 := (by omega : l0 ≤ l2)
      refine E_iconst dX11_isIn_10 (rg_of rfl) ?_
      refine E_goto 15 dX11_isIn_11 rfl ?_
      exact E_top (if_pos (by omega)).symm hJ
theorem dX11_isNet_0 : decode prog_13_method_3_code 0 = .ok (.iload_n 0, 1) := by decide +kernel
theorem dX11_isNet_1 : decode prog_13_method_3_code 1 = .ok (.iconst 0, 1) := by decide +kernel
theorem dX11_isNet_2 : decode prog_13_method_3_code 2 = .ok (.iconst 3, 1) := by decide +kernel
theorem dX11_isNet_3 : decode prog_13_method_3_code 3 = .ok (.invokestatic 80, 3) := by decide +kernel
theorem dX11_isNet_6 : decode prog_13_method_3_code 6 = .ok (.ireturn, 1) := by decide +kernel
theorem sX11_isNet {Q : Int → Hp → Prop} {h : Hp} {l0 : Int}
    (hP : Q (if l0 ≥ 0 ∧ l0 ≤ 3 then (1 : Int) else 0) h) :
    CI 1 mX11_isNet [vi l0] h Q := by
  refine CI_of_E fX11_isNet.1 rfl (Nat.le_of_ble_eq_true rfl) ?_
  show E 1 mX11_isNet 0 [(0, vi l0)] [] h (qi Q)
  refine E_iload_n 0 0 dX11_isNet_0 rfl rfl ?_
  refine E_iconst dX11_isNet_1 (rg_of rfl) ?_
  refine E_iconst dX11_isNet_2 (rg_of rfl) ?_
  refine E_invSI [vi l0, vi 0, vi 3] dX11_isNet_3 fX11_isIn lX11_80 (by decide) rfl rfl (Nat.le_of_ble_eq_true rfl) (sX11_isIn (h := h) (l0 := l0) (l1 := 0) (l2 := 3) ?_)
  exact E_retZ dX11_isNet_6 rfl (b01 _) hP
theorem dX11_isWire_0 : decode prog_13_method_4_code 0 = .ok (.iload_n 2, 1) := by decide +kernel
theorem dX11_isWire_1 : decode prog_13_method_4_code 1 = .ok (.iconst 0, 1) := by decide +kernel
theorem dX11_isWire_2 : decode prog_13_method_4_code 2 = .ok (.aload_n 0, 1) := by decide +kernel
theorem dX11_isWire_3 : decode prog_13_method_4_code 3 = .ok (.getfield 9, 3) := by decide +kernel
theorem dX11_isWire_6 : decode prog_13_method_4_code 6 = .ok (.iload_n 1, 1) := by decide +kernel
theorem dX11_isWire_7 : decode prog_13_method_4_code 7 = .ok (.iaload, 1) := by decide +kernel
theorem dX11_isWire_8 : decode prog_13_method_4_code 8 = .ok (.iconst 1, 1) := by decide +kernel
theorem dX11_isWire_9 : decode prog_13_method_4_code 9 = .ok (.isub, 1) := by decide +kernel
theorem dX11_isWire_10 : decode prog_13_method_4_code 10 = .ok (.invokestatic 80, 3) := by decide +kernel
theorem dX11_isWire_13 : decode prog_13_method_4_code 13 = .ok (.ireturn, 1) := by decide +kernel
theorem sX11_isWire {Q : Int → Hp → Prop} {h : Hp} {l1 l2 : Int}
    (hP : (ix l1 4 ∧ rj ((h 104 l1) - 1)) ∧
    Q (if l2 ≥ 0 ∧ l2 ≤ ((h 104 l1) - 1) then (1 : Int) else 0) h) :
    CI 1 mX11_isWire [vr 103, vi l1, vi l2] h Q := by
  refine CI_of_E fX11_isWire.1 rfl (Nat.le_of_ble_eq_true rfl) ?_
  show E 1 mX11_isWire 0 [(0, vr 103), (1, vi l1), (2, vi l2)] [] h (qi Q)
  obtain ⟨⟨v1_0, v1_1⟩, hP⟩ := hP
  refine E_iload_n 2 2 dX11_isWire_0 rfl rfl ?_
  refine E_iconst dX11_isWire_1 (rg_of rfl) ?_
  refine E_aload_n 0 0 dX11_isWire_2 rfl rfl ?_
  refine E_gR 104 0 dX11_isWire_3 FX11_9 ic_103 (by decide) ?_
  refine E_iload_n 1 1 dX11_isWire_6 rfl rfl ?_
  refine E_iaload dX11_isWire_7 ic_104 v1_0.1 v1_0.2 ?_
  refine E_iconst dX11_isWire_8 (rg_of rfl) ?_
  refine E_isub dX11_isWire_9 (rgI v1_1) ?_
  refine E_invSI [vi l2, vi 0, vi ((h 104 l1) - 1)] dX11_isWire_10 fX11_isIn lX11_80 (by decide) rfl rfl (Nat.le_of_ble_eq_true rfl) (sX11_isIn (h := h) (l0 := l2) (l1 := 0) (l2 := ((h 104 l1) - 1)) ?_)
  exact E_retZ dX11_isWire_13 rfl (b01 _) hP
theorem dX11_remembers_0 : decode prog_13_method_5_code 0 = .ok (.aload_n 0, 1) := by decide +kernel
theorem dX11_remembers_1 : decode prog_13_method_5_code 1 = .ok (.getfield 84, 3) := by decide +kernel
theorem dX11_remembers_4 : decode prog_13_method_5_code 4 = .ok (.bipush 12, 2) := by decide +kernel
theorem dX11_remembers_6 : decode prog_13_method_5_code 6 = .ok (.if_icmp .ne 44, 3) := by decide +kernel
theorem dX11_remembers_9 : decode prog_13_method_5_code 9 = .ok (.iconst 0, 1) := by decide +kernel
theorem dX11_remembers_10 : decode prog_13_method_5_code 10 = .ok (.istore_n 1, 1) := by decide +kernel
theorem dX11_remembers_11 : decode prog_13_method_5_code 11 = .ok (.iload_n 1, 1) := by decide +kernel
theorem dX11_remembers_12 : decode prog_13_method_5_code 12 = .ok (.sipush 3608, 3) := by decide +kernel
theorem dX11_remembers_15 : decode prog_13_method_5_code 15 = .ok (.if_icmp .ge 25, 3) := by decide +kernel
theorem dX11_remembers_18 : decode prog_13_method_5_code 18 = .ok (.aload_n 0, 1) := by decide +kernel
theorem dX11_remembers_19 : decode prog_13_method_5_code 19 = .ok (.getfield 34, 3) := by decide +kernel
theorem dX11_remembers_22 : decode prog_13_method_5_code 22 = .ok (.iload_n 1, 1) := by decide +kernel
theorem dX11_remembers_23 : decode prog_13_method_5_code 23 = .ok (.aload_n 0, 1) := by decide +kernel
theorem dX11_remembers_24 : decode prog_13_method_5_code 24 = .ok (.getfield 34, 3) := by decide +kernel
theorem dX11_remembers_27 : decode prog_13_method_5_code 27 = .ok (.iload_n 1, 1) := by decide +kernel
theorem dX11_remembers_28 : decode prog_13_method_5_code 28 = .ok (.sipush 328, 3) := by decide +kernel
theorem dX11_remembers_31 : decode prog_13_method_5_code 31 = .ok (.iadd, 1) := by decide +kernel
theorem dX11_remembers_32 : decode prog_13_method_5_code 32 = .ok (.iaload, 1) := by decide +kernel
theorem dX11_remembers_33 : decode prog_13_method_5_code 33 = .ok (.iastore, 1) := by decide +kernel
theorem dX11_remembers_34 : decode prog_13_method_5_code 34 = .ok (.iinc 1 1, 3) := by decide +kernel
theorem dX11_remembers_37 : decode prog_13_method_5_code 37 = .ok (.goto (-26), 3) := by decide +kernel
theorem dX11_remembers_40 : decode prog_13_method_5_code 40 = .ok (.aload_n 0, 1) := by decide +kernel
theorem dX11_remembers_41 : decode prog_13_method_5_code 41 = .ok (.dup, 1) := by decide +kernel
theorem dX11_remembers_42 : decode prog_13_method_5_code 42 = .ok (.getfield 84, 3) := by decide +kernel
theorem dX11_remembers_45 : decode prog_13_method_5_code 45 = .ok (.iconst 1, 1) := by decide +kernel
theorem dX11_remembers_46 : decode prog_13_method_5_code 46 = .ok (.isub, 1) := by decide +kernel
theorem dX11_remembers_47 : decode prog_13_method_5_code 47 = .ok (.putfield 84, 3) := by decide +kernel
theorem dX11_remembers_50 : decode prog_13_method_5_code 50 = .ok (.aload_n 0, 1) := by decide +kernel
theorem dX11_remembers_51 : decode prog_13_method_5_code 51 = .ok (.getfield 84, 3) := by decide +kernel
theorem dX11_remembers_54 : decode prog_13_method_5_code 54 = .ok (.sipush 328, 3) := by decide +kernel
theorem dX11_remembers_57 : decode prog_13_method_5_code 57 = .ok (.imul, 1) := by decide +kernel
theorem dX11_remembers_58 : decode prog_13_method_5_code 58 = .ok (.istore_n 1, 1) := by decide +kernel
theorem dX11_remembers_59 : decode prog_13_method_5_code 59 = .ok (.iconst 0, 1) := by decide +kernel
theorem dX11_remembers_60 : decode prog_13_method_5_code 60 = .ok (.istore_n 2, 1) := by decide +kernel
theorem dX11_remembers_61 : decode prog_13_method_5_code 61 = .ok (.iload_n 2, 1) := by decide +kernel
theorem dX11_remembers_62 : decode prog_13_method_5_code 62 = .ok (.iconst 4, 1) := by decide +kernel
theorem dX11_remembers_63 : decode prog_13_method_5_code 63 = .ok (.if_icmp .ge 39, 3) := by decide +kernel
theorem dX11_remembers_66 : decode prog_13_method_5_code 66 = .ok (.aload_n 0, 1) := by decide +kernel
theorem dX11_remembers_67 : decode prog_13_method_5_code 67 = .ok (.getfield 34, 3) := by decide +kernel
theorem dX11_remembers_70 : decode prog_13_method_5_code 70 = .ok (.iload_n 1, 1) := by decide +kernel
theorem dX11_remembers_71 : decode prog_13_method_5_code 71 = .ok (.iinc 1 1, 3) := by decide +kernel
theorem dX11_remembers_74 : decode prog_13_method_5_code 74 = .ok (.aload_n 0, 1) := by decide +kernel
theorem dX11_remembers_75 : decode prog_13_method_5_code 75 = .ok (.getfield 9, 3) := by decide +kernel
theorem dX11_remembers_78 : decode prog_13_method_5_code 78 = .ok (.iload_n 2, 1) := by decide +kernel
theorem dX11_remembers_79 : decode prog_13_method_5_code 79 = .ok (.iaload, 1) := by decide +kernel
theorem dX11_remembers_80 : decode prog_13_method_5_code 80 = .ok (.iastore, 1) := by decide +kernel
theorem dX11_remembers_81 : decode prog_13_method_5_code 81 = .ok (.aload_n 0, 1) := by decide +kernel
theorem dX11_remembers_82 : decode prog_13_method_5_code 82 = .ok (.getfield 34, 3) := by decide +kernel
theorem dX11_remembers_85 : decode prog_13_method_5_code 85 = .ok (.iload_n 1, 1) := by decide +kernel
theorem dX11_remembers_86 : decode prog_13_method_5_code 86 = .ok (.iinc 1 1, 3) := by decide +kernel
theorem dX11_remembers_89 : decode prog_13_method_5_code 89 = .ok (.aload_n 0, 1) := by decide +kernel
theorem dX11_remembers_90 : decode prog_13_method_5_code 90 = .ok (.getfield 13, 3) := by decide +kernel
theorem dX11_remembers_93 : decode prog_13_method_5_code 93 = .ok (.iload_n 2, 1) := by decide +kernel
theorem dX11_remembers_94 : decode prog_13_method_5_code 94 = .ok (.iaload, 1) := by decide +kernel
theorem dX11_remembers_95 : decode prog_13_method_5_code 95 = .ok (.iastore, 1) := by decide +kernel
theorem dX11_remembers_96 : decode prog_13_method_5_code 96 = .ok (.iinc 2 1, 3) := by decide +kernel
theorem dX11_remembers_99 : decode prog_13_method_5_code 99 = .ok (.goto (-38), 3) := by decide +kernel
theorem dX11_remembers_102 : decode prog_13_method_5_code 102 = .ok (.iconst 0, 1) := by decide +kernel
theorem dX11_remembers_103 : decode prog_13_method_5_code 103 = .ok (.istore_n 2, 1) := by decide +kernel
theorem dX11_remembers_104 : decode prog_13_method_5_code 104 = .ok (.iload_n 2, 1) := by decide +kernel
theorem dX11_remembers_105 : decode prog_13_method_5_code 105 = .ok (.sipush 160, 3) := by decide +kernel
theorem dX11_remembers_108 : decode prog_13_method_5_code 108 = .ok (.if_icmp .ge 39, 3) := by decide +kernel
theorem dX11_remembers_111 : decode prog_13_method_5_code 111 = .ok (.aload_n 0, 1) := by decide +kernel
theorem dX11_remembers_112 : decode prog_13_method_5_code 112 = .ok (.getfield 34, 3) := by decide +kernel
theorem dX11_remembers_115 : decode prog_13_method_5_code 115 = .ok (.iload_n 1, 1) := by decide +kernel
theorem dX11_remembers_116 : decode prog_13_method_5_code 116 = .ok (.iinc 1 1, 3) := by decide +kernel
theorem dX11_remembers_119 : decode prog_13_method_5_code 119 = .ok (.aload_n 0, 1) := by decide +kernel
theorem dX11_remembers_120 : decode prog_13_method_5_code 120 = .ok (.getfield 16, 3) := by decide +kernel
theorem dX11_remembers_123 : decode prog_13_method_5_code 123 = .ok (.iload_n 2, 1) := by decide +kernel
theorem dX11_remembers_124 : decode prog_13_method_5_code 124 = .ok (.iaload, 1) := by decide +kernel
theorem dX11_remembers_125 : decode prog_13_method_5_code 125 = .ok (.iastore, 1) := by decide +kernel
theorem dX11_remembers_126 : decode prog_13_method_5_code 126 = .ok (.aload_n 0, 1) := by decide +kernel
theorem dX11_remembers_127 : decode prog_13_method_5_code 127 = .ok (.getfield 34, 3) := by decide +kernel
theorem dX11_remembers_130 : decode prog_13_method_5_code 130 = .ok (.iload_n 1, 1) := by decide +kernel
theorem dX11_remembers_131 : decode prog_13_method_5_code 131 = .ok (.iinc 1 1, 3) := by decide +kernel
theorem dX11_remembers_134 : decode prog_13_method_5_code 134 = .ok (.aload_n 0, 1) := by decide +kernel
theorem dX11_remembers_135 : decode prog_13_method_5_code 135 = .ok (.getfield 19, 3) := by decide +kernel
theorem dX11_remembers_138 : decode prog_13_method_5_code 138 = .ok (.iload_n 2, 1) := by decide +kernel
theorem dX11_remembers_139 : decode prog_13_method_5_code 139 = .ok (.iaload, 1) := by decide +kernel
theorem dX11_remembers_140 : decode prog_13_method_5_code 140 = .ok (.iastore, 1) := by decide +kernel
theorem dX11_remembers_141 : decode prog_13_method_5_code 141 = .ok (.iinc 2 1, 3) := by decide +kernel
theorem dX11_remembers_144 : decode prog_13_method_5_code 144 = .ok (.goto (-40), 3) := by decide +kernel
theorem dX11_remembers_147 : decode prog_13_method_5_code 147 = .ok (.aload_n 0, 1) := by decide +kernel
theorem dX11_remembers_148 : decode prog_13_method_5_code 148 = .ok (.dup, 1) := by decide +kernel
theorem dX11_remembers_149 : decode prog_13_method_5_code 149 = .ok (.getfield 84, 3) := by decide +kernel
theorem dX11_remembers_152 : decode prog_13_method_5_code 152 = .ok (.iconst 1, 1) := by decide +kernel
theorem dX11_remembers_153 : decode prog_13_method_5_code 153 = .ok (.iadd, 1) := by decide +kernel
theorem dX11_remembers_154 : decode prog_13_method_5_code 154 = .ok (.putfield 84, 3) := by decide +kernel
theorem dX11_remembers_157 : decode prog_13_method_5_code 157 = .ok (.return_, 1) := by decide +kernel
theorem sX11_remembers_104 {Q : Hp → Prop} {h : Hp} {l1 l2 : Int}
    (hP : ((l2 ≥ 160) →
     (rj ((h 103 11) + 1)) ∧
     Q (up h 103 11 ((h 103 11) + 1))) ∧
    ((l2 < 160) →
     (rj (l1 + 1) ∧ ix l2 160 ∧ ix l1 3936 ∧ rj ((l1 + 1) + 1) ∧ ix (l1 + 1) 3936 ∧ rj (l2 + 1)) ∧
     E 0 mX11_remembers 104 [(0, vr 103), (1, vi ((l1 + 1) + 1)), (2, vi (l2 + 1))] [] (up (up h 112 l1 (h 106 l2)) 112 (l1 + 1) (h 107 l2)) (qv Q))) :
    E 0 mX11_remembers 104 [(0, vr 103), (1, vi l1), (2, vi l2)] [] h (qv Q) := by
  refine E_iload_n 2 2 dX11_remembers_104 rfl rfl ?_
  refine E_sipush dX11_remembers_105 (by decide) ?_
  refine E_icmp_ge 147 dX11_remembers_108 rfl (fun hc => ?_) (fun hc => ?_)
  · replace hP := hP.1 (hc)
    obtain ⟨v2_0, hP⟩ := hP
    refine E_aload_n 0 0 dX11_remembers_147 rfl rfl ?_
    refine E_dup dX11_remembers_148 rfl ?_
    refine E_gI 11 11 dX11_remembers_149 FX11_84 ic_103 rfl ?_
    refine E_iconst dX11_remembers_152 (rg_of rfl) ?_
    refine E_iadd dX11_remembers_153 (rgI v2_0) ?_
    refine E_pI 11 11 dX11_remembers_154 PX11_84 ic_103 rfl ?_
    exact E_retV dX11_remembers_157 rfl hP
  · replace hP := hP.2 (by omega)
    obtain ⟨⟨v3_0, v3_1, v3_2, v3_3, v3_4, v3_5⟩, hP⟩ := hP
    refine E_aload_n 0 0 dX11_remembers_111 rfl rfl ?_
    refine E_gR 112 10 dX11_remembers_112 FX11_34 ic_103 (by decide) ?_
    refine E_iload_n 1 1 dX11_remembers_115 rfl rfl ?_
    refine E_iinc 1 dX11_remembers_116 rfl (rgI v3_0) (by decide) rfl ?_
    refine E_aload_n 1 0 dX11_remembers_119 rfl rfl ?_
    refine E_gR 106 2 dX11_remembers_120 FX11_16 ic_103 (by decide) ?_
    refine E_iload_n 2 2 dX11_remembers_123 rfl rfl ?_
    refine E_iaload dX11_remembers_124 ic_106 v3_1.1 v3_1.2 ?_
    refine E_iastore dX11_remembers_125 ic_112 v3_2.1 v3_2.2 ?_
    refine E_aload_n 1 0 dX11_remembers_126 rfl rfl ?_
    refine E_gR 112 10 dX11_remembers_127 FX11_34 ic_103 (by decide) ?_
    refine E_iload_n 0 1 dX11_remembers_130 rfl rfl ?_
    refine E_iinc 0 dX11_remembers_131 rfl (rgI v3_3) (by decide) rfl ?_
    refine E_aload_n 1 0 dX11_remembers_134 rfl rfl ?_
    refine E_gR 107 3 dX11_remembers_135 FX11_19 ic_103 (by decide) ?_
    refine E_iload_n 2 2 dX11_remembers_138 rfl rfl ?_
    refine E_iaload dX11_remembers_139 ic_107 v3_1.1 v3_1.2 ?_
    refine E_top (y := (h 107 l2)) (by simp [up]) ?_
    refine E_iastore dX11_remembers_140 ic_112 v3_4.1 v3_4.2 ?_
    refine E_iinc 2 dX11_remembers_141 rfl (rgI v3_5) (by decide) rfl ?_
    refine E_goto 104 dX11_remembers_144 rfl ?_
    exact E_sub [2, 1, 0] rfl hP
theorem sX11_remembers_61 {Q : Hp → Prop} {h : Hp} {l1 l2 : Int}
    (hP : ((l2 ≥ 4) →
     E 0 mX11_remembers 104 [(0, vr 103), (1, vi l1), (2, vi 0)] [] h (qv Q)) ∧
    ((l2 < 4) →
     (rj (l1 + 1) ∧ ix l2 4 ∧ ix l1 3936 ∧ rj ((l1 + 1) + 1) ∧ ix (l1 + 1) 3936 ∧ rj (l2 + 1)) ∧
     E 0 mX11_remembers 61 [(0, vr 103), (1, vi ((l1 + 1) + 1)), (2, vi (l2 + 1))] [] (up (up h 112 l1 (h 104 l2)) 112 (l1 + 1) (h 105 l2)) (qv Q))) :
    E 0 mX11_remembers 61 [(0, vr 103), (1, vi l1), (2, vi l2)] [] h (qv Q) := by
  refine E_iload_n 2 2 dX11_remembers_61 rfl rfl ?_
  refine E_iconst dX11_remembers_62 (rg_of rfl) ?_
  refine E_icmp_ge 102 dX11_remembers_63 rfl (fun hc => ?_) (fun hc => ?_)
  · replace hP := hP.1 (hc)
    refine E_iconst dX11_remembers_102 (rg_of rfl) ?_
    refine E_istore_n dX11_remembers_103 rfl (by decide) rfl ?_
    exact E_sub [1, 2, 0] rfl hP
  · replace hP := hP.2 (by omega)
    obtain ⟨⟨v3_0, v3_1, v3_2, v3_3, v3_4, v3_5⟩, hP⟩ := hP
    refine E_aload_n 0 0 dX11_remembers_66 rfl rfl ?_
    refine E_gR 112 10 dX11_remembers_67 FX11_34 ic_103 (by decide) ?_
    refine E_iload_n 1 1 dX11_remembers_70 rfl rfl ?_
    refine E_iinc 1 dX11_remembers_71 rfl (rgI v3_0) (by decide) rfl ?_
    refine E_aload_n 1 0 dX11_remembers_74 rfl rfl ?_
    refine E_gR 104 0 dX11_remembers_75 FX11_9 ic_103 (by decide) ?_
    refine E_iload_n 2 2 dX11_remembers_78 rfl rfl ?_
    refine E_iaload dX11_remembers_79 ic_104 v3_1.1 v3_1.2 ?_
    refine E_iastore dX11_remembers_80 ic_112 v3_2.1 v3_2.2 ?_
    refine E_aload_n 1 0 dX11_remembers_81 rfl rfl ?_
    refine E_gR 112 10 dX11_remembers_82 FX11_34 ic_103 (by decide) ?_
    refine E_iload_n 0 1 dX11_remembers_85 rfl rfl ?_
    refine E_iinc 0 dX11_remembers_86 rfl (rgI v3_3) (by decide) rfl ?_
    refine E_aload_n 1 0 dX11_remembers_89 rfl rfl ?_
    refine E_gR 105 1 dX11_remembers_90 FX11_13 ic_103 (by decide) ?_
    refine E_iload_n 2 2 dX11_remembers_93 rfl rfl ?_
    refine E_iaload dX11_remembers_94 ic_105 v3_1.1 v3_1.2 ?_
    refine E_top (y := (h 105 l2)) (by simp [up]) ?_
    refine E_iastore dX11_remembers_95 ic_112 v3_4.1 v3_4.2 ?_
    refine E_iinc 2 dX11_remembers_96 rfl (rgI v3_5) (by decide) rfl ?_
    refine E_goto 61 dX11_remembers_99 rfl ?_
    exact E_sub [2, 1, 0] rfl hP
theorem sX11_remembers_11 {Q : Hp → Prop} {h : Hp} {l1 : Int}
    (hP : ((l1 ≥ 3608) →
     (rj ((h 103 11) - 1) ∧ rj (((h 103 11) - 1) * 328)) ∧
     E 0 mX11_remembers 61 [(0, vr 103), (1, vi (((h 103 11) - 1) * 328)), (2, vi 0)] [] (up h 103 11 ((h 103 11) - 1)) (qv Q)) ∧
    ((l1 < 3608) →
     (rj (l1 + 328) ∧ ix (l1 + 328) 3936 ∧ ix l1 3936 ∧ rj (l1 + 1)) ∧
     E 0 mX11_remembers 11 [(0, vr 103), (1, vi (l1 + 1))] [] (up h 112 l1 (h 112 (l1 + 328))) (qv Q))) :
    E 0 mX11_remembers 11 [(0, vr 103), (1, vi l1)] [] h (qv Q) := by
  refine E_iload_n 1 1 dX11_remembers_11 rfl rfl ?_
  refine E_sipush dX11_remembers_12 (by decide) ?_
  refine E_icmp_ge 40 dX11_remembers_15 rfl (fun hc => ?_) (fun hc => ?_)
  · replace hP := hP.1 (hc)
    obtain ⟨⟨v2_0, v2_1⟩, hP⟩ := hP
    refine E_aload_n 0 0 dX11_remembers_40 rfl rfl ?_
    refine E_dup dX11_remembers_41 rfl ?_
    refine E_gI 11 11 dX11_remembers_42 FX11_84 ic_103 rfl ?_
    refine E_iconst dX11_remembers_45 (rg_of rfl) ?_
    refine E_isub dX11_remembers_46 (rgI v2_0) ?_
    refine E_pI 11 11 dX11_remembers_47 PX11_84 ic_103 rfl ?_
    refine E_aload_n 0 0 dX11_remembers_50 rfl rfl ?_
    refine E_gI 11 11 dX11_remembers_51 FX11_84 ic_103 rfl ?_
    refine E_top (y := ((h 103 11) - 1)) (by simp [up]) ?_
    refine E_sipush dX11_remembers_54 (by decide) ?_
    refine E_imul dX11_remembers_57 (rgI v2_1) ?_
    refine E_istore_n dX11_remembers_58 rfl (by decide) rfl ?_
    refine E_iconst dX11_remembers_59 (rg_of rfl) ?_
    refine E_istore_n dX11_remembers_60 rfl (by decide) rfl ?_
    exact E_sub [2, 1, 0] rfl hP
  · replace hP := hP.2 (by omega)
    obtain ⟨⟨v3_0, v3_1, v3_2, v3_3⟩, hP⟩ := hP
    refine E_aload_n 0 0 dX11_remembers_18 rfl rfl ?_
    refine E_gR 112 10 dX11_remembers_19 FX11_34 ic_103 (by decide) ?_
    refine E_iload_n 1 1 dX11_remembers_22 rfl rfl ?_
    refine E_aload_n 0 0 dX11_remembers_23 rfl rfl ?_
    refine E_gR 112 10 dX11_remembers_24 FX11_34 ic_103 (by decide) ?_
    refine E_iload_n 1 1 dX11_remembers_27 rfl rfl ?_
    refine E_sipush dX11_remembers_28 (by decide) ?_
    refine E_iadd dX11_remembers_31 (rgI v3_0) ?_
    refine E_iaload dX11_remembers_32 ic_112 v3_1.1 v3_1.2 ?_
    refine E_iastore dX11_remembers_33 ic_112 v3_2.1 v3_2.2 ?_
    refine E_iinc 1 dX11_remembers_34 rfl (rgI v3_3) (by decide) rfl ?_
    refine E_goto 11 dX11_remembers_37 rfl ?_
    exact E_sub [1, 0] rfl hP
theorem sX11_remembers {Q : Hp → Prop} {h : Hp}
    (hP : (((h 103 11) ≠ 12) →
     (rj ((h 103 11) * 328)) ∧
     E 0 mX11_remembers 61 [(0, vr 103), (1, vi ((h 103 11) * 328)), (2, vi 0)] [] h (qv Q)) ∧
    (((h 103 11) = 12) →
     E 0 mX11_remembers 11 [(0, vr 103), (1, vi 0)] [] h (qv Q))) :
    CV 0 mX11_remembers [vr 103] h Q := by
  refine CV_of_E fX11_remembers.1 rfl (Nat.le_of_ble_eq_true rfl) ?_
  show E 0 mX11_remembers 0 [(0, vr 103)] [] h (qv Q)
  refine E_aload_n 0 0 dX11_remembers_0 rfl rfl ?_
  refine E_gI 11 11 dX11_remembers_1 FX11_84 ic_103 rfl ?_
  refine E_bipush dX11_remembers_4 (by decide) ?_
  refine E_icmp_ne 50 dX11_remembers_6 rfl (fun hc => ?_) (fun hc => ?_)
  · replace hP := hP.1 (hc)
    obtain ⟨v2_0, hP⟩ := hP
    refine E_aload_n 0 0 dX11_remembers_50 rfl rfl ?_
    refine E_gI 11 11 dX11_remembers_51 FX11_84 ic_103 rfl ?_
    refine E_sipush dX11_remembers_54 (by decide) ?_
    refine E_imul dX11_remembers_57 (rgI v2_0) ?_
    refine E_istore_n dX11_remembers_58 rfl (by decide) rfl ?_
    refine E_iconst dX11_remembers_59 (rg_of rfl) ?_
    refine E_istore_n dX11_remembers_60 rfl (by decide) rfl ?_
    exact E_sub [2, 1, 0] rfl hP
  · replace hP := hP.2 (by omega)
    refine E_iconst dX11_remembers_9 (rg_of rfl) ?_
    refine E_istore_n dX11_remembers_10 rfl (by decide) rfl ?_
    exact E_sub [1, 0] rfl hP
theorem dX11_undo_0 : decode prog_13_method_6_code 0 = .ok (.aload_n 0, 1) := by decide +kernel
theorem dX11_undo_1 : decode prog_13_method_6_code 1 = .ok (.getfield 84, 3) := by decide +kernel
theorem dX11_undo_4 : decode prog_13_method_6_code 4 = .ok (.ifCond .ne 6, 3) := by decide +kernel
theorem dX11_undo_7 : decode prog_13_method_6_code 7 = .ok (.bipush (-4), 2) := by decide +kernel
theorem dX11_undo_9 : decode prog_13_method_6_code 9 = .ok (.ireturn, 1) := by decide +kernel
theorem dX11_undo_10 : decode prog_13_method_6_code 10 = .ok (.aload_n 0, 1) := by decide +kernel
theorem dX11_undo_11 : decode prog_13_method_6_code 11 = .ok (.dup, 1) := by decide +kernel
theorem dX11_undo_12 : decode prog_13_method_6_code 12 = .ok (.getfield 84, 3) := by decide +kernel
theorem dX11_undo_15 : decode prog_13_method_6_code 15 = .ok (.iconst 1, 1) := by decide +kernel
theorem dX11_undo_16 : decode prog_13_method_6_code 16 = .ok (.isub, 1) := by decide +kernel
theorem dX11_undo_17 : decode prog_13_method_6_code 17 = .ok (.putfield 84, 3) := by decide +kernel
theorem dX11_undo_20 : decode prog_13_method_6_code 20 = .ok (.aload_n 0, 1) := by decide +kernel
theorem dX11_undo_21 : decode prog_13_method_6_code 21 = .ok (.getfield 84, 3) := by decide +kernel
theorem dX11_undo_24 : decode prog_13_method_6_code 24 = .ok (.sipush 328, 3) := by decide +kernel
theorem dX11_undo_27 : decode prog_13_method_6_code 27 = .ok (.imul, 1) := by decide +kernel
theorem dX11_undo_28 : decode prog_13_method_6_code 28 = .ok (.istore_n 1, 1) := by decide +kernel
theorem dX11_undo_29 : decode prog_13_method_6_code 29 = .ok (.iconst 0, 1) := by decide +kernel
theorem dX11_undo_30 : decode prog_13_method_6_code 30 = .ok (.istore_n 2, 1) := by decide +kernel
theorem dX11_undo_31 : decode prog_13_method_6_code 31 = .ok (.iload_n 2, 1) := by decide +kernel
theorem dX11_undo_32 : decode prog_13_method_6_code 32 = .ok (.iconst 4, 1) := by decide +kernel
theorem dX11_undo_33 : decode prog_13_method_6_code 33 = .ok (.if_icmp .ge 39, 3) := by decide +kernel
theorem dX11_undo_36 : decode prog_13_method_6_code 36 = .ok (.aload_n 0, 1) := by decide +kernel
theorem dX11_undo_37 : decode prog_13_method_6_code 37 = .ok (.getfield 9, 3) := by decide +kernel
theorem dX11_undo_40 : decode prog_13_method_6_code 40 = .ok (.iload_n 2, 1) := by decide +kernel
theorem dX11_undo_41 : decode prog_13_method_6_code 41 = .ok (.aload_n 0, 1) := by decide +kernel
theorem dX11_undo_42 : decode prog_13_method_6_code 42 = .ok (.getfield 34, 3) := by decide +kernel
theorem dX11_undo_45 : decode prog_13_method_6_code 45 = .ok (.iload_n 1, 1) := by decide +kernel
theorem dX11_undo_46 : decode prog_13_method_6_code 46 = .ok (.iinc 1 1, 3) := by decide +kernel
theorem dX11_undo_49 : decode prog_13_method_6_code 49 = .ok (.iaload, 1) := by decide +kernel
theorem dX11_undo_50 : decode prog_13_method_6_code 50 = .ok (.iastore, 1) := by decide +kernel
theorem dX11_undo_51 : decode prog_13_method_6_code 51 = .ok (.aload_n 0, 1) := by decide +kernel
theorem dX11_undo_52 : decode prog_13_method_6_code 52 = .ok (.getfield 13, 3) := by decide +kernel
theorem dX11_undo_55 : decode prog_13_method_6_code 55 = .ok (.iload_n 2, 1) := by decide +kernel
theorem dX11_undo_56 : decode prog_13_method_6_code 56 = .ok (.aload_n 0, 1) := by decide +kernel
theorem dX11_undo_57 : decode prog_13_method_6_code 57 = .ok (.getfield 34, 3) := by decide +kernel
theorem dX11_undo_60 : decode prog_13_method_6_code 60 = .ok (.iload_n 1, 1) := by decide +kernel
theorem dX11_undo_61 : decode prog_13_method_6_code 61 = .ok (.iinc 1 1, 3) := by decide +kernel
theorem dX11_undo_64 : decode prog_13_method_6_code 64 = .ok (.iaload, 1) := by decide +kernel
theorem dX11_undo_65 : decode prog_13_method_6_code 65 = .ok (.iastore, 1) := by decide +kernel
theorem dX11_undo_66 : decode prog_13_method_6_code 66 = .ok (.iinc 2 1, 3) := by decide +kernel
theorem dX11_undo_69 : decode prog_13_method_6_code 69 = .ok (.goto (-38), 3) := by decide +kernel
theorem dX11_undo_72 : decode prog_13_method_6_code 72 = .ok (.iconst 0, 1) := by decide +kernel
theorem dX11_undo_73 : decode prog_13_method_6_code 73 = .ok (.istore_n 2, 1) := by decide +kernel
theorem dX11_undo_74 : decode prog_13_method_6_code 74 = .ok (.iload_n 2, 1) := by decide +kernel
theorem dX11_undo_75 : decode prog_13_method_6_code 75 = .ok (.sipush 160, 3) := by decide +kernel
theorem dX11_undo_78 : decode prog_13_method_6_code 78 = .ok (.if_icmp .ge 39, 3) := by decide +kernel
theorem dX11_undo_81 : decode prog_13_method_6_code 81 = .ok (.aload_n 0, 1) := by decide +kernel
theorem dX11_undo_82 : decode prog_13_method_6_code 82 = .ok (.getfield 16, 3) := by decide +kernel
theorem dX11_undo_85 : decode prog_13_method_6_code 85 = .ok (.iload_n 2, 1) := by decide +kernel
theorem dX11_undo_86 : decode prog_13_method_6_code 86 = .ok (.aload_n 0, 1) := by decide +kernel
theorem dX11_undo_87 : decode prog_13_method_6_code 87 = .ok (.getfield 34, 3) := by decide +kernel
theorem dX11_undo_90 : decode prog_13_method_6_code 90 = .ok (.iload_n 1, 1) := by decide +kernel
theorem dX11_undo_91 : decode prog_13_method_6_code 91 = .ok (.iinc 1 1, 3) := by decide +kernel
theorem dX11_undo_94 : decode prog_13_method_6_code 94 = .ok (.iaload, 1) := by decide +kernel
theorem dX11_undo_95 : decode prog_13_method_6_code 95 = .ok (.iastore, 1) := by decide +kernel
theorem dX11_undo_96 : decode prog_13_method_6_code 96 = .ok (.aload_n 0, 1) := by decide +kernel
theorem dX11_undo_97 : decode prog_13_method_6_code 97 = .ok (.getfield 19, 3) := by decide +kernel
theorem dX11_undo_100 : decode prog_13_method_6_code 100 = .ok (.iload_n 2, 1) := by decide +kernel
theorem dX11_undo_101 : decode prog_13_method_6_code 101 = .ok (.aload_n 0, 1) := by decide +kernel
theorem dX11_undo_102 : decode prog_13_method_6_code 102 = .ok (.getfield 34, 3) := by decide +kernel
theorem dX11_undo_105 : decode prog_13_method_6_code 105 = .ok (.iload_n 1, 1) := by decide +kernel
theorem dX11_undo_106 : decode prog_13_method_6_code 106 = .ok (.iinc 1 1, 3) := by decide +kernel
theorem dX11_undo_109 : decode prog_13_method_6_code 109 = .ok (.iaload, 1) := by decide +kernel
theorem dX11_undo_110 : decode prog_13_method_6_code 110 = .ok (.iastore, 1) := by decide +kernel
theorem dX11_undo_111 : decode prog_13_method_6_code 111 = .ok (.iinc 2 1, 3) := by decide +kernel
theorem dX11_undo_114 : decode prog_13_method_6_code 114 = .ok (.goto (-40), 3) := by decide +kernel
theorem dX11_undo_117 : decode prog_13_method_6_code 117 = .ok (.aload_n 0, 1) := by decide +kernel
theorem dX11_undo_118 : decode prog_13_method_6_code 118 = .ok (.getfield 84, 3) := by decide +kernel
theorem dX11_undo_121 : decode prog_13_method_6_code 121 = .ok (.ireturn, 1) := by decide +kernel
theorem sX11_undo_74 {Q : Int → Hp → Prop} {h : Hp} {l1 l2 : Int}
    (hP : ((l2 ≥ 160) →
     Q (h 103 11) h) ∧
    ((l2 < 160) →
     (rj (l1 + 1) ∧ ix l1 3936 ∧ ix l2 160 ∧ rj ((l1 + 1) + 1) ∧ ix (l1 + 1) 3936 ∧ rj (l2 + 1)) ∧
     E 0 mX11_undo 74 [(0, vr 103), (1, vi ((l1 + 1) + 1)), (2, vi (l2 + 1))] [] (up (up h 106 l2 (h 112 l1)) 107 l2 (h 112 (l1 + 1))) (qi Q))) :
    E 0 mX11_undo 74 [(0, vr 103), (1, vi l1), (2, vi l2)] [] h (qi Q) := by
  refine E_iload_n 2 2 dX11_undo_74 rfl rfl ?_
  refine E_sipush dX11_undo_75 (by decide) ?_
  refine E_icmp_ge 117 dX11_undo_78 rfl (fun hc => ?_) (fun hc => ?_)
  · replace hP := hP.1 (hc)
    refine E_aload_n 0 0 dX11_undo_117 rfl rfl ?_
    refine E_gI 11 11 dX11_undo_118 FX11_84 ic_103 rfl ?_
    exact E_retI dX11_undo_121 rfl hP
  · replace hP := hP.2 (by omega)
    obtain ⟨⟨v3_0, v3_1, v3_2, v3_3, v3_4, v3_5⟩, hP⟩ := hP
    refine E_aload_n 0 0 dX11_undo_81 rfl rfl ?_
    refine E_gR 106 2 dX11_undo_82 FX11_16 ic_103 (by decide) ?_
    refine E_iload_n 2 2 dX11_undo_85 rfl rfl ?_
    refine E_aload_n 0 0 dX11_undo_86 rfl rfl ?_
    refine E_gR 112 10 dX11_undo_87 FX11_34 ic_103 (by decide) ?_
    refine E_iload_n 1 1 dX11_undo_90 rfl rfl ?_
    refine E_iinc 1 dX11_undo_91 rfl (rgI v3_0) (by decide) rfl ?_
    refine E_iaload dX11_undo_94 ic_112 v3_1.1 v3_1.2 ?_
    refine E_iastore dX11_undo_95 ic_106 v3_2.1 v3_2.2 ?_
    refine E_aload_n 1 0 dX11_undo_96 rfl rfl ?_
    refine E_gR 107 3 dX11_undo_97 FX11_19 ic_103 (by decide) ?_
    refine E_iload_n 2 2 dX11_undo_100 rfl rfl ?_
    refine E_aload_n 1 0 dX11_undo_101 rfl rfl ?_
    refine E_gR 112 10 dX11_undo_102 FX11_34 ic_103 (by decide) ?_
    refine E_iload_n 0 1 dX11_undo_105 rfl rfl ?_
    refine E_iinc 0 dX11_undo_106 rfl (rgI v3_3) (by decide) rfl ?_
    refine E_iaload dX11_undo_109 ic_112 v3_4.1 v3_4.2 ?_
    refine E_top (y := (h 112 (l1 + 1))) (by simp [up]) ?_
    refine E_iastore dX11_undo_110 ic_107 v3_2.1 v3_2.2 ?_
    refine E_iinc 2 dX11_undo_111 rfl (rgI v3_5) (by decide) rfl ?_
    refine E_goto 74 dX11_undo_114 rfl ?_
    exact E_sub [2, 1, 0] rfl hP
theorem sX11_undo_31 {Q : Int → Hp → Prop} {h : Hp} {l1 l2 : Int}
    (hP : ((l2 ≥ 4) →
     E 0 mX11_undo 74 [(0, vr 103), (1, vi l1), (2, vi 0)] [] h (qi Q)) ∧
    ((l2 < 4) →
     (rj (l1 + 1) ∧ ix l1 3936 ∧ ix l2 4 ∧ rj ((l1 + 1) + 1) ∧ ix (l1 + 1) 3936 ∧ rj (l2 + 1)) ∧
     E 0 mX11_undo 31 [(0, vr 103), (1, vi ((l1 + 1) + 1)), (2, vi (l2 + 1))] [] (up (up h 104 l2 (h 112 l1)) 105 l2 (h 112 (l1 + 1))) (qi Q))) :
    E 0 mX11_undo 31 [(0, vr 103), (1, vi l1), (2, vi l2)] [] h (qi Q) := by
  refine E_iload_n 2 2 dX11_undo_31 rfl rfl ?_
  refine E_iconst dX11_undo_32 (rg_of rfl) ?_
  refine E_icmp_ge 72 dX11_undo_33 rfl (fun hc => ?_) (fun hc => ?_)
  · replace hP := hP.1 (hc)
    refine E_iconst dX11_undo_72 (rg_of rfl) ?_
    refine E_istore_n dX11_undo_73 rfl (by decide) rfl ?_
    exact E_sub [1, 2, 0] rfl hP
  · replace hP := hP.2 (by omega)
    obtain ⟨⟨v3_0, v3_1, v3_2, v3_3, v3_4, v3_5⟩, hP⟩ := hP
    refine E_aload_n 0 0 dX11_undo_36 rfl rfl ?_
    refine E_gR 104 0 dX11_undo_37 FX11_9 ic_103 (by decide) ?_
    refine E_iload_n 2 2 dX11_undo_40 rfl rfl ?_
    refine E_aload_n 0 0 dX11_undo_41 rfl rfl ?_
    refine E_gR 112 10 dX11_undo_42 FX11_34 ic_103 (by decide) ?_
    refine E_iload_n 1 1 dX11_undo_45 rfl rfl ?_
    refine E_iinc 1 dX11_undo_46 rfl (rgI v3_0) (by decide) rfl ?_
    refine E_iaload dX11_undo_49 ic_112 v3_1.1 v3_1.2 ?_
    refine E_iastore dX11_undo_50 ic_104 v3_2.1 v3_2.2 ?_
    refine E_aload_n 1 0 dX11_undo_51 rfl rfl ?_
    refine E_gR 105 1 dX11_undo_52 FX11_13 ic_103 (by decide) ?_
    refine E_iload_n 2 2 dX11_undo_55 rfl rfl ?_
    refine E_aload_n 1 0 dX11_undo_56 rfl rfl ?_
    refine E_gR 112 10 dX11_undo_57 FX11_34 ic_103 (by decide) ?_
    refine E_iload_n 0 1 dX11_undo_60 rfl rfl ?_
    refine E_iinc 0 dX11_undo_61 rfl (rgI v3_3) (by decide) rfl ?_
    refine E_iaload dX11_undo_64 ic_112 v3_4.1 v3_4.2 ?_
    refine E_top (y := (h 112 (l1 + 1))) (by simp [up]) ?_
    refine E_iastore dX11_undo_65 ic_105 v3_2.1 v3_2.2 ?_
    refine E_iinc 2 dX11_undo_66 rfl (rgI v3_5) (by decide) rfl ?_
    refine E_goto 31 dX11_undo_69 rfl ?_
    exact E_sub [2, 1, 0] rfl hP
theorem sX11_undo {Q : Int → Hp → Prop} {h : Hp}
    (hP : (((h 103 11) ≠ 0) →
     (rj ((h 103 11) - 1) ∧ rj (((h 103 11) - 1) * 328)) ∧
     E 0 mX11_undo 31 [(0, vr 103), (1, vi (((h 103 11) - 1) * 328)), (2, vi 0)] [] (up h 103 11 ((h 103 11) - 1)) (qi Q)) ∧
    (((h 103 11) = 0) →
     Q (-4) h)) :
    CI 0 mX11_undo [vr 103] h Q := by
  refine CI_of_E fX11_undo.1 rfl (Nat.le_of_ble_eq_true rfl) ?_
  show E 0 mX11_undo 0 [(0, vr 103)] [] h (qi Q)
  refine E_aload_n 0 0 dX11_undo_0 rfl rfl ?_
  refine E_gI 11 11 dX11_undo_1 FX11_84 ic_103 rfl ?_
  refine E_if_ne 10 dX11_undo_4 rfl (fun hc => ?_) (fun hc => ?_)
  · replace hP := hP.1 (hc)
    obtain ⟨⟨v2_0, v2_1⟩, hP⟩ := hP
    refine E_aload_n 0 0 dX11_undo_10 rfl rfl ?_
    refine E_dup dX11_undo_11 rfl ?_
    refine E_gI 11 11 dX11_undo_12 FX11_84 ic_103 rfl ?_
    refine E_iconst dX11_undo_15 (rg_of rfl) ?_
    refine E_isub dX11_undo_16 (rgI v2_0) ?_
    refine E_pI 11 11 dX11_undo_17 PX11_84 ic_103 rfl ?_
    refine E_aload_n 0 0 dX11_undo_20 rfl rfl ?_
    refine E_gI 11 11 dX11_undo_21 FX11_84 ic_103 rfl ?_
    refine E_top (y := ((h 103 11) - 1)) (by simp [up]) ?_
    refine E_sipush dX11_undo_24 (by decide) ?_
    refine E_imul dX11_undo_27 (rgI v2_1) ?_
    refine E_istore_n dX11_undo_28 rfl (by decide) rfl ?_
    refine E_iconst dX11_undo_29 (rg_of rfl) ?_
    refine E_istore_n dX11_undo_30 rfl (by decide) rfl ?_
    exact E_sub [2, 1, 0] rfl hP
  · replace hP := hP.2 (by omega)
    refine E_bipush dX11_undo_7 (by decide) ?_
    exact E_retI dX11_undo_9 rfl hP
theorem dX11_reset_0 : decode prog_13_method_7_code 0 = .ok (.iload_n 1, 1) := by decide +kernel
theorem dX11_reset_1 : decode prog_13_method_7_code 1 = .ok (.invokestatic 88, 3) := by decide +kernel
theorem dX11_reset_4 : decode prog_13_method_7_code 4 = .ok (.ifCond .ne 5, 3) := by decide +kernel
theorem dX11_reset_7 : decode prog_13_method_7_code 7 = .ok (.iconst (-1), 1) := by decide +kernel
theorem dX11_reset_8 : decode prog_13_method_7_code 8 = .ok (.ireturn, 1) := by decide +kernel
theorem dX11_reset_9 : decode prog_13_method_7_code 9 = .ok (.iload_n 2, 1) := by decide +kernel
theorem dX11_reset_10 : decode prog_13_method_7_code 10 = .ok (.iconst 2, 1) := by decide +kernel
theorem dX11_reset_11 : decode prog_13_method_7_code 11 = .ok (.bipush 8, 2) := by decide +kernel
theorem dX11_reset_13 : decode prog_13_method_7_code 13 = .ok (.invokestatic 80, 3) := by decide +kernel
theorem dX11_reset_16 : decode prog_13_method_7_code 16 = .ok (.ifCond .ne 6, 3) := by decide +kernel
theorem dX11_reset_19 : decode prog_13_method_7_code 19 = .ok (.bipush (-2), 2) := by decide +kernel
theorem dX11_reset_21 : decode prog_13_method_7_code 21 = .ok (.ireturn, 1) := by decide +kernel
theorem dX11_reset_22 : decode prog_13_method_7_code 22 = .ok (.aload_n 0, 1) := by decide +kernel
theorem dX11_reset_23 : decode prog_13_method_7_code 23 = .ok (.invokevirtual 92, 3) := by decide +kernel
theorem dX11_reset_26 : decode prog_13_method_7_code 26 = .ok (.aload_n 0, 1) := by decide +kernel
theorem dX11_reset_27 : decode prog_13_method_7_code 27 = .ok (.getfield 13, 3) := by decide +kernel
theorem dX11_reset_30 : decode prog_13_method_7_code 30 = .ok (.iload_n 1, 1) := by decide +kernel
theorem dX11_reset_31 : decode prog_13_method_7_code 31 = .ok (.iaload, 1) := by decide +kernel
theorem dX11_reset_32 : decode prog_13_method_7_code 32 = .ok (.istore_n 3, 1) := by decide +kernel
theorem dX11_reset_33 : decode prog_13_method_7_code 33 = .ok (.aload_n 0, 1) := by decide +kernel
theorem dX11_reset_34 : decode prog_13_method_7_code 34 = .ok (.getfield 9, 3) := by decide +kernel
theorem dX11_reset_37 : decode prog_13_method_7_code 37 = .ok (.iload_n 1, 1) := by decide +kernel
theorem dX11_reset_38 : decode prog_13_method_7_code 38 = .ok (.iload_n 2, 1) := by decide +kernel
theorem dX11_reset_39 : decode prog_13_method_7_code 39 = .ok (.iastore, 1) := by decide +kernel
theorem dX11_reset_40 : decode prog_13_method_7_code 40 = .ok (.aload_n 0, 1) := by decide +kernel
theorem dX11_reset_41 : decode prog_13_method_7_code 41 = .ok (.getfield 13, 3) := by decide +kernel
theorem dX11_reset_44 : decode prog_13_method_7_code 44 = .ok (.iload_n 1, 1) := by decide +kernel
theorem dX11_reset_45 : decode prog_13_method_7_code 45 = .ok (.iconst 0, 1) := by decide +kernel
theorem dX11_reset_46 : decode prog_13_method_7_code 46 = .ok (.iastore, 1) := by decide +kernel
theorem dX11_reset_47 : decode prog_13_method_7_code 47 = .ok (.iload_n 3, 1) := by decide +kernel
theorem dX11_reset_48 : decode prog_13_method_7_code 48 = .ok (.ireturn, 1) := by decide +kernel
theorem sX11_reset {Q : Int → Hp → Prop} {h : Hp} {l1 l2 : Int}
    (hP : ((l1 ≥ 0 ∧ l1 ≤ 3) →
     ((l2 ≥ 2 ∧ l2 ≤ 8) →
      CV 0 mX11_remembers [vr 103] h (fun h4 =>
       (ix l1 4) ∧
       Q (h4 105 l1) (up (up h4 104 l1 l2) 105 l1 0))) ∧
     ((l2 < 2 ∨ l2 > 8) →
      Q (-2) h)) ∧
    ((l1 < 0 ∨ l1 > 3) →
     Q (-1) h)) :
    CI 2 mX11_reset [vr 103, vi l1, vi l2] h Q := by
  refine CI_of_E fX11_reset.1 rfl (Nat.le_of_ble_eq_true rfl) ?_
  show E 2 mX11_reset 0 [(0, vr 103), (1, vi l1), (2, vi l2)] [] h (qi Q)
  refine E_iload_n 1 1 dX11_reset_0 rfl rfl ?_
  refine E_invSI [vi l1] dX11_reset_1 fX11_isNet lX11_88 (by decide) rfl rfl (Nat.le_of_ble_eq_true rfl) (sX11_isNet (h := h) (l0 := l1) ?_)
  refine E_if_ne 9 dX11_reset_4 rfl (fun hc => ?_) (fun hc => ?_)
  · replace hP := hP.1 (by have := ite1' hc; omega)
    refine E_iload_n 2 2 dX11_reset_9 rfl rfl ?_
    refine E_iconst dX11_reset_10 (rg_of rfl) ?_
    refine E_bipush dX11_reset_11 (by decide) ?_
    refine E_invSI [vi l2, vi 2, vi 8] dX11_reset_13 fX11_isIn lX11_80 (by decide) rfl rfl (Nat.le_of_ble_eq_true rfl) (sX11_isIn (h := h) (l0 := l2) (l1 := 2) (l2 := 8) ?_)
    refine E_if_ne 22 dX11_reset_16 rfl (fun hc => ?_) (fun hc => ?_)
    · replace hP := hP.1 (by have := ite1' hc; omega)
      refine E_aload_n 0 0 dX11_reset_22 rfl rfl ?_
      refine E_invVV [] dX11_reset_23 fX11_remembers lX11_92 ic_103 rfl (by decide) rfl rfl (Nat.le_of_ble_eq_true rfl) (CV_mono hP (fun h4 hP => ?_))
      obtain ⟨v5_0, hP⟩ := hP
      refine E_aload_n 0 0 dX11_reset_26 rfl rfl ?_
      refine E_gR 105 1 dX11_reset_27 FX11_13 ic_103 (by decide) ?_
      refine E_iload_n 1 1 dX11_reset_30 rfl rfl ?_
      refine E_iaload dX11_reset_31 ic_105 v5_0.1 v5_0.2 ?_
      refine E_istore_n dX11_reset_32 rfl (by decide) rfl ?_
      refine E_aload_n 1 0 dX11_reset_33 rfl rfl ?_
      refine E_gR 104 0 dX11_reset_34 FX11_9 ic_103 (by decide) ?_
      refine E_iload_n 2 1 dX11_reset_37 rfl rfl ?_
      refine E_iload_n 3 2 dX11_reset_38 rfl rfl ?_
      refine E_iastore dX11_reset_39 ic_104 v5_0.1 v5_0.2 ?_
      refine E_aload_n 1 0 dX11_reset_40 rfl rfl ?_
      refine E_gR 105 1 dX11_reset_41 FX11_13 ic_103 (by decide) ?_
      refine E_iload_n 2 1 dX11_reset_44 rfl rfl ?_
      refine E_iconst dX11_reset_45 (rg_of rfl) ?_
      refine E_iastore dX11_reset_46 ic_105 v5_0.1 v5_0.2 ?_
      refine E_iload_n 0 3 dX11_reset_47 rfl rfl ?_
      exact E_retI dX11_reset_48 rfl hP
    · replace hP := hP.2 (by have := ite0 hc; omega)
      refine E_bipush dX11_reset_19 (by decide) ?_
      exact E_retI dX11_reset_21 rfl hP
  · replace hP := hP.2 (by have := ite0 hc; omega)
    refine E_iconst dX11_reset_7 (rg_of rfl) ?_
    exact E_retI dX11_reset_8 rfl hP
theorem dX11_wires_0 : decode prog_13_method_8_code 0 = .ok (.iload_n 1, 1) := by decide +kernel
theorem dX11_wires_1 : decode prog_13_method_8_code 1 = .ok (.invokestatic 88, 3) := by decide +kernel
theorem dX11_wires_4 : decode prog_13_method_8_code 4 = .ok (.ifCond .eq 12, 3) := by decide +kernel
theorem dX11_wires_7 : decode prog_13_method_8_code 7 = .ok (.aload_n 0, 1) := by decide +kernel
theorem dX11_wires_8 : decode prog_13_method_8_code 8 = .ok (.getfield 9, 3) := by decide +kernel
theorem dX11_wires_11 : decode prog_13_method_8_code 11 = .ok (.iload_n 1, 1) := by decide +kernel
theorem dX11_wires_12 : decode prog_13_method_8_code 12 = .ok (.iaload, 1) := by decide +kernel
theorem dX11_wires_13 : decode prog_13_method_8_code 13 = .ok (.goto 4, 3) := by decide +kernel
theorem dX11_wires_16 : decode prog_13_method_8_code 16 = .ok (.iconst (-1), 1) := by decide +kernel
theorem dX11_wires_17 : decode prog_13_method_8_code 17 = .ok (.ireturn, 1) := by decide +kernel
theorem sX11_wires {Q : Int → Hp → Prop} {h : Hp} {l1 : Int}
    (hP : (((l1 ≥ 0 ∧ l1 ≤ 3) → (ix l1 4))) ∧
    Q (if l1 < 0 ∨ l1 > 3 then (-1) else (h 104 l1)) h) :
    CI 2 mX11_wires [vr 103, vi l1] h Q := by
  refine CI_of_E fX11_wires.1 rfl (Nat.le_of_ble_eq_true rfl) ?_
  show E 2 mX11_wires 0 [(0, vr 103), (1, vi l1)] [] h (qi Q)
  obtain ⟨v1_0, hP⟩ := hP
  refine E_iload_n 1 1 dX11_wires_0 rfl rfl ?_
  refine E_invSI [vi l1] dX11_wires_1 fX11_isNet lX11_88 (by decide) rfl rfl (Nat.le_of_ble_eq_true rfl) (sX11_isNet (h := h) (l0 := l1) ?_)
  have hJ : E 2 mX11_wires 17 [(0, vr 103), (1, vi l1)] [vi (if l1 < 0 ∨ l1 > 3 then (-1) else (h 104 l1))] h (qi Q) := by
    exact E_retI dX11_wires_17 rfl hP
  refine E_if_eq 16 dX11_wires_4 rfl (fun hc => ?_) (fun hc => ?_)
  · have hp4 := (by have := ite0 hc; omega : l1 < 0 ∨ l1 > 3)
    refine E_iconst dX11_wires_16 (rg_of rfl) ?_
    exact E_top (by first | exact (if_pos (by omega)).symm | exact (if_neg (by omega)).symm | (repeat first | rw [if_pos (by omega)] | rw [if_neg (by omega)])) hJ
  · have hp4 := (by have := ite1 hc; omega : l1 ≥ 0 ∧ l1 ≤ 3)
    refine E_aload_n 0 0 dX11_wires_7 rfl rfl ?_
    refine E_gR 104 0 dX11_wires_8 FX11_9 ic_103 (by decide) ?_
    refine E_iload_n 1 1 dX11_wires_11 rfl rfl ?_
    refine E_iaload dX11_wires_12 ic_104 (v1_0 (by omega)).1 (v1_0 (by omega)).2 ?_
    refine E_goto 17 dX11_wires_13 rfl ?_
    exact E_top (by first | exact (if_pos (by omega)).symm | exact (if_neg (by omega)).symm | (repeat first | rw [if_pos (by omega)] | rw [if_neg (by omega)])) hJ
theorem dX11_size_0 : decode prog_13_method_9_code 0 = .ok (.iload_n 1, 1) := by decide +kernel
theorem dX11_size_1 : decode prog_13_method_9_code 1 = .ok (.invokestatic 88, 3) := by decide +kernel
theorem dX11_size_4 : decode prog_13_method_9_code 4 = .ok (.ifCond .eq 12, 3) := by decide +kernel
theorem dX11_size_7 : decode prog_13_method_9_code 7 = .ok (.aload_n 0, 1) := by decide +kernel
theorem dX11_size_8 : decode prog_13_method_9_code 8 = .ok (.getfield 13, 3) := by decide +kernel
theorem dX11_size_11 : decode prog_13_method_9_code 11 = .ok (.iload_n 1, 1) := by decide +kernel
theorem dX11_size_12 : decode prog_13_method_9_code 12 = .ok (.iaload, 1) := by decide +kernel
theorem dX11_size_13 : decode prog_13_method_9_code 13 = .ok (.goto 4, 3) := by decide +kernel
theorem dX11_size_16 : decode prog_13_method_9_code 16 = .ok (.iconst (-1), 1) := by decide +kernel
theorem dX11_size_17 : decode prog_13_method_9_code 17 = .ok (.ireturn, 1) := by decide +kernel
theorem sX11_size {Q : Int → Hp → Prop} {h : Hp} {l1 : Int}
    (hP : (((l1 ≥ 0 ∧ l1 ≤ 3) → (ix l1 4))) ∧
    Q (if l1 < 0 ∨ l1 > 3 then (-1) else (h 105 l1)) h) :
    CI 2 mX11_size [vr 103, vi l1] h Q := by
  refine CI_of_E fX11_size.1 rfl (Nat.le_of_ble_eq_true rfl) ?_
  show E 2 mX11_size 0 [(0, vr 103), (1, vi l1)] [] h (qi Q)
  obtain ⟨v1_0, hP⟩ := hP
  refine E_iload_n 1 1 dX11_size_0 rfl rfl ?_
  refine E_invSI [vi l1] dX11_size_1 fX11_isNet lX11_88 (by decide) rfl rfl (Nat.le_of_ble_eq_true rfl) (sX11_isNet (h := h) (l0 := l1) ?_)
  have hJ : E 2 mX11_size 17 [(0, vr 103), (1, vi l1)] [vi (if l1 < 0 ∨ l1 > 3 then (-1) else (h 105 l1))] h (qi Q) := by
    exact E_retI dX11_size_17 rfl hP
  refine E_if_eq 16 dX11_size_4 rfl (fun hc => ?_) (fun hc => ?_)
  · have hp4 := (by have := ite0 hc; omega : l1 < 0 ∨ l1 > 3)
    refine E_iconst dX11_size_16 (rg_of rfl) ?_
    exact E_top (by first | exact (if_pos (by omega)).symm | exact (if_neg (by omega)).symm | (repeat first | rw [if_pos (by omega)] | rw [if_neg (by omega)])) hJ
  · have hp4 := (by have := ite1 hc; omega : l1 ≥ 0 ∧ l1 ≤ 3)
    refine E_aload_n 0 0 dX11_size_7 rfl rfl ?_
    refine E_gR 105 1 dX11_size_8 FX11_13 ic_103 (by decide) ?_
    refine E_iload_n 1 1 dX11_size_11 rfl rfl ?_
    refine E_iaload dX11_size_12 ic_105 (v1_0 (by omega)).1 (v1_0 (by omega)).2 ?_
    refine E_goto 17 dX11_size_13 rfl ?_
    exact E_top (by first | exact (if_pos (by omega)).symm | exact (if_neg (by omega)).symm | (repeat first | rw [if_pos (by omega)] | rw [if_neg (by omega)])) hJ
theorem dX11_isPosition_0 : decode prog_13_method_10_code 0 = .ok (.iload_n 1, 1) := by decide +kernel
theorem dX11_isPosition_1 : decode prog_13_method_10_code 1 = .ok (.invokestatic 88, 3) := by decide +kernel
theorem dX11_isPosition_4 : decode prog_13_method_10_code 4 = .ok (.ifCond .eq 23, 3) := by decide +kernel
theorem dX11_isPosition_7 : decode prog_13_method_10_code 7 = .ok (.iload_n 2, 1) := by decide +kernel
theorem dX11_isPosition_8 : decode prog_13_method_10_code 8 = .ok (.iconst 0, 1) := by decide +kernel
theorem dX11_isPosition_9 : decode prog_13_method_10_code 9 = .ok (.aload_n 0, 1) := by decide +kernel
theorem dX11_isPosition_10 : decode prog_13_method_10_code 10 = .ok (.getfield 13, 3) := by decide +kernel
theorem dX11_isPosition_13 : decode prog_13_method_10_code 13 = .ok (.iload_n 1, 1) := by decide +kernel
theorem dX11_isPosition_14 : decode prog_13_method_10_code 14 = .ok (.iaload, 1) := by decide +kernel
theorem dX11_isPosition_15 : decode prog_13_method_10_code 15 = .ok (.iconst 1, 1) := by decide +kernel
theorem dX11_isPosition_16 : decode prog_13_method_10_code 16 = .ok (.isub, 1) := by decide +kernel
theorem dX11_isPosition_17 : decode prog_13_method_10_code 17 = .ok (.invokestatic 80, 3) := by decide +kernel
theorem dX11_isPosition_20 : decode prog_13_method_10_code 20 = .ok (.ifCond .eq 7, 3) := by decide +kernel
theorem dX11_isPosition_23 : decode prog_13_method_10_code 23 = .ok (.iconst 1, 1) := by decide +kernel
theorem dX11_isPosition_24 : decode prog_13_method_10_code 24 = .ok (.goto 4, 3) := by decide +kernel
theorem dX11_isPosition_27 : decode prog_13_method_10_code 27 = .ok (.iconst 0, 1) := by decide +kernel
theorem dX11_isPosition_28 : decode prog_13_method_10_code 28 = .ok (.ireturn, 1) := by decide +kernel
theorem sX11_isPosition {Q : Int → Hp → Prop} {h : Hp} {l1 l2 : Int}
    (hP : (((l1 ≥ 0 ∧ l1 ≤ 3) → (ix l1 4)) ∧ ((l1 ≥ 0 ∧ l1 ≤ 3) → (rj ((h 105 l1) - 1)))) ∧
    Q (if (l1 ≥ 0 ∧ l1 ≤ 3) ∧ (l2 ≥ 0 ∧ l2 ≤ ((h 105 l1) - 1)) then (1 : Int) else 0) h) :
    CI 2 mX11_isPosition [vr 103, vi l1, vi l2] h Q := by
  refine CI_of_E fX11_isPosition.1 rfl (Nat.le_of_ble_eq_true rfl) ?_
  show E 2 mX11_isPosition 0 [(0, vr 103), (1, vi l1), (2, vi l2)] [] h (qi Q)
  obtain ⟨⟨v1_0, v1_1⟩, hP⟩ := hP
  refine E_iload_n 1 1 dX11_isPosition_0 rfl rfl ?_
  refine E_invSI [vi l1] dX11_isPosition_1 fX11_isNet lX11_88 (by decide) rfl rfl (Nat.le_of_ble_eq_true rfl) (sX11_isNet (h := h) (l0 := l1) ?_)
  have hJ : E 2 mX11_isPosition 28 [(0, vr 103), (1, vi l1), (2, vi l2)] [vi (if (l1 ≥ 0 ∧ l1 ≤ 3) ∧ (l2 ≥ 0 ∧ l2 ≤ ((h 105 l1) - 1)) then (1 : Int) else 0)] h (qi Q) := by
    exact E_retZ dX11_isPosition_28 rfl (b01 _) hP
  refine E_if_eq 27 dX11_isPosition_4 rfl (fun hc => ?_) (fun hc => ?_)
  · have hp4 := (by have := ite0 hc; omega : l1 < 0 ∨ l1 > 3)
    refine E_iconst dX11_isPosition_27 (rg_of rfl) ?_
    exact E_top (if_neg (by omega)).symm hJ
  · have hp4 := (by have := ite1 hc; omega : l1 ≥ 0 ∧ l1 ≤ 3)
    refine E_iload_n 2 2 dX11_isPosition_7 rfl rfl ?_
    refine E_iconst dX11_isPosition_8 (rg_of rfl) ?_
    refine E_aload_n 0 0 dX11_isPosition_9 rfl rfl ?_
    refine E_gR 105 1 dX11_isPosition_10 FX11_13 ic_103 (by decide) ?_
    refine E_iload_n 1 1 dX11_isPosition_13 rfl rfl ?_
    refine E_iaload dX11_isPosition_14 ic_105 (v1_0 (by omega)).1 (v1_0 (by omega)).2 ?_
    refine E_iconst dX11_isPosition_15 (rg_of rfl) ?_
    refine E_isub dX11_isPosition_16 (rgI (v1_1 (by omega))) ?_
    refine E_invSI [vi l2, vi 0, vi ((h 105 l1) - 1)] dX11_isPosition_17 fX11_isIn lX11_80 (by decide) rfl rfl (Nat.le_of_ble_eq_true rfl) (sX11_isIn (h := h) (l0 := l2) (l1 := 0) (l2 := ((h 105 l1) - 1)) ?_)
    refine E_if_eq 27 dX11_isPosition_20 rfl (fun hc => ?_) (fun hc => ?_)
    · have hp20 := (by have := ite0 hc; omega : l2 < 0 ∨ l2 > ((h 105 l1) - 1))
      refine E_iconst dX11_isPosition_27 (rg_of rfl) ?_
      exact E_top (if_neg (by omega)).symm hJ
    · have hp20 := (by have := ite1 hc; omega : l2 ≥ 0 ∧ l2 ≤ ((h 105 l1) - 1))
      refine E_iconst dX11_isPosition_23 (rg_of rfl) ?_
      refine E_goto 28 dX11_isPosition_24 rfl ?_
      exact E_top (if_pos (by omega)).symm hJ
theorem dX11_comparator_0 : decode prog_13_method_11_code 0 = .ok (.aload_n 0, 1) := by decide +kernel
theorem dX11_comparator_1 : decode prog_13_method_11_code 1 = .ok (.iload_n 1, 1) := by decide +kernel
theorem dX11_comparator_2 : decode prog_13_method_11_code 2 = .ok (.iload_n 2, 1) := by decide +kernel
theorem dX11_comparator_3 : decode prog_13_method_11_code 3 = .ok (.invokevirtual 95, 3) := by decide +kernel
theorem dX11_comparator_6 : decode prog_13_method_11_code 6 = .ok (.ifCond .eq 32, 3) := by decide +kernel
theorem dX11_comparator_9 : decode prog_13_method_11_code 9 = .ok (.bipush 10, 2) := by decide +kernel
theorem dX11_comparator_11 : decode prog_13_method_11_code 11 = .ok (.aload_n 0, 1) := by decide +kernel
theorem dX11_comparator_12 : decode prog_13_method_11_code 12 = .ok (.getfield 16, 3) := by decide +kernel
theorem dX11_comparator_15 : decode prog_13_method_11_code 15 = .ok (.bipush 40, 2) := by decide +kernel
theorem dX11_comparator_17 : decode prog_13_method_11_code 17 = .ok (.iload_n 1, 1) := by decide +kernel
theorem dX11_comparator_18 : decode prog_13_method_11_code 18 = .ok (.imul, 1) := by decide +kernel
theorem dX11_comparator_19 : decode prog_13_method_11_code 19 = .ok (.iload_n 2, 1) := by decide +kernel
theorem dX11_comparator_20 : decode prog_13_method_11_code 20 = .ok (.iadd, 1) := by decide +kernel
theorem dX11_comparator_21 : decode prog_13_method_11_code 21 = .ok (.iaload, 1) := by decide +kernel
theorem dX11_comparator_22 : decode prog_13_method_11_code 22 = .ok (.imul, 1) := by decide +kernel
theorem dX11_comparator_23 : decode prog_13_method_11_code 23 = .ok (.aload_n 0, 1) := by decide +kernel
theorem dX11_comparator_24 : decode prog_13_method_11_code 24 = .ok (.getfield 19, 3) := by decide +kernel
theorem dX11_comparator_27 : decode prog_13_method_11_code 27 = .ok (.bipush 40, 2) := by decide +kernel
theorem dX11_comparator_29 : decode prog_13_method_11_code 29 = .ok (.iload_n 1, 1) := by decide +kernel
theorem dX11_comparator_30 : decode prog_13_method_11_code 30 = .ok (.imul, 1) := by decide +kernel
theorem dX11_comparator_31 : decode prog_13_method_11_code 31 = .ok (.iload_n 2, 1) := by decide +kernel
theorem dX11_comparator_32 : decode prog_13_method_11_code 32 = .ok (.iadd, 1) := by decide +kernel
theorem dX11_comparator_33 : decode prog_13_method_11_code 33 = .ok (.iaload, 1) := by decide +kernel
theorem dX11_comparator_34 : decode prog_13_method_11_code 34 = .ok (.iadd, 1) := by decide +kernel
theorem dX11_comparator_35 : decode prog_13_method_11_code 35 = .ok (.goto 4, 3) := by decide +kernel
theorem dX11_comparator_38 : decode prog_13_method_11_code 38 = .ok (.iconst (-1), 1) := by decide +kernel
theorem dX11_comparator_39 : decode prog_13_method_11_code 39 = .ok (.ireturn, 1) := by decide +kernel
theorem sX11_comparator {Q : Int → Hp → Prop} {h : Hp} {l1 l2 : Int}
    (hP : (((l1 ≥ 0 ∧ l1 ≤ 3) → (ix l1 4)) ∧ ((l1 ≥ 0 ∧ l1 ≤ 3) → (rj ((h 105 l1) - 1))) ∧ (((l1 ≥ 0 ∧ l1 ≤ 3) ∧ (l2 ≥ 0 ∧ l2 ≤ ((h 105 l1) - 1))) → (rj (40 * l1))) ∧ (((l1 ≥ 0 ∧ l1 ≤ 3) ∧ (l2 ≥ 0 ∧ l2 ≤ ((h 105 l1) - 1))) → (rj ((40 * l1) + l2))) ∧ (((l1 ≥ 0 ∧ l1 ≤ 3) ∧ (l2 ≥ 0 ∧ l2 ≤ ((h 105 l1) - 1))) → (ix ((40 * l1) + l2) 160)) ∧ (((l1 ≥ 0 ∧ l1 ≤ 3) ∧ (l2 ≥ 0 ∧ l2 ≤ ((h 105 l1) - 1))) → (rj (10 * (h 106 ((40 * l1) + l2))))) ∧ (((l1 ≥ 0 ∧ l1 ≤ 3) ∧ (l2 ≥ 0 ∧ l2 ≤ ((h 105 l1) - 1))) → (rj ((10 * (h 106 ((40 * l1) + l2))) + (h 107 ((40 * l1) + l2)))))) ∧
    Q (if (l1 < 0 ∨ l1 > 3) ∨ (l2 < 0 ∨ l2 > ((h 105 l1) - 1)) then (-1) else ((10 * (h 106 ((40 * l1) + l2))) + (h 107 ((40 * l1) + l2)))) h) :
    CI 3 mX11_comparator [vr 103, vi l1, vi l2] h Q := by
  refine CI_of_E fX11_comparator.1 rfl (Nat.le_of_ble_eq_true rfl) ?_
  show E 3 mX11_comparator 0 [(0, vr 103), (1, vi l1), (2, vi l2)] [] h (qi Q)
  obtain ⟨⟨v1_0, v1_1, v1_2, v1_3, v1_4, v1_5, v1_6⟩, hP⟩ := hP
  refine E_aload_n 0 0 dX11_comparator_0 rfl rfl ?_
  refine E_iload_n 1 1 dX11_comparator_1 rfl rfl ?_
  refine E_iload_n 2 2 dX11_comparator_2 rfl rfl ?_
  refine E_invVI [vi l1, vi l2] dX11_comparator_3 fX11_isPosition lX11_95 ic_103 rfl (by decide) rfl rfl (Nat.le_of_ble_eq_true rfl) (sX11_isPosition (h := h) (l1 := l1) (l2 := l2) ⟨⟨v1_0, v1_1⟩, ?_⟩)
  have hJ : E 3 mX11_comparator 39 [(0, vr 103), (1, vi l1), (2, vi l2)] [vi (if (l1 < 0 ∨ l1 > 3) ∨ (l2 < 0 ∨ l2 > ((h 105 l1) - 1)) then (-1) else ((10 * (h 106 ((40 * l1) + l2))) + (h 107 ((40 * l1) + l2))))] h (qi Q) := by
    exact E_retI dX11_comparator_39 rfl hP
  refine E_if_eq 38 dX11_comparator_6 rfl (fun hc => ?_) (fun hc => ?_)
  · have hp6 := (by have := ite0 hc; omega : (l1 < 0 ∨ l1 > 3) ∨ (l2 < 0 ∨ l2 > ((h 105 l1) - 1)))
    refine E_iconst dX11_comparator_38 (rg_of rfl) ?_
    exact E_top (by first | exact (if_pos (by omega)).symm | exact (if_neg (by omega)).symm | (repeat first | rw [if_pos (by omega)] | rw [if_neg (by omega)])) hJ
  · have hp6 := (by have := ite1 hc; omega : (l1 ≥ 0 ∧ l1 ≤ 3) ∧ (l2 ≥ 0 ∧ l2 ≤ ((h 105 l1) - 1)))
    refine E_bipush dX11_comparator_9 (by decide) ?_
    refine E_aload_n 0 0 dX11_comparator_11 rfl rfl ?_
    refine E_gR 106 2 dX11_comparator_12 FX11_16 ic_103 (by decide) ?_
    refine E_bipush dX11_comparator_15 (by decide) ?_
    refine E_iload_n 1 1 dX11_comparator_17 rfl rfl ?_
    refine E_imul dX11_comparator_18 (rgI (v1_2 (by omega))) ?_
    refine E_iload_n 2 2 dX11_comparator_19 rfl rfl ?_
    refine E_iadd dX11_comparator_20 (rgI (v1_3 (by omega))) ?_
    refine E_iaload dX11_comparator_21 ic_106 (v1_4 (by omega)).1 (v1_4 (by omega)).2 ?_
    refine E_imul dX11_comparator_22 (rgI (v1_5 (by omega))) ?_
    refine E_aload_n 0 0 dX11_comparator_23 rfl rfl ?_
    refine E_gR 107 3 dX11_comparator_24 FX11_19 ic_103 (by decide) ?_
    refine E_bipush dX11_comparator_27 (by decide) ?_
    refine E_iload_n 1 1 dX11_comparator_29 rfl rfl ?_
    refine E_imul dX11_comparator_30 (rgI (v1_2 (by omega))) ?_
    refine E_iload_n 2 2 dX11_comparator_31 rfl rfl ?_
    refine E_iadd dX11_comparator_32 (rgI (v1_3 (by omega))) ?_
    refine E_iaload dX11_comparator_33 ic_107 (v1_4 (by omega)).1 (v1_4 (by omega)).2 ?_
    refine E_iadd dX11_comparator_34 (rgI (v1_6 (by omega))) ?_
    refine E_goto 39 dX11_comparator_35 rfl ?_
    exact E_top (by first | exact (if_pos (by omega)).symm | exact (if_neg (by omega)).symm | (repeat first | rw [if_pos (by omega)] | rw [if_neg (by omega)])) hJ
theorem dX11_puts_0 : decode prog_13_method_12_code 0 = .ok (.bipush 40, 2) := by decide +kernel
theorem dX11_puts_2 : decode prog_13_method_12_code 2 = .ok (.iload_n 1, 1) := by decide +kernel
theorem dX11_puts_3 : decode prog_13_method_12_code 3 = .ok (.imul, 1) := by decide +kernel
theorem dX11_puts_4 : decode prog_13_method_12_code 4 = .ok (.aload_n 0, 1) := by decide +kernel
theorem dX11_puts_5 : decode prog_13_method_12_code 5 = .ok (.getfield 13, 3) := by decide +kernel
theorem dX11_puts_8 : decode prog_13_method_12_code 8 = .ok (.iload_n 1, 1) := by decide +kernel
theorem dX11_puts_9 : decode prog_13_method_12_code 9 = .ok (.iaload, 1) := by decide +kernel
theorem dX11_puts_10 : decode prog_13_method_12_code 10 = .ok (.iadd, 1) := by decide +kernel
theorem dX11_puts_11 : decode prog_13_method_12_code 11 = .ok (.istore 5, 2) := by decide +kernel
theorem dX11_puts_13 : decode prog_13_method_12_code 13 = .ok (.iload 5, 2) := by decide +kernel
theorem dX11_puts_15 : decode prog_13_method_12_code 15 = .ok (.bipush 40, 2) := by decide +kernel
theorem dX11_puts_17 : decode prog_13_method_12_code 17 = .ok (.iload_n 1, 1) := by decide +kernel
theorem dX11_puts_18 : decode prog_13_method_12_code 18 = .ok (.imul, 1) := by decide +kernel
theorem dX11_puts_19 : decode prog_13_method_12_code 19 = .ok (.iload_n 2, 1) := by decide +kernel
theorem dX11_puts_20 : decode prog_13_method_12_code 20 = .ok (.iadd, 1) := by decide +kernel
theorem dX11_puts_21 : decode prog_13_method_12_code 21 = .ok (.if_icmp .le 41, 3) := by decide +kernel
theorem dX11_puts_24 : decode prog_13_method_12_code 24 = .ok (.aload_n 0, 1) := by decide +kernel
theorem dX11_puts_25 : decode prog_13_method_12_code 25 = .ok (.getfield 16, 3) := by decide +kernel
theorem dX11_puts_28 : decode prog_13_method_12_code 28 = .ok (.iload 5, 2) := by decide +kernel
theorem dX11_puts_30 : decode prog_13_method_12_code 30 = .ok (.aload_n 0, 1) := by decide +kernel
theorem dX11_puts_31 : decode prog_13_method_12_code 31 = .ok (.getfield 16, 3) := by decide +kernel
theorem dX11_puts_34 : decode prog_13_method_12_code 34 = .ok (.iload 5, 2) := by decide +kernel
theorem dX11_puts_36 : decode prog_13_method_12_code 36 = .ok (.iconst 1, 1) := by decide +kernel
theorem dX11_puts_37 : decode prog_13_method_12_code 37 = .ok (.isub, 1) := by decide +kernel
theorem dX11_puts_38 : decode prog_13_method_12_code 38 = .ok (.iaload, 1) := by decide +kernel
theorem dX11_puts_39 : decode prog_13_method_12_code 39 = .ok (.iastore, 1) := by decide +kernel
theorem dX11_puts_40 : decode prog_13_method_12_code 40 = .ok (.aload_n 0, 1) := by decide +kernel
theorem dX11_puts_41 : decode prog_13_method_12_code 41 = .ok (.getfield 19, 3) := by decide +kernel
theorem dX11_puts_44 : decode prog_13_method_12_code 44 = .ok (.iload 5, 2) := by decide +kernel
theorem dX11_puts_46 : decode prog_13_method_12_code 46 = .ok (.aload_n 0, 1) := by decide +kernel
theorem dX11_puts_47 : decode prog_13_method_12_code 47 = .ok (.getfield 19, 3) := by decide +kernel
theorem dX11_puts_50 : decode prog_13_method_12_code 50 = .ok (.iload 5, 2) := by decide +kernel
theorem dX11_puts_52 : decode prog_13_method_12_code 52 = .ok (.iconst 1, 1) := by decide +kernel
theorem dX11_puts_53 : decode prog_13_method_12_code 53 = .ok (.isub, 1) := by decide +kernel
theorem dX11_puts_54 : decode prog_13_method_12_code 54 = .ok (.iaload, 1) := by decide +kernel
theorem dX11_puts_55 : decode prog_13_method_12_code 55 = .ok (.iastore, 1) := by decide +kernel
theorem dX11_puts_56 : decode prog_13_method_12_code 56 = .ok (.iinc 5 (-1), 3) := by decide +kernel
theorem dX11_puts_59 : decode prog_13_method_12_code 59 = .ok (.goto (-46), 3) := by decide +kernel
theorem dX11_puts_62 : decode prog_13_method_12_code 62 = .ok (.aload_n 0, 1) := by decide +kernel
theorem dX11_puts_63 : decode prog_13_method_12_code 63 = .ok (.getfield 16, 3) := by decide +kernel
theorem dX11_puts_66 : decode prog_13_method_12_code 66 = .ok (.bipush 40, 2) := by decide +kernel
theorem dX11_puts_68 : decode prog_13_method_12_code 68 = .ok (.iload_n 1, 1) := by decide +kernel
theorem dX11_puts_69 : decode prog_13_method_12_code 69 = .ok (.imul, 1) := by decide +kernel
theorem dX11_puts_70 : decode prog_13_method_12_code 70 = .ok (.iload_n 2, 1) := by decide +kernel
theorem dX11_puts_71 : decode prog_13_method_12_code 71 = .ok (.iadd, 1) := by decide +kernel
theorem dX11_puts_72 : decode prog_13_method_12_code 72 = .ok (.iload_n 3, 1) := by decide +kernel
theorem dX11_puts_73 : decode prog_13_method_12_code 73 = .ok (.iastore, 1) := by decide +kernel
theorem dX11_puts_74 : decode prog_13_method_12_code 74 = .ok (.aload_n 0, 1) := by decide +kernel
theorem dX11_puts_75 : decode prog_13_method_12_code 75 = .ok (.getfield 19, 3) := by decide +kernel
theorem dX11_puts_78 : decode prog_13_method_12_code 78 = .ok (.bipush 40, 2) := by decide +kernel
theorem dX11_puts_80 : decode prog_13_method_12_code 80 = .ok (.iload_n 1, 1) := by decide +kernel
theorem dX11_puts_81 : decode prog_13_method_12_code 81 = .ok (.imul, 1) := by decide +kernel
theorem dX11_puts_82 : decode prog_13_method_12_code 82 = .ok (.iload_n 2, 1) := by decide +kernel
theorem dX11_puts_83 : decode prog_13_method_12_code 83 = .ok (.iadd, 1) := by decide +kernel
theorem dX11_puts_84 : decode prog_13_method_12_code 84 = .ok (.iload 4, 2) := by decide +kernel
theorem dX11_puts_86 : decode prog_13_method_12_code 86 = .ok (.iastore, 1) := by decide +kernel
theorem dX11_puts_87 : decode prog_13_method_12_code 87 = .ok (.aload_n 0, 1) := by decide +kernel
theorem dX11_puts_88 : decode prog_13_method_12_code 88 = .ok (.getfield 13, 3) := by decide +kernel
theorem dX11_puts_91 : decode prog_13_method_12_code 91 = .ok (.iload_n 1, 1) := by decide +kernel
theorem dX11_puts_92 : decode prog_13_method_12_code 92 = .ok (.dup2, 1) := by decide +kernel
theorem dX11_puts_93 : decode prog_13_method_12_code 93 = .ok (.iaload, 1) := by decide +kernel
theorem dX11_puts_94 : decode prog_13_method_12_code 94 = .ok (.iconst 1, 1) := by decide +kernel
theorem dX11_puts_95 : decode prog_13_method_12_code 95 = .ok (.iadd, 1) := by decide +kernel
theorem dX11_puts_96 : decode prog_13_method_12_code 96 = .ok (.iastore, 1) := by decide +kernel
theorem dX11_puts_97 : decode prog_13_method_12_code 97 = .ok (.return_, 1) := by decide +kernel
theorem sX11_puts_62 {Q : Hp → Prop} {h : Hp} {l1 l2 l3 l4 : Int}
    (hP : (rj (40 * l1) ∧ rj ((40 * l1) + l2) ∧ ix ((40 * l1) + l2) 160 ∧ ix l1 4 ∧ rj ((h 105 l1) + 1)) ∧
    Q (up (up (up h 106 ((40 * l1) + l2) l3) 107 ((40 * l1) + l2) l4) 105 l1 ((h 105 l1) + 1))) :
    E 0 mX11_puts 62 [(0, vr 103), (1, vi l1), (2, vi l2), (3, vi l3), (4, vi l4)] [] h (qv Q) := by
  obtain ⟨⟨v1_0, v1_1, v1_2, v1_3, v1_4⟩, hP⟩ := hP
  refine E_aload_n 0 0 dX11_puts_62 rfl rfl ?_
  refine E_gR 106 2 dX11_puts_63 FX11_16 ic_103 (by decide) ?_
  refine E_bipush dX11_puts_66 (by decide) ?_
  refine E_iload_n 1 1 dX11_puts_68 rfl rfl ?_
  refine E_imul dX11_puts_69 (rgI v1_0) ?_
  refine E_iload_n 2 2 dX11_puts_70 rfl rfl ?_
  refine E_iadd dX11_puts_71 (rgI v1_1) ?_
  refine E_iload_n 3 3 dX11_puts_72 rfl rfl ?_
  refine E_iastore dX11_puts_73 ic_106 v1_2.1 v1_2.2 ?_
  refine E_aload_n 0 0 dX11_puts_74 rfl rfl ?_
  refine E_gR 107 3 dX11_puts_75 FX11_19 ic_103 (by decide) ?_
  refine E_bipush dX11_puts_78 (by decide) ?_
  refine E_iload_n 1 1 dX11_puts_80 rfl rfl ?_
  refine E_imul dX11_puts_81 (rgI v1_0) ?_
  refine E_iload_n 2 2 dX11_puts_82 rfl rfl ?_
  refine E_iadd dX11_puts_83 (rgI v1_1) ?_
  refine E_iload 4 dX11_puts_84 rfl ?_
  refine E_iastore dX11_puts_86 ic_107 v1_2.1 v1_2.2 ?_
  refine E_aload_n 0 0 dX11_puts_87 rfl rfl ?_
  refine E_gR 105 1 dX11_puts_88 FX11_13 ic_103 (by decide) ?_
  refine E_iload_n 1 1 dX11_puts_91 rfl rfl ?_
  refine E_dup2 dX11_puts_92 rfl rfl ?_
  refine E_iaload dX11_puts_93 ic_105 v1_3.1 v1_3.2 ?_
  refine E_top (y := (h 105 l1)) (by simp [up]) ?_
  refine E_iconst dX11_puts_94 (rg_of rfl) ?_
  refine E_iadd dX11_puts_95 (rgI v1_4) ?_
  refine E_iastore dX11_puts_96 ic_105 v1_3.1 v1_3.2 ?_
  exact E_retV dX11_puts_97 rfl hP
theorem sX11_puts_13 {Q : Hp → Prop} {h : Hp} {l1 l2 l3 l4 l5 : Int}
    (hP : (rj (40 * l1) ∧ rj ((40 * l1) + l2)) ∧
    ((l5 ≤ ((40 * l1) + l2)) →
     E 0 mX11_puts 62 [(0, vr 103), (1, vi l1), (2, vi l2), (3, vi l3), (4, vi l4)] [] h (qv Q)) ∧
    ((l5 > ((40 * l1) + l2)) →
     (rj (l5 - 1) ∧ ix (l5 - 1) 160 ∧ ix l5 160 ∧ rj (l5 + (-1))) ∧
     E 0 mX11_puts 13 [(0, vr 103), (1, vi l1), (2, vi l2), (3, vi l3), (4, vi l4), (5, vi (l5 + (-1)))] [] (up (up h 106 l5 (h 106 (l5 - 1))) 107 l5 (h 107 (l5 - 1))) (qv Q))) :
    E 0 mX11_puts 13 [(0, vr 103), (1, vi l1), (2, vi l2), (3, vi l3), (4, vi l4), (5, vi l5)] [] h (qv Q) := by
  obtain ⟨⟨v1_0, v1_1⟩, hP⟩ := hP
  refine E_iload 5 dX11_puts_13 rfl ?_
  refine E_bipush dX11_puts_15 (by decide) ?_
  refine E_iload_n 1 1 dX11_puts_17 rfl rfl ?_
  refine E_imul dX11_puts_18 (rgI v1_0) ?_
  refine E_iload_n 2 2 dX11_puts_19 rfl rfl ?_
  refine E_iadd dX11_puts_20 (rgI v1_1) ?_
  refine E_icmp_le 62 dX11_puts_21 rfl (fun hc => ?_) (fun hc => ?_)
  · replace hP := hP.1 (hc)
    exact E_sub [0, 1, 2, 3, 4] rfl hP
  · replace hP := hP.2 (by omega)
    obtain ⟨⟨v3_0, v3_1, v3_2, v3_3⟩, hP⟩ := hP
    refine E_aload_n 0 0 dX11_puts_24 rfl rfl ?_
    refine E_gR 106 2 dX11_puts_25 FX11_16 ic_103 (by decide) ?_
    refine E_iload 5 dX11_puts_28 rfl ?_
    refine E_aload_n 0 0 dX11_puts_30 rfl rfl ?_
    refine E_gR 106 2 dX11_puts_31 FX11_16 ic_103 (by decide) ?_
    refine E_iload 5 dX11_puts_34 rfl ?_
    refine E_iconst dX11_puts_36 (rg_of rfl) ?_
    refine E_isub dX11_puts_37 (rgI v3_0) ?_
    refine E_iaload dX11_puts_38 ic_106 v3_1.1 v3_1.2 ?_
    refine E_iastore dX11_puts_39 ic_106 v3_2.1 v3_2.2 ?_
    refine E_aload_n 0 0 dX11_puts_40 rfl rfl ?_
    refine E_gR 107 3 dX11_puts_41 FX11_19 ic_103 (by decide) ?_
    refine E_iload 5 dX11_puts_44 rfl ?_
    refine E_aload_n 0 0 dX11_puts_46 rfl rfl ?_
    refine E_gR 107 3 dX11_puts_47 FX11_19 ic_103 (by decide) ?_
    refine E_iload 5 dX11_puts_50 rfl ?_
    refine E_iconst dX11_puts_52 (rg_of rfl) ?_
    refine E_isub dX11_puts_53 (rgI v3_0) ?_
    refine E_iaload dX11_puts_54 ic_107 v3_1.1 v3_1.2 ?_
    refine E_top (y := (h 107 (l5 - 1))) (by simp [up]) ?_
    refine E_iastore dX11_puts_55 ic_107 v3_2.1 v3_2.2 ?_
    refine E_iinc 5 dX11_puts_56 rfl (rgI v3_3) (by decide) rfl ?_
    refine E_goto 13 dX11_puts_59 rfl ?_
    exact E_sub [1, 2, 3, 4, 5, 0] rfl hP
theorem sX11_puts {Q : Hp → Prop} {h : Hp} {l1 l2 l3 l4 : Int}
    (hP : (rj (40 * l1) ∧ ix l1 4 ∧ rj ((40 * l1) + (h 105 l1))) ∧
    E 0 mX11_puts 13 [(0, vr 103), (1, vi l1), (2, vi l2), (3, vi l3), (4, vi l4), (5, vi ((40 * l1) + (h 105 l1)))] [] h (qv Q)) :
    CV 0 mX11_puts [vr 103, vi l1, vi l2, vi l3, vi l4] h Q := by
  refine CV_of_E fX11_puts.1 rfl (Nat.le_of_ble_eq_true rfl) ?_
  show E 0 mX11_puts 0 [(0, vr 103), (1, vi l1), (2, vi l2), (3, vi l3), (4, vi l4)] [] h (qv Q)
  obtain ⟨⟨v1_0, v1_1, v1_2⟩, hP⟩ := hP
  refine E_bipush dX11_puts_0 (by decide) ?_
  refine E_iload_n 1 1 dX11_puts_2 rfl rfl ?_
  refine E_imul dX11_puts_3 (rgI v1_0) ?_
  refine E_aload_n 0 0 dX11_puts_4 rfl rfl ?_
  refine E_gR 105 1 dX11_puts_5 FX11_13 ic_103 (by decide) ?_
  refine E_iload_n 1 1 dX11_puts_8 rfl rfl ?_
  refine E_iaload dX11_puts_9 ic_105 v1_1.1 v1_1.2 ?_
  refine E_iadd dX11_puts_10 (rgI v1_2) ?_
  refine E_istore dX11_puts_11 (by decide) rfl ?_
  exact E_sub [1, 2, 3, 4, 5, 0] rfl hP
theorem dX11_takes_0 : decode prog_13_method_13_code 0 = .ok (.aload_n 0, 1) := by decide +kernel
theorem dX11_takes_1 : decode prog_13_method_13_code 1 = .ok (.getfield 13, 3) := by decide +kernel
theorem dX11_takes_4 : decode prog_13_method_13_code 4 = .ok (.iload_n 1, 1) := by decide +kernel
theorem dX11_takes_5 : decode prog_13_method_13_code 5 = .ok (.dup2, 1) := by decide +kernel
theorem dX11_takes_6 : decode prog_13_method_13_code 6 = .ok (.iaload, 1) := by decide +kernel
theorem dX11_takes_7 : decode prog_13_method_13_code 7 = .ok (.iconst 1, 1) := by decide +kernel
theorem dX11_takes_8 : decode prog_13_method_13_code 8 = .ok (.isub, 1) := by decide +kernel
theorem dX11_takes_9 : decode prog_13_method_13_code 9 = .ok (.iastore, 1) := by decide +kernel
theorem dX11_takes_10 : decode prog_13_method_13_code 10 = .ok (.bipush 40, 2) := by decide +kernel
theorem dX11_takes_12 : decode prog_13_method_13_code 12 = .ok (.iload_n 1, 1) := by decide +kernel
theorem dX11_takes_13 : decode prog_13_method_13_code 13 = .ok (.imul, 1) := by decide +kernel
theorem dX11_takes_14 : decode prog_13_method_13_code 14 = .ok (.iload_n 2, 1) := by decide +kernel
theorem dX11_takes_15 : decode prog_13_method_13_code 15 = .ok (.iadd, 1) := by decide +kernel
theorem dX11_takes_16 : decode prog_13_method_13_code 16 = .ok (.istore_n 3, 1) := by decide +kernel
theorem dX11_takes_17 : decode prog_13_method_13_code 17 = .ok (.iload_n 3, 1) := by decide +kernel
theorem dX11_takes_18 : decode prog_13_method_13_code 18 = .ok (.bipush 40, 2) := by decide +kernel
theorem dX11_takes_20 : decode prog_13_method_13_code 20 = .ok (.iload_n 1, 1) := by decide +kernel
theorem dX11_takes_21 : decode prog_13_method_13_code 21 = .ok (.imul, 1) := by decide +kernel
theorem dX11_takes_22 : decode prog_13_method_13_code 22 = .ok (.aload_n 0, 1) := by decide +kernel
theorem dX11_takes_23 : decode prog_13_method_13_code 23 = .ok (.getfield 13, 3) := by decide +kernel
theorem dX11_takes_26 : decode prog_13_method_13_code 26 = .ok (.iload_n 1, 1) := by decide +kernel
theorem dX11_takes_27 : decode prog_13_method_13_code 27 = .ok (.iaload, 1) := by decide +kernel
theorem dX11_takes_28 : decode prog_13_method_13_code 28 = .ok (.iadd, 1) := by decide +kernel
theorem dX11_takes_29 : decode prog_13_method_13_code 29 = .ok (.if_icmp .ge 37, 3) := by decide +kernel
theorem dX11_takes_32 : decode prog_13_method_13_code 32 = .ok (.aload_n 0, 1) := by decide +kernel
theorem dX11_takes_33 : decode prog_13_method_13_code 33 = .ok (.getfield 16, 3) := by decide +kernel
theorem dX11_takes_36 : decode prog_13_method_13_code 36 = .ok (.iload_n 3, 1) := by decide +kernel
theorem dX11_takes_37 : decode prog_13_method_13_code 37 = .ok (.aload_n 0, 1) := by decide +kernel
theorem dX11_takes_38 : decode prog_13_method_13_code 38 = .ok (.getfield 16, 3) := by decide +kernel
theorem dX11_takes_41 : decode prog_13_method_13_code 41 = .ok (.iload_n 3, 1) := by decide +kernel
theorem dX11_takes_42 : decode prog_13_method_13_code 42 = .ok (.iconst 1, 1) := by decide +kernel
theorem dX11_takes_43 : decode prog_13_method_13_code 43 = .ok (.iadd, 1) := by decide +kernel
theorem dX11_takes_44 : decode prog_13_method_13_code 44 = .ok (.iaload, 1) := by decide +kernel
theorem dX11_takes_45 : decode prog_13_method_13_code 45 = .ok (.iastore, 1) := by decide +kernel
theorem dX11_takes_46 : decode prog_13_method_13_code 46 = .ok (.aload_n 0, 1) := by decide +kernel
theorem dX11_takes_47 : decode prog_13_method_13_code 47 = .ok (.getfield 19, 3) := by decide +kernel
theorem dX11_takes_50 : decode prog_13_method_13_code 50 = .ok (.iload_n 3, 1) := by decide +kernel
theorem dX11_takes_51 : decode prog_13_method_13_code 51 = .ok (.aload_n 0, 1) := by decide +kernel
theorem dX11_takes_52 : decode prog_13_method_13_code 52 = .ok (.getfield 19, 3) := by decide +kernel
theorem dX11_takes_55 : decode prog_13_method_13_code 55 = .ok (.iload_n 3, 1) := by decide +kernel
theorem dX11_takes_56 : decode prog_13_method_13_code 56 = .ok (.iconst 1, 1) := by decide +kernel
theorem dX11_takes_57 : decode prog_13_method_13_code 57 = .ok (.iadd, 1) := by decide +kernel
theorem dX11_takes_58 : decode prog_13_method_13_code 58 = .ok (.iaload, 1) := by decide +kernel
theorem dX11_takes_59 : decode prog_13_method_13_code 59 = .ok (.iastore, 1) := by decide +kernel
theorem dX11_takes_60 : decode prog_13_method_13_code 60 = .ok (.iinc 3 1, 3) := by decide +kernel
theorem dX11_takes_63 : decode prog_13_method_13_code 63 = .ok (.goto (-46), 3) := by decide +kernel
theorem dX11_takes_66 : decode prog_13_method_13_code 66 = .ok (.return_, 1) := by decide +kernel
theorem sX11_takes_17 {Q : Hp → Prop} {h : Hp} {l1 l3 : Int}
    (hP : (rj (40 * l1) ∧ ix l1 4 ∧ rj ((40 * l1) + (h 105 l1))) ∧
    ((l3 ≥ ((40 * l1) + (h 105 l1))) →
     Q h) ∧
    ((l3 < ((40 * l1) + (h 105 l1))) →
     (rj (l3 + 1) ∧ ix (l3 + 1) 160 ∧ ix l3 160) ∧
     E 0 mX11_takes 17 [(0, vr 103), (1, vi l1), (3, vi (l3 + 1))] [] (up (up h 106 l3 (h 106 (l3 + 1))) 107 l3 (h 107 (l3 + 1))) (qv Q))) :
    E 0 mX11_takes 17 [(0, vr 103), (1, vi l1), (3, vi l3)] [] h (qv Q) := by
  obtain ⟨⟨v1_0, v1_1, v1_2⟩, hP⟩ := hP
  refine E_iload_n 2 3 dX11_takes_17 rfl rfl ?_
  refine E_bipush dX11_takes_18 (by decide) ?_
  refine E_iload_n 1 1 dX11_takes_20 rfl rfl ?_
  refine E_imul dX11_takes_21 (rgI v1_0) ?_
  refine E_aload_n 0 0 dX11_takes_22 rfl rfl ?_
  refine E_gR 105 1 dX11_takes_23 FX11_13 ic_103 (by decide) ?_
  refine E_iload_n 1 1 dX11_takes_26 rfl rfl ?_
  refine E_iaload dX11_takes_27 ic_105 v1_1.1 v1_1.2 ?_
  refine E_iadd dX11_takes_28 (rgI v1_2) ?_
  refine E_icmp_ge 66 dX11_takes_29 rfl (fun hc => ?_) (fun hc => ?_)
  · replace hP := hP.1 (hc)
    exact E_retV dX11_takes_66 rfl hP
  · replace hP := hP.2 (by omega)
    obtain ⟨⟨v3_0, v3_1, v3_2⟩, hP⟩ := hP
    refine E_aload_n 0 0 dX11_takes_32 rfl rfl ?_
    refine E_gR 106 2 dX11_takes_33 FX11_16 ic_103 (by decide) ?_
    refine E_iload_n 2 3 dX11_takes_36 rfl rfl ?_
    refine E_aload_n 0 0 dX11_takes_37 rfl rfl ?_
    refine E_gR 106 2 dX11_takes_38 FX11_16 ic_103 (by decide) ?_
    refine E_iload_n 2 3 dX11_takes_41 rfl rfl ?_
    refine E_iconst dX11_takes_42 (rg_of rfl) ?_
    refine E_iadd dX11_takes_43 (rgI v3_0) ?_
    refine E_iaload dX11_takes_44 ic_106 v3_1.1 v3_1.2 ?_
    refine E_iastore dX11_takes_45 ic_106 v3_2.1 v3_2.2 ?_
    refine E_aload_n 0 0 dX11_takes_46 rfl rfl ?_
    refine E_gR 107 3 dX11_takes_47 FX11_19 ic_103 (by decide) ?_
    refine E_iload_n 2 3 dX11_takes_50 rfl rfl ?_
    refine E_aload_n 0 0 dX11_takes_51 rfl rfl ?_
    refine E_gR 107 3 dX11_takes_52 FX11_19 ic_103 (by decide) ?_
    refine E_iload_n 2 3 dX11_takes_55 rfl rfl ?_
    refine E_iconst dX11_takes_56 (rg_of rfl) ?_
    refine E_iadd dX11_takes_57 (rgI v3_0) ?_
    refine E_iaload dX11_takes_58 ic_107 v3_1.1 v3_1.2 ?_
    refine E_top (y := (h 107 (l3 + 1))) (by simp [up]) ?_
    refine E_iastore dX11_takes_59 ic_107 v3_2.1 v3_2.2 ?_
    refine E_iinc 2 dX11_takes_60 rfl (rgI v3_0) (by decide) rfl ?_
    refine E_goto 17 dX11_takes_63 rfl ?_
    exact E_sub [1, 2, 0] rfl hP
theorem sX11_takes {Q : Hp → Prop} {h : Hp} {l1 l2 : Int}
    (hP : (ix l1 4 ∧ rj ((h 105 l1) - 1) ∧ rj (40 * l1) ∧ rj ((40 * l1) + l2)) ∧
    E 0 mX11_takes 17 [(0, vr 103), (1, vi l1), (3, vi ((40 * l1) + l2))] [] (up h 105 l1 ((h 105 l1) - 1)) (qv Q)) :
    CV 0 mX11_takes [vr 103, vi l1, vi l2] h Q := by
  refine CV_of_E fX11_takes.1 rfl (Nat.le_of_ble_eq_true rfl) ?_
  show E 0 mX11_takes 0 [(0, vr 103), (1, vi l1), (2, vi l2)] [] h (qv Q)
  obtain ⟨⟨v1_0, v1_1, v1_2, v1_3⟩, hP⟩ := hP
  refine E_aload_n 0 0 dX11_takes_0 rfl rfl ?_
  refine E_gR 105 1 dX11_takes_1 FX11_13 ic_103 (by decide) ?_
  refine E_iload_n 1 1 dX11_takes_4 rfl rfl ?_
  refine E_dup2 dX11_takes_5 rfl rfl ?_
  refine E_iaload dX11_takes_6 ic_105 v1_0.1 v1_0.2 ?_
  refine E_iconst dX11_takes_7 (rg_of rfl) ?_
  refine E_isub dX11_takes_8 (rgI v1_1) ?_
  refine E_iastore dX11_takes_9 ic_105 v1_0.1 v1_0.2 ?_
  refine E_bipush dX11_takes_10 (by decide) ?_
  refine E_iload_n 1 1 dX11_takes_12 rfl rfl ?_
  refine E_imul dX11_takes_13 (rgI v1_2) ?_
  refine E_iload_n 2 2 dX11_takes_14 rfl rfl ?_
  refine E_iadd dX11_takes_15 (rgI v1_3) ?_
  refine E_istore_n dX11_takes_16 rfl (by decide) rfl ?_
  exact E_sub [1, 2, 0] rfl hP
theorem dX11_insert_0 : decode prog_13_method_15_code 0 = .ok (.iload_n 1, 1) := by decide +kernel
theorem dX11_insert_1 : decode prog_13_method_15_code 1 = .ok (.invokestatic 88, 3) := by decide +kernel
theorem dX11_insert_4 : decode prog_13_method_15_code 4 = .ok (.ifCond .eq 36, 3) := by decide +kernel
theorem dX11_insert_7 : decode prog_13_method_15_code 7 = .ok (.iload_n 2, 1) := by decide +kernel
theorem dX11_insert_8 : decode prog_13_method_15_code 8 = .ok (.iconst 0, 1) := by decide +kernel
theorem dX11_insert_9 : decode prog_13_method_15_code 9 = .ok (.aload_n 0, 1) := by decide +kernel
theorem dX11_insert_10 : decode prog_13_method_15_code 10 = .ok (.getfield 13, 3) := by decide +kernel
theorem dX11_insert_13 : decode prog_13_method_15_code 13 = .ok (.iload_n 1, 1) := by decide +kernel
theorem dX11_insert_14 : decode prog_13_method_15_code 14 = .ok (.iaload, 1) := by decide +kernel
theorem dX11_insert_15 : decode prog_13_method_15_code 15 = .ok (.invokestatic 80, 3) := by decide +kernel
theorem dX11_insert_18 : decode prog_13_method_15_code 18 = .ok (.ifCond .eq 22, 3) := by decide +kernel
theorem dX11_insert_21 : decode prog_13_method_15_code 21 = .ok (.aload_n 0, 1) := by decide +kernel
theorem dX11_insert_22 : decode prog_13_method_15_code 22 = .ok (.iload_n 1, 1) := by decide +kernel
theorem dX11_insert_23 : decode prog_13_method_15_code 23 = .ok (.iload_n 3, 1) := by decide +kernel
theorem dX11_insert_24 : decode prog_13_method_15_code 24 = .ok (.invokevirtual 103, 3) := by decide +kernel
theorem dX11_insert_27 : decode prog_13_method_15_code 27 = .ok (.ifCond .eq 13, 3) := by decide +kernel
theorem dX11_insert_30 : decode prog_13_method_15_code 30 = .ok (.aload_n 0, 1) := by decide +kernel
theorem dX11_insert_31 : decode prog_13_method_15_code 31 = .ok (.iload_n 1, 1) := by decide +kernel
theorem dX11_insert_32 : decode prog_13_method_15_code 32 = .ok (.iload 4, 2) := by decide +kernel
theorem dX11_insert_34 : decode prog_13_method_15_code 34 = .ok (.invokevirtual 103, 3) := by decide +kernel
theorem dX11_insert_37 : decode prog_13_method_15_code 37 = .ok (.ifCond .ne 5, 3) := by decide +kernel
theorem dX11_insert_40 : decode prog_13_method_15_code 40 = .ok (.iconst (-1), 1) := by decide +kernel
theorem dX11_insert_41 : decode prog_13_method_15_code 41 = .ok (.ireturn, 1) := by decide +kernel
theorem dX11_insert_42 : decode prog_13_method_15_code 42 = .ok (.iload_n 3, 1) := by decide +kernel
theorem dX11_insert_43 : decode prog_13_method_15_code 43 = .ok (.iload 4, 2) := by decide +kernel
theorem dX11_insert_45 : decode prog_13_method_15_code 45 = .ok (.if_icmp .ne 6, 3) := by decide +kernel
theorem dX11_insert_48 : decode prog_13_method_15_code 48 = .ok (.bipush (-2), 2) := by decide +kernel
theorem dX11_insert_50 : decode prog_13_method_15_code 50 = .ok (.ireturn, 1) := by decide +kernel
theorem dX11_insert_51 : decode prog_13_method_15_code 51 = .ok (.aload_n 0, 1) := by decide +kernel
theorem dX11_insert_52 : decode prog_13_method_15_code 52 = .ok (.getfield 13, 3) := by decide +kernel
theorem dX11_insert_55 : decode prog_13_method_15_code 55 = .ok (.iload_n 1, 1) := by decide +kernel
theorem dX11_insert_56 : decode prog_13_method_15_code 56 = .ok (.iaload, 1) := by decide +kernel
theorem dX11_insert_57 : decode prog_13_method_15_code 57 = .ok (.bipush 40, 2) := by decide +kernel
theorem dX11_insert_59 : decode prog_13_method_15_code 59 = .ok (.if_icmp .ne 6, 3) := by decide +kernel
theorem dX11_insert_62 : decode prog_13_method_15_code 62 = .ok (.bipush (-3), 2) := by decide +kernel
theorem dX11_insert_64 : decode prog_13_method_15_code 64 = .ok (.ireturn, 1) := by decide +kernel
theorem dX11_insert_65 : decode prog_13_method_15_code 65 = .ok (.aload_n 0, 1) := by decide +kernel
theorem dX11_insert_66 : decode prog_13_method_15_code 66 = .ok (.invokevirtual 92, 3) := by decide +kernel
theorem dX11_insert_69 : decode prog_13_method_15_code 69 = .ok (.aload_n 0, 1) := by decide +kernel
theorem dX11_insert_70 : decode prog_13_method_15_code 70 = .ok (.iload_n 1, 1) := by decide +kernel
theorem dX11_insert_71 : decode prog_13_method_15_code 71 = .ok (.iload_n 2, 1) := by decide +kernel
theorem dX11_insert_72 : decode prog_13_method_15_code 72 = .ok (.iload_n 3, 1) := by decide +kernel
theorem dX11_insert_73 : decode prog_13_method_15_code 73 = .ok (.iload 4, 2) := by decide +kernel
theorem dX11_insert_75 : decode prog_13_method_15_code 75 = .ok (.invokevirtual 106, 3) := by decide +kernel
theorem dX11_insert_78 : decode prog_13_method_15_code 78 = .ok (.aload_n 0, 1) := by decide +kernel
theorem dX11_insert_79 : decode prog_13_method_15_code 79 = .ok (.getfield 13, 3) := by decide +kernel
theorem dX11_insert_82 : decode prog_13_method_15_code 82 = .ok (.iload_n 1, 1) := by decide +kernel
theorem dX11_insert_83 : decode prog_13_method_15_code 83 = .ok (.iaload, 1) := by decide +kernel
theorem dX11_insert_84 : decode prog_13_method_15_code 84 = .ok (.ireturn, 1) := by decide +kernel
theorem sX11_insert {Q : Int → Hp → Prop} {h : Hp} {l1 l2 l3 l4 : Int}
    (hP : ((l1 < 0 ∨ l1 > 3) →
     Q (-1) h) ∧
    ((l1 ≥ 0 ∧ l1 ≤ 3) →
     (ix l1 4) ∧
     ((l2 < 0 ∨ l2 > (h 105 l1)) →
      Q (-1) h) ∧
     ((l2 ≥ 0 ∧ l2 ≤ (h 105 l1)) →
      (ix l1 4 ∧ rj ((h 104 l1) - 1)) ∧
      ((l3 < 0 ∨ l3 > ((h 104 l1) - 1)) →
       Q (-1) h) ∧
      ((l3 ≥ 0 ∧ l3 ≤ ((h 104 l1) - 1)) →
       (ix l1 4 ∧ rj ((h 104 l1) - 1)) ∧
       ((l4 ≥ 0 ∧ l4 ≤ ((h 104 l1) - 1)) →
        ((l3 ≠ l4) →
         (ix l1 4) ∧
         (((h 105 l1) ≠ 40) →
          CV 0 mX11_remembers [vr 103] h (fun h11 =>
           CV 0 mX11_puts [vr 103, vi l1, vi l2, vi l3, vi l4] h11 (fun h13 =>
            (ix l1 4) ∧
            Q (h13 105 l1) h13))) ∧
         (((h 105 l1) = 40) →
          Q (-3) h)) ∧
        ((l3 = l4) →
         Q (-2) h)) ∧
       ((l4 < 0 ∨ l4 > ((h 104 l1) - 1)) →
        Q (-1) h))))) :
    CI 2 mX11_insert [vr 103, vi l1, vi l2, vi l3, vi l4] h Q := by
  refine CI_of_E fX11_insert.1 rfl (Nat.le_of_ble_eq_true rfl) ?_
  show E 2 mX11_insert 0 [(0, vr 103), (1, vi l1), (2, vi l2), (3, vi l3), (4, vi l4)] [] h (qi Q)
  refine E_iload_n 1 1 dX11_insert_0 rfl rfl ?_
  refine E_invSI [vi l1] dX11_insert_1 fX11_isNet lX11_88 (by decide) rfl rfl (Nat.le_of_ble_eq_true rfl) (sX11_isNet (h := h) (l0 := l1) ?_)
  refine E_if_eq 40 dX11_insert_4 rfl (fun hc => ?_) (fun hc => ?_)
  · replace hP := hP.1 (by have := ite0 hc; omega)
    refine E_iconst dX11_insert_40 (rg_of rfl) ?_
    exact E_retI dX11_insert_41 rfl hP
  · replace hP := hP.2 (by have := ite1 hc; omega)
    obtain ⟨v3_0, hP⟩ := hP
    refine E_iload_n 2 2 dX11_insert_7 rfl rfl ?_
    refine E_iconst dX11_insert_8 (rg_of rfl) ?_
    refine E_aload_n 0 0 dX11_insert_9 rfl rfl ?_
    refine E_gR 105 1 dX11_insert_10 FX11_13 ic_103 (by decide) ?_
    refine E_iload_n 1 1 dX11_insert_13 rfl rfl ?_
    refine E_iaload dX11_insert_14 ic_105 v3_0.1 v3_0.2 ?_
    refine E_invSI [vi l2, vi 0, vi (h 105 l1)] dX11_insert_15 fX11_isIn lX11_80 (by decide) rfl rfl (Nat.le_of_ble_eq_true rfl) (sX11_isIn (h := h) (l0 := l2) (l1 := 0) (l2 := (h 105 l1)) ?_)
    refine E_if_eq 40 dX11_insert_18 rfl (fun hc => ?_) (fun hc => ?_)
    · replace hP := hP.1 (by have := ite0 hc; omega)
      refine E_iconst dX11_insert_40 (rg_of rfl) ?_
      exact E_retI dX11_insert_41 rfl hP
    · replace hP := hP.2 (by have := ite1 hc; omega)
      obtain ⟨⟨v5_0, v5_1⟩, hP⟩ := hP
      refine E_aload_n 0 0 dX11_insert_21 rfl rfl ?_
      refine E_iload_n 1 1 dX11_insert_22 rfl rfl ?_
      refine E_iload_n 3 3 dX11_insert_23 rfl rfl ?_
      refine E_invVI [vi l1, vi l3] dX11_insert_24 fX11_isWire lX11_103 ic_103 rfl (by decide) rfl rfl (Nat.le_of_ble_eq_true rfl) (sX11_isWire (h := h) (l1 := l1) (l2 := l3) ⟨⟨v5_0, v5_1⟩, ?_⟩)
      refine E_if_eq 40 dX11_insert_27 rfl (fun hc => ?_) (fun hc => ?_)
      · replace hP := hP.1 (by have := ite0 hc; omega)
        refine E_iconst dX11_insert_40 (rg_of rfl) ?_
        exact E_retI dX11_insert_41 rfl hP
      · replace hP := hP.2 (by have := ite1 hc; omega)
        obtain ⟨⟨v7_0, v7_1⟩, hP⟩ := hP
        refine E_aload_n 0 0 dX11_insert_30 rfl rfl ?_
        refine E_iload_n 1 1 dX11_insert_31 rfl rfl ?_
        refine E_iload 4 dX11_insert_32 rfl ?_
        refine E_invVI [vi l1, vi l4] dX11_insert_34 fX11_isWire lX11_103 ic_103 rfl (by decide) rfl rfl (Nat.le_of_ble_eq_true rfl) (sX11_isWire (h := h) (l1 := l1) (l2 := l4) ⟨⟨v7_0, v7_1⟩, ?_⟩)
        refine E_if_ne 42 dX11_insert_37 rfl (fun hc => ?_) (fun hc => ?_)
        · replace hP := hP.1 (by have := ite1' hc; omega)
          refine E_iload_n 3 3 dX11_insert_42 rfl rfl ?_
          refine E_iload 4 dX11_insert_43 rfl ?_
          refine E_icmp_ne 51 dX11_insert_45 rfl (fun hc => ?_) (fun hc => ?_)
          · replace hP := hP.1 (hc)
            obtain ⟨v9_0, hP⟩ := hP
            refine E_aload_n 0 0 dX11_insert_51 rfl rfl ?_
            refine E_gR 105 1 dX11_insert_52 FX11_13 ic_103 (by decide) ?_
            refine E_iload_n 1 1 dX11_insert_55 rfl rfl ?_
            refine E_iaload dX11_insert_56 ic_105 v9_0.1 v9_0.2 ?_
            refine E_bipush dX11_insert_57 (by decide) ?_
            refine E_icmp_ne 65 dX11_insert_59 rfl (fun hc => ?_) (fun hc => ?_)
            · replace hP := hP.1 (hc)
              refine E_aload_n 0 0 dX11_insert_65 rfl rfl ?_
              refine E_invVV [] dX11_insert_66 fX11_remembers lX11_92 ic_103 rfl (by decide) rfl rfl (Nat.le_of_ble_eq_true rfl) (CV_mono hP (fun h11 hP => ?_))
              refine E_aload_n 0 0 dX11_insert_69 rfl rfl ?_
              refine E_iload_n 1 1 dX11_insert_70 rfl rfl ?_
              refine E_iload_n 2 2 dX11_insert_71 rfl rfl ?_
              refine E_iload_n 3 3 dX11_insert_72 rfl rfl ?_
              refine E_iload 4 dX11_insert_73 rfl ?_
              refine E_invVV [vi l1, vi l2, vi l3, vi l4] dX11_insert_75 fX11_puts lX11_106 ic_103 rfl (by decide) rfl rfl (Nat.le_of_ble_eq_true rfl) (CV_mono hP (fun h13 hP => ?_))
              obtain ⟨v14_0, hP⟩ := hP
              refine E_aload_n 0 0 dX11_insert_78 rfl rfl ?_
              refine E_gR 105 1 dX11_insert_79 FX11_13 ic_103 (by decide) ?_
              refine E_iload_n 1 1 dX11_insert_82 rfl rfl ?_
              refine E_iaload dX11_insert_83 ic_105 v14_0.1 v14_0.2 ?_
              exact E_retI dX11_insert_84 rfl hP
            · replace hP := hP.2 (by omega)
              refine E_bipush dX11_insert_62 (by decide) ?_
              exact E_retI dX11_insert_64 rfl hP
          · replace hP := hP.2 (by omega)
            refine E_bipush dX11_insert_48 (by decide) ?_
            exact E_retI dX11_insert_50 rfl hP
        · replace hP := hP.2 (by have := ite0 hc; omega)
          refine E_iconst dX11_insert_40 (rg_of rfl) ?_
          exact E_retI dX11_insert_41 rfl hP
theorem dX11_add_0 : decode prog_13_method_14_code 0 = .ok (.iload_n 1, 1) := by decide +kernel
theorem dX11_add_1 : decode prog_13_method_14_code 1 = .ok (.invokestatic 88, 3) := by decide +kernel
theorem dX11_add_4 : decode prog_13_method_14_code 4 = .ok (.ifCond .eq 19, 3) := by decide +kernel
theorem dX11_add_7 : decode prog_13_method_14_code 7 = .ok (.aload_n 0, 1) := by decide +kernel
theorem dX11_add_8 : decode prog_13_method_14_code 8 = .ok (.iload_n 1, 1) := by decide +kernel
theorem dX11_add_9 : decode prog_13_method_14_code 9 = .ok (.aload_n 0, 1) := by decide +kernel
theorem dX11_add_10 : decode prog_13_method_14_code 10 = .ok (.getfield 13, 3) := by decide +kernel
theorem dX11_add_13 : decode prog_13_method_14_code 13 = .ok (.iload_n 1, 1) := by decide +kernel
theorem dX11_add_14 : decode prog_13_method_14_code 14 = .ok (.iaload, 1) := by decide +kernel
theorem dX11_add_15 : decode prog_13_method_14_code 15 = .ok (.iload_n 2, 1) := by decide +kernel
theorem dX11_add_16 : decode prog_13_method_14_code 16 = .ok (.iload_n 3, 1) := by decide +kernel
theorem dX11_add_17 : decode prog_13_method_14_code 17 = .ok (.invokevirtual 99, 3) := by decide +kernel
theorem dX11_add_20 : decode prog_13_method_14_code 20 = .ok (.goto 4, 3) := by decide +kernel
theorem dX11_add_23 : decode prog_13_method_14_code 23 = .ok (.iconst (-1), 1) := by decide +kernel
theorem dX11_add_24 : decode prog_13_method_14_code 24 = .ok (.ireturn, 1) := by decide +kernel
theorem sX11_add {Q : Int → Hp → Prop} {h : Hp} {l1 l2 l3 : Int}
    (hP : ((l1 < 0 ∨ l1 > 3) →
     Q (-1) h) ∧
    ((l1 ≥ 0 ∧ l1 ≤ 3) →
     (ix l1 4) ∧
     CI 2 mX11_insert [vr 103, vi l1, vi (h 105 l1), vi l2, vi l3] h (fun r5 h4 =>
      Q r5 h4))) :
    CI 3 mX11_add [vr 103, vi l1, vi l2, vi l3] h Q := by
  refine CI_of_E fX11_add.1 rfl (Nat.le_of_ble_eq_true rfl) ?_
  show E 3 mX11_add 0 [(0, vr 103), (1, vi l1), (2, vi l2), (3, vi l3)] [] h (qi Q)
  refine E_iload_n 1 1 dX11_add_0 rfl rfl ?_
  refine E_invSI [vi l1] dX11_add_1 fX11_isNet lX11_88 (by decide) rfl rfl (Nat.le_of_ble_eq_true rfl) (sX11_isNet (h := h) (l0 := l1) ?_)
  refine E_if_eq 23 dX11_add_4 rfl (fun hc => ?_) (fun hc => ?_)
  · replace hP := hP.1 (by have := ite0 hc; omega)
    refine E_iconst dX11_add_23 (rg_of rfl) ?_
    exact E_retI dX11_add_24 rfl hP
  · replace hP := hP.2 (by have := ite1 hc; omega)
    obtain ⟨v3_0, hP⟩ := hP
    refine E_aload_n 0 0 dX11_add_7 rfl rfl ?_
    refine E_iload_n 1 1 dX11_add_8 rfl rfl ?_
    refine E_aload_n 0 0 dX11_add_9 rfl rfl ?_
    refine E_gR 105 1 dX11_add_10 FX11_13 ic_103 (by decide) ?_
    refine E_iload_n 1 1 dX11_add_13 rfl rfl ?_
    refine E_iaload dX11_add_14 ic_105 v3_0.1 v3_0.2 ?_
    refine E_iload_n 2 2 dX11_add_15 rfl rfl ?_
    refine E_iload_n 3 3 dX11_add_16 rfl rfl ?_
    refine E_invVI [vi l1, vi (h 105 l1), vi l2, vi l3] dX11_add_17 fX11_insert lX11_99 ic_103 rfl (by decide) rfl rfl (Nat.le_of_ble_eq_true rfl) (CI_mono hP (fun r5 h4 hP => ?_))
    refine E_goto 24 dX11_add_20 rfl ?_
    exact E_retI dX11_add_24 rfl hP
theorem dX11_remove_0 : decode prog_13_method_16_code 0 = .ok (.aload_n 0, 1) := by decide +kernel
theorem dX11_remove_1 : decode prog_13_method_16_code 1 = .ok (.iload_n 1, 1) := by decide +kernel
theorem dX11_remove_2 : decode prog_13_method_16_code 2 = .ok (.iload_n 2, 1) := by decide +kernel
theorem dX11_remove_3 : decode prog_13_method_16_code 3 = .ok (.invokevirtual 95, 3) := by decide +kernel
theorem dX11_remove_6 : decode prog_13_method_16_code 6 = .ok (.ifCond .ne 5, 3) := by decide +kernel
theorem dX11_remove_9 : decode prog_13_method_16_code 9 = .ok (.iconst (-1), 1) := by decide +kernel
theorem dX11_remove_10 : decode prog_13_method_16_code 10 = .ok (.ireturn, 1) := by decide +kernel
theorem dX11_remove_11 : decode prog_13_method_16_code 11 = .ok (.aload_n 0, 1) := by decide +kernel
theorem dX11_remove_12 : decode prog_13_method_16_code 12 = .ok (.invokevirtual 92, 3) := by decide +kernel
theorem dX11_remove_15 : decode prog_13_method_16_code 15 = .ok (.aload_n 0, 1) := by decide +kernel
theorem dX11_remove_16 : decode prog_13_method_16_code 16 = .ok (.iload_n 1, 1) := by decide +kernel
theorem dX11_remove_17 : decode prog_13_method_16_code 17 = .ok (.iload_n 2, 1) := by decide +kernel
theorem dX11_remove_18 : decode prog_13_method_16_code 18 = .ok (.invokevirtual 110, 3) := by decide +kernel
theorem dX11_remove_21 : decode prog_13_method_16_code 21 = .ok (.istore_n 3, 1) := by decide +kernel
theorem dX11_remove_22 : decode prog_13_method_16_code 22 = .ok (.aload_n 0, 1) := by decide +kernel
theorem dX11_remove_23 : decode prog_13_method_16_code 23 = .ok (.iload_n 1, 1) := by decide +kernel
theorem dX11_remove_24 : decode prog_13_method_16_code 24 = .ok (.iload_n 2, 1) := by decide +kernel
theorem dX11_remove_25 : decode prog_13_method_16_code 25 = .ok (.invokevirtual 114, 3) := by decide +kernel
theorem dX11_remove_28 : decode prog_13_method_16_code 28 = .ok (.iload_n 3, 1) := by decide +kernel
theorem dX11_remove_29 : decode prog_13_method_16_code 29 = .ok (.ireturn, 1) := by decide +kernel
theorem sX11_remove {Q : Int → Hp → Prop} {h : Hp} {l1 l2 : Int}
    (hP : (((l1 ≥ 0 ∧ l1 ≤ 3) → (ix l1 4)) ∧ ((l1 ≥ 0 ∧ l1 ≤ 3) → (rj ((h 105 l1) - 1)))) ∧
    (((l1 ≥ 0 ∧ l1 ≤ 3) ∧ (l2 ≥ 0 ∧ l2 ≤ ((h 105 l1) - 1))) →
     CV 0 mX11_remembers [vr 103] h (fun h3 =>
      (((l1 ≥ 0 ∧ l1 ≤ 3) → (ix l1 4)) ∧ ((l1 ≥ 0 ∧ l1 ≤ 3) → (rj ((h3 105 l1) - 1))) ∧ (((l1 ≥ 0 ∧ l1 ≤ 3) ∧ (l2 ≥ 0 ∧ l2 ≤ ((h3 105 l1) - 1))) → (rj (40 * l1))) ∧ (((l1 ≥ 0 ∧ l1 ≤ 3) ∧ (l2 ≥ 0 ∧ l2 ≤ ((h3 105 l1) - 1))) → (rj ((40 * l1) + l2))) ∧ (((l1 ≥ 0 ∧ l1 ≤ 3) ∧ (l2 ≥ 0 ∧ l2 ≤ ((h3 105 l1) - 1))) → (ix ((40 * l1) + l2) 160)) ∧ (((l1 ≥ 0 ∧ l1 ≤ 3) ∧ (l2 ≥ 0 ∧ l2 ≤ ((h3 105 l1) - 1))) → (rj (10 * (h3 106 ((40 * l1) + l2))))) ∧ (((l1 ≥ 0 ∧ l1 ≤ 3) ∧ (l2 ≥ 0 ∧ l2 ≤ ((h3 105 l1) - 1))) → (rj ((10 * (h3 106 ((40 * l1) + l2))) + (h3 107 ((40 * l1) + l2)))))) ∧
      (∀ x5 : Int, x5 = (if (l1 < 0 ∨ l1 > 3) ∨ (l2 < 0 ∨ l2 > ((h3 105 l1) - 1)) then (-1) else ((10 * (h3 106 ((40 * l1) + l2))) + (h3 107 ((40 * l1) + l2)))) →
      CV 0 mX11_takes [vr 103, vi l1, vi l2] h3 (fun h7 =>
       Q x5 h7)))) ∧
    (((l1 < 0 ∨ l1 > 3) ∨ (l2 < 0 ∨ l2 > ((h 105 l1) - 1))) →
     Q (-1) h)) :
    CI 4 mX11_remove [vr 103, vi l1, vi l2] h Q := by
  refine CI_of_E fX11_remove.1 rfl (Nat.le_of_ble_eq_true rfl) ?_
  show E 4 mX11_remove 0 [(0, vr 103), (1, vi l1), (2, vi l2)] [] h (qi Q)
  obtain ⟨⟨v1_0, v1_1⟩, hP⟩ := hP
  refine E_aload_n 0 0 dX11_remove_0 rfl rfl ?_
  refine E_iload_n 1 1 dX11_remove_1 rfl rfl ?_
  refine E_iload_n 2 2 dX11_remove_2 rfl rfl ?_
  refine E_invVI [vi l1, vi l2] dX11_remove_3 fX11_isPosition lX11_95 ic_103 rfl (by decide) rfl rfl (Nat.le_of_ble_eq_true rfl) (sX11_isPosition (h := h) (l1 := l1) (l2 := l2) ⟨⟨v1_0, v1_1⟩, ?_⟩)
  refine E_if_ne 11 dX11_remove_6 rfl (fun hc => ?_) (fun hc => ?_)
  · replace hP := hP.1 (by have := ite1' hc; omega)
    refine E_aload_n 0 0 dX11_remove_11 rfl rfl ?_
    refine E_invVV [] dX11_remove_12 fX11_remembers lX11_92 ic_103 rfl (by decide) rfl rfl (Nat.le_of_ble_eq_true rfl) (CV_mono hP (fun h3 hP => ?_))
    obtain ⟨⟨v4_0, v4_1, v4_2, v4_3, v4_4, v4_5, v4_6⟩, hP⟩ := hP
    refine E_aload_n 0 0 dX11_remove_15 rfl rfl ?_
    refine E_iload_n 1 1 dX11_remove_16 rfl rfl ?_
    refine E_iload_n 2 2 dX11_remove_17 rfl rfl ?_
    refine E_invVI [vi l1, vi l2] dX11_remove_18 fX11_comparator lX11_110 ic_103 rfl (by decide) rfl rfl (Nat.le_of_ble_eq_true rfl) (sX11_comparator (h := h3) (l1 := l1) (l2 := l2) ⟨⟨v4_0, v4_1, v4_2, v4_3, v4_4, v4_5, v4_6⟩, ?_⟩)
    obtain ⟨x5, hx5⟩ : ∃ x : Int, x = (if (l1 < 0 ∨ l1 > 3) ∨ (l2 < 0 ∨ l2 > ((h3 105 l1) - 1)) then (-1) else ((10 * (h3 106 ((40 * l1) + l2))) + (h3 107 ((40 * l1) + l2)))) := ⟨_, rfl⟩
    refine E_top hx5.symm ?_
    replace hP := hP x5 hx5
    refine E_istore_n dX11_remove_21 rfl (by decide) rfl ?_
    refine E_aload_n 1 0 dX11_remove_22 rfl rfl ?_
    refine E_iload_n 2 1 dX11_remove_23 rfl rfl ?_
    refine E_iload_n 3 2 dX11_remove_24 rfl rfl ?_
    refine E_invVV [vi l1, vi l2] dX11_remove_25 fX11_takes lX11_114 ic_103 rfl (by decide) rfl rfl (Nat.le_of_ble_eq_true rfl) (CV_mono hP (fun h7 hP => ?_))
    refine E_iload_n 0 3 dX11_remove_28 rfl rfl ?_
    exact E_retI dX11_remove_29 rfl hP
  · replace hP := hP.2 (by have := ite0 hc; omega)
    refine E_iconst dX11_remove_9 (rg_of rfl) ?_
    exact E_retI dX11_remove_10 rfl hP
theorem dX11_findsLayers_0 : decode prog_13_method_17_code 0 = .ok (.iconst 0, 1) := by decide +kernel
theorem dX11_findsLayers_1 : decode prog_13_method_17_code 1 = .ok (.istore_n 2, 1) := by decide +kernel
theorem dX11_findsLayers_2 : decode prog_13_method_17_code 2 = .ok (.iload_n 2, 1) := by decide +kernel
theorem dX11_findsLayers_3 : decode prog_13_method_17_code 3 = .ok (.aload_n 0, 1) := by decide +kernel
theorem dX11_findsLayers_4 : decode prog_13_method_17_code 4 = .ok (.getfield 13, 3) := by decide +kernel
theorem dX11_findsLayers_7 : decode prog_13_method_17_code 7 = .ok (.iload_n 1, 1) := by decide +kernel
theorem dX11_findsLayers_8 : decode prog_13_method_17_code 8 = .ok (.iaload, 1) := by decide +kernel
theorem dX11_findsLayers_9 : decode prog_13_method_17_code 9 = .ok (.if_icmp .ge 156, 3) := by decide +kernel
theorem dX11_findsLayers_12 : decode prog_13_method_17_code 12 = .ok (.aload_n 0, 1) := by decide +kernel
theorem dX11_findsLayers_13 : decode prog_13_method_17_code 13 = .ok (.getfield 46, 3) := by decide +kernel
theorem dX11_findsLayers_16 : decode prog_13_method_17_code 16 = .ok (.iload_n 2, 1) := by decide +kernel
theorem dX11_findsLayers_17 : decode prog_13_method_17_code 17 = .ok (.iconst 0, 1) := by decide +kernel
theorem dX11_findsLayers_18 : decode prog_13_method_17_code 18 = .ok (.iastore, 1) := by decide +kernel
theorem dX11_findsLayers_19 : decode prog_13_method_17_code 19 = .ok (.iconst 0, 1) := by decide +kernel
theorem dX11_findsLayers_20 : decode prog_13_method_17_code 20 = .ok (.istore_n 3, 1) := by decide +kernel
theorem dX11_findsLayers_21 : decode prog_13_method_17_code 21 = .ok (.iload_n 3, 1) := by decide +kernel
theorem dX11_findsLayers_22 : decode prog_13_method_17_code 22 = .ok (.iload_n 2, 1) := by decide +kernel
theorem dX11_findsLayers_23 : decode prog_13_method_17_code 23 = .ok (.if_icmp .ge 136, 3) := by decide +kernel
theorem dX11_findsLayers_26 : decode prog_13_method_17_code 26 = .ok (.bipush 40, 2) := by decide +kernel
theorem dX11_findsLayers_28 : decode prog_13_method_17_code 28 = .ok (.iload_n 1, 1) := by decide +kernel
theorem dX11_findsLayers_29 : decode prog_13_method_17_code 29 = .ok (.imul, 1) := by decide +kernel
theorem dX11_findsLayers_30 : decode prog_13_method_17_code 30 = .ok (.iload_n 2, 1) := by decide +kernel
theorem dX11_findsLayers_31 : decode prog_13_method_17_code 31 = .ok (.iadd, 1) := by decide +kernel
theorem dX11_findsLayers_32 : decode prog_13_method_17_code 32 = .ok (.istore 4, 2) := by decide +kernel
theorem dX11_findsLayers_34 : decode prog_13_method_17_code 34 = .ok (.bipush 40, 2) := by decide +kernel
theorem dX11_findsLayers_36 : decode prog_13_method_17_code 36 = .ok (.iload_n 1, 1) := by decide +kernel
theorem dX11_findsLayers_37 : decode prog_13_method_17_code 37 = .ok (.imul, 1) := by decide +kernel
theorem dX11_findsLayers_38 : decode prog_13_method_17_code 38 = .ok (.iload_n 3, 1) := by decide +kernel
theorem dX11_findsLayers_39 : decode prog_13_method_17_code 39 = .ok (.iadd, 1) := by decide +kernel
theorem dX11_findsLayers_40 : decode prog_13_method_17_code 40 = .ok (.istore 5, 2) := by decide +kernel
theorem dX11_findsLayers_42 : decode prog_13_method_17_code 42 = .ok (.aload_n 0, 1) := by decide +kernel
theorem dX11_findsLayers_43 : decode prog_13_method_17_code 43 = .ok (.getfield 16, 3) := by decide +kernel
theorem dX11_findsLayers_46 : decode prog_13_method_17_code 46 = .ok (.iload 4, 2) := by decide +kernel
theorem dX11_findsLayers_48 : decode prog_13_method_17_code 48 = .ok (.iaload, 1) := by decide +kernel
theorem dX11_findsLayers_49 : decode prog_13_method_17_code 49 = .ok (.aload_n 0, 1) := by decide +kernel
theorem dX11_findsLayers_50 : decode prog_13_method_17_code 50 = .ok (.getfield 16, 3) := by decide +kernel
theorem dX11_findsLayers_53 : decode prog_13_method_17_code 53 = .ok (.iload 5, 2) := by decide +kernel
theorem dX11_findsLayers_55 : decode prog_13_method_17_code 55 = .ok (.iaload, 1) := by decide +kernel
theorem dX11_findsLayers_56 : decode prog_13_method_17_code 56 = .ok (.if_icmp .eq 54, 3) := by decide +kernel
theorem dX11_findsLayers_59 : decode prog_13_method_17_code 59 = .ok (.aload_n 0, 1) := by decide +kernel
theorem dX11_findsLayers_60 : decode prog_13_method_17_code 60 = .ok (.getfield 16, 3) := by decide +kernel
theorem dX11_findsLayers_63 : decode prog_13_method_17_code 63 = .ok (.iload 4, 2) := by decide +kernel
theorem dX11_findsLayers_65 : decode prog_13_method_17_code 65 = .ok (.iaload, 1) := by decide +kernel
theorem dX11_findsLayers_66 : decode prog_13_method_17_code 66 = .ok (.aload_n 0, 1) := by decide +kernel
theorem dX11_findsLayers_67 : decode prog_13_method_17_code 67 = .ok (.getfield 19, 3) := by decide +kernel
theorem dX11_findsLayers_70 : decode prog_13_method_17_code 70 = .ok (.iload 5, 2) := by decide +kernel
theorem dX11_findsLayers_72 : decode prog_13_method_17_code 72 = .ok (.iaload, 1) := by decide +kernel
theorem dX11_findsLayers_73 : decode prog_13_method_17_code 73 = .ok (.if_icmp .eq 37, 3) := by decide +kernel
theorem dX11_findsLayers_76 : decode prog_13_method_17_code 76 = .ok (.aload_n 0, 1) := by decide +kernel
theorem dX11_findsLayers_77 : decode prog_13_method_17_code 77 = .ok (.getfield 19, 3) := by decide +kernel
theorem dX11_findsLayers_80 : decode prog_13_method_17_code 80 = .ok (.iload 4, 2) := by decide +kernel
theorem dX11_findsLayers_82 : decode prog_13_method_17_code 82 = .ok (.iaload, 1) := by decide +kernel
theorem dX11_findsLayers_83 : decode prog_13_method_17_code 83 = .ok (.aload_n 0, 1) := by decide +kernel
theorem dX11_findsLayers_84 : decode prog_13_method_17_code 84 = .ok (.getfield 16, 3) := by decide +kernel
theorem dX11_findsLayers_87 : decode prog_13_method_17_code 87 = .ok (.iload 5, 2) := by decide +kernel
theorem dX11_findsLayers_89 : decode prog_13_method_17_code 89 = .ok (.iaload, 1) := by decide +kernel
theorem dX11_findsLayers_90 : decode prog_13_method_17_code 90 = .ok (.if_icmp .eq 20, 3) := by decide +kernel
theorem dX11_findsLayers_93 : decode prog_13_method_17_code 93 = .ok (.aload_n 0, 1) := by decide +kernel
theorem dX11_findsLayers_94 : decode prog_13_method_17_code 94 = .ok (.getfield 19, 3) := by decide +kernel
theorem dX11_findsLayers_97 : decode prog_13_method_17_code 97 = .ok (.iload 4, 2) := by decide +kernel
theorem dX11_findsLayers_99 : decode prog_13_method_17_code 99 = .ok (.iaload, 1) := by decide +kernel
theorem dX11_findsLayers_100 : decode prog_13_method_17_code 100 = .ok (.aload_n 0, 1) := by decide +kernel
theorem dX11_findsLayers_101 : decode prog_13_method_17_code 101 = .ok (.getfield 19, 3) := by decide +kernel
theorem dX11_findsLayers_104 : decode prog_13_method_17_code 104 = .ok (.iload 5, 2) := by decide +kernel
theorem dX11_findsLayers_106 : decode prog_13_method_17_code 106 = .ok (.iaload, 1) := by decide +kernel
theorem dX11_findsLayers_107 : decode prog_13_method_17_code 107 = .ok (.if_icmp .ne 7, 3) := by decide +kernel
theorem dX11_findsLayers_110 : decode prog_13_method_17_code 110 = .ok (.iconst 1, 1) := by decide +kernel
theorem dX11_findsLayers_111 : decode prog_13_method_17_code 111 = .ok (.goto 4, 3) := by decide +kernel
theorem dX11_findsLayers_114 : decode prog_13_method_17_code 114 = .ok (.iconst 0, 1) := by decide +kernel
theorem dX11_findsLayers_115 : decode prog_13_method_17_code 115 = .ok (.istore 6, 2) := by decide +kernel
theorem dX11_findsLayers_117 : decode prog_13_method_17_code 117 = .ok (.iload 6, 2) := by decide +kernel
theorem dX11_findsLayers_119 : decode prog_13_method_17_code 119 = .ok (.ifCond .eq 34, 3) := by decide +kernel
theorem dX11_findsLayers_122 : decode prog_13_method_17_code 122 = .ok (.aload_n 0, 1) := by decide +kernel
theorem dX11_findsLayers_123 : decode prog_13_method_17_code 123 = .ok (.getfield 46, 3) := by decide +kernel
theorem dX11_findsLayers_126 : decode prog_13_method_17_code 126 = .ok (.iload_n 3, 1) := by decide +kernel
theorem dX11_findsLayers_127 : decode prog_13_method_17_code 127 = .ok (.iaload, 1) := by decide +kernel
theorem dX11_findsLayers_128 : decode prog_13_method_17_code 128 = .ok (.iconst 1, 1) := by decide +kernel
theorem dX11_findsLayers_129 : decode prog_13_method_17_code 129 = .ok (.iadd, 1) := by decide +kernel
theorem dX11_findsLayers_130 : decode prog_13_method_17_code 130 = .ok (.aload_n 0, 1) := by decide +kernel
theorem dX11_findsLayers_131 : decode prog_13_method_17_code 131 = .ok (.getfield 46, 3) := by decide +kernel
theorem dX11_findsLayers_134 : decode prog_13_method_17_code 134 = .ok (.iload_n 2, 1) := by decide +kernel
theorem dX11_findsLayers_135 : decode prog_13_method_17_code 135 = .ok (.iaload, 1) := by decide +kernel
theorem dX11_findsLayers_136 : decode prog_13_method_17_code 136 = .ok (.if_icmp .le 17, 3) := by decide +kernel
theorem dX11_findsLayers_139 : decode prog_13_method_17_code 139 = .ok (.aload_n 0, 1) := by decide +kernel
theorem dX11_findsLayers_140 : decode prog_13_method_17_code 140 = .ok (.getfield 46, 3) := by decide +kernel
theorem dX11_findsLayers_143 : decode prog_13_method_17_code 143 = .ok (.iload_n 2, 1) := by decide +kernel
theorem dX11_findsLayers_144 : decode prog_13_method_17_code 144 = .ok (.aload_n 0, 1) := by decide +kernel
theorem dX11_findsLayers_145 : decode prog_13_method_17_code 145 = .ok (.getfield 46, 3) := by decide +kernel
theorem dX11_findsLayers_148 : decode prog_13_method_17_code 148 = .ok (.iload_n 3, 1) := by decide +kernel
theorem dX11_findsLayers_149 : decode prog_13_method_17_code 149 = .ok (.iaload, 1) := by decide +kernel
theorem dX11_findsLayers_150 : decode prog_13_method_17_code 150 = .ok (.iconst 1, 1) := by decide +kernel
theorem dX11_findsLayers_151 : decode prog_13_method_17_code 151 = .ok (.iadd, 1) := by decide +kernel
theorem dX11_findsLayers_152 : decode prog_13_method_17_code 152 = .ok (.iastore, 1) := by decide +kernel
theorem dX11_findsLayers_153 : decode prog_13_method_17_code 153 = .ok (.iinc 3 1, 3) := by decide +kernel
theorem dX11_findsLayers_156 : decode prog_13_method_17_code 156 = .ok (.goto (-135), 3) := by decide +kernel
theorem dX11_findsLayers_159 : decode prog_13_method_17_code 159 = .ok (.iinc 2 1, 3) := by decide +kernel
theorem dX11_findsLayers_162 : decode prog_13_method_17_code 162 = .ok (.goto (-160), 3) := by decide +kernel
theorem dX11_findsLayers_165 : decode prog_13_method_17_code 165 = .ok (.return_, 1) := by decide +kernel
theorem sX11_findsLayers_21 {Q : Hp → Prop} {h : Hp} {l1 l2 l3 : Int}
    (hP : ((l3 ≥ l2) →
     (rj (l2 + 1)) ∧
     E 0 mX11_findsLayers 2 [(0, vr 103), (1, vi l1), (2, vi (l2 + 1))] [] h (qv Q)) ∧
    ((l3 < l2) →
     (rj (40 * l1) ∧ rj ((40 * l1) + l2) ∧ rj ((40 * l1) + l3) ∧ ix ((40 * l1) + l2) 160 ∧ ix ((40 * l1) + l3) 160) ∧
     (((h 106 ((40 * l1) + l2)) ≠ (h 106 ((40 * l1) + l3)) ∧ (h 106 ((40 * l1) + l2)) ≠ (h 107 ((40 * l1) + l3)) ∧ (h 107 ((40 * l1) + l2)) ≠ (h 106 ((40 * l1) + l3)) ∧ (h 107 ((40 * l1) + l2)) ≠ (h 107 ((40 * l1) + l3))) →
      (rj (l3 + 1)) ∧
      E 0 mX11_findsLayers 21 [(0, vr 103), (1, vi l1), (2, vi l2), (3, vi (l3 + 1))] [] h (qv Q)) ∧
     (((h 106 ((40 * l1) + l2)) = (h 106 ((40 * l1) + l3)) ∨ (h 106 ((40 * l1) + l2)) = (h 107 ((40 * l1) + l3)) ∨ (h 107 ((40 * l1) + l2)) = (h 106 ((40 * l1) + l3)) ∨ (h 107 ((40 * l1) + l2)) = (h 107 ((40 * l1) + l3))) →
      (ix l3 40 ∧ rj ((h 116 l3) + 1) ∧ ix l2 40) ∧
      ((((h 116 l3) + 1) ≤ (h 116 l2)) →
       (rj (l3 + 1)) ∧
       E 0 mX11_findsLayers 21 [(0, vr 103), (1, vi l1), (2, vi l2), (3, vi (l3 + 1))] [] h (qv Q)) ∧
      ((((h 116 l3) + 1) > (h 116 l2)) →
       (ix l3 40 ∧ rj ((h 116 l3) + 1) ∧ ix l2 40 ∧ rj (l3 + 1)) ∧
       E 0 mX11_findsLayers 21 [(0, vr 103), (1, vi l1), (2, vi l2), (3, vi (l3 + 1))] [] (up h 116 l2 ((h 116 l3) + 1)) (qv Q))))) :
    E 0 mX11_findsLayers 21 [(0, vr 103), (1, vi l1), (2, vi l2), (3, vi l3)] [] h (qv Q) := by
  refine E_iload_n 3 3 dX11_findsLayers_21 rfl rfl ?_
  refine E_iload_n 2 2 dX11_findsLayers_22 rfl rfl ?_
  refine E_icmp_ge 159 dX11_findsLayers_23 rfl (fun hc => ?_) (fun hc => ?_)
  · replace hP := hP.1 (hc)
    obtain ⟨v2_0, hP⟩ := hP
    refine E_iinc 2 dX11_findsLayers_159 rfl (rgI v2_0) (by decide) rfl ?_
    refine E_goto 2 dX11_findsLayers_162 rfl ?_
    exact E_sub [1, 2, 0] rfl hP
  · replace hP := hP.2 (by omega)
    obtain ⟨⟨v3_0, v3_1, v3_2, v3_3, v3_4⟩, hP⟩ := hP
    refine E_bipush dX11_findsLayers_26 (by decide) ?_
    refine E_iload_n 1 1 dX11_findsLayers_28 rfl rfl ?_
    refine E_imul dX11_findsLayers_29 (rgI v3_0) ?_
    refine E_iload_n 2 2 dX11_findsLayers_30 rfl rfl ?_
    refine E_iadd dX11_findsLayers_31 (rgI v3_1) ?_
    refine E_istore dX11_findsLayers_32 (by decide) rfl ?_
    refine E_bipush dX11_findsLayers_34 (by decide) ?_
    refine E_iload_n 2 1 dX11_findsLayers_36 rfl rfl ?_
    refine E_imul dX11_findsLayers_37 (rgI v3_0) ?_
    refine E_iload_n 4 3 dX11_findsLayers_38 rfl rfl ?_
    refine E_iadd dX11_findsLayers_39 (rgI v3_2) ?_
    refine E_istore dX11_findsLayers_40 (by decide) rfl ?_
    refine E_aload_n 2 0 dX11_findsLayers_42 rfl rfl ?_
    refine E_gR 106 2 dX11_findsLayers_43 FX11_16 ic_103 (by decide) ?_
    refine E_iload 1 dX11_findsLayers_46 rfl ?_
    refine E_iaload dX11_findsLayers_48 ic_106 v3_3.1 v3_3.2 ?_
    refine E_aload_n 2 0 dX11_findsLayers_49 rfl rfl ?_
    refine E_gR 106 2 dX11_findsLayers_50 FX11_16 ic_103 (by decide) ?_
    refine E_iload 0 dX11_findsLayers_53 rfl ?_
    refine E_iaload dX11_findsLayers_55 ic_106 v3_4.1 v3_4.2 ?_
    have hJ : E 0 mX11_findsLayers 115 [(5, vi ((40 * l1) + l3)), (4, vi ((40 * l1) + l2)), (0, vr 103), (1, vi l1), (2, vi l2), (3, vi l3)] [vi (if (h 106 ((40 * l1) + l2)) = (h 106 ((40 * l1) + l3)) ∨ (h 106 ((40 * l1) + l2)) = (h 107 ((40 * l1) + l3)) ∨ (h 107 ((40 * l1) + l2)) = (h 106 ((40 * l1) + l3)) ∨ (h 107 ((40 * l1) + l2)) = (h 107 ((40 * l1) + l3)) then (1 : Int) else 0)] h (qv Q) := by
      refine E_istore dX11_findsLayers_115 (by decide) rfl ?_
      refine E_iload 0 dX11_findsLayers_117 rfl ?_
      refine E_if_eq 153 dX11_findsLayers_119 rfl (fun hc => ?_) (fun hc => ?_)
      · replace hP := hP.1 (by have := ite0 hc; omega)
        obtain ⟨v5_0, hP⟩ := hP
        refine E_iinc 6 dX11_findsLayers_153 rfl (rgI v5_0) (by decide) rfl ?_
        refine E_goto 21 dX11_findsLayers_156 rfl ?_
        exact E_sub [4, 5, 6, 0] rfl hP
      · replace hP := hP.2 (by have := ite1 hc; omega)
        obtain ⟨⟨v6_0, v6_1, v6_2⟩, hP⟩ := hP
        refine E_aload_n 3 0 dX11_findsLayers_122 rfl rfl ?_
        refine E_gR 116 15 dX11_findsLayers_123 FX11_46 ic_103 (by decide) ?_
        refine E_iload_n 6 3 dX11_findsLayers_126 rfl rfl ?_
        refine E_iaload dX11_findsLayers_127 ic_116 v6_0.1 v6_0.2 ?_
        refine E_iconst dX11_findsLayers_128 (rg_of rfl) ?_
        refine E_iadd dX11_findsLayers_129 (rgI v6_1) ?_
        refine E_aload_n 3 0 dX11_findsLayers_130 rfl rfl ?_
        refine E_gR 116 15 dX11_findsLayers_131 FX11_46 ic_103 (by decide) ?_
        refine E_iload_n 5 2 dX11_findsLayers_134 rfl rfl ?_
        refine E_iaload dX11_findsLayers_135 ic_116 v6_2.1 v6_2.2 ?_
        refine E_icmp_le 153 dX11_findsLayers_136 rfl (fun hc => ?_) (fun hc => ?_)
        · replace hP := hP.1 (hc)
          obtain ⟨v7_0, hP⟩ := hP
          refine E_iinc 6 dX11_findsLayers_153 rfl (rgI v7_0) (by decide) rfl ?_
          refine E_goto 21 dX11_findsLayers_156 rfl ?_
          exact E_sub [4, 5, 6, 0] rfl hP
        · replace hP := hP.2 (by omega)
          obtain ⟨⟨v8_0, v8_1, v8_2, v8_3⟩, hP⟩ := hP
          refine E_aload_n 3 0 dX11_findsLayers_139 rfl rfl ?_
          refine E_gR 116 15 dX11_findsLayers_140 FX11_46 ic_103 (by decide) ?_
          refine E_iload_n 5 2 dX11_findsLayers_143 rfl rfl ?_
          refine E_aload_n 3 0 dX11_findsLayers_144 rfl rfl ?_
          refine E_gR 116 15 dX11_findsLayers_145 FX11_46 ic_103 (by decide) ?_
          refine E_iload_n 6 3 dX11_findsLayers_148 rfl rfl ?_
          refine E_iaload dX11_findsLayers_149 ic_116 v8_0.1 v8_0.2 ?_
          refine E_iconst dX11_findsLayers_150 (rg_of rfl) ?_
          refine E_iadd dX11_findsLayers_151 (rgI v8_1) ?_
          refine E_iastore dX11_findsLayers_152 ic_116 v8_2.1 v8_2.2 ?_
          refine E_iinc 6 dX11_findsLayers_153 rfl (rgI v8_3) (by decide) rfl ?_
          refine E_goto 21 dX11_findsLayers_156 rfl ?_
          exact E_sub [4, 5, 6, 0] rfl hP
    refine E_icmp_eq 110 dX11_findsLayers_56 rfl (fun hc => ?_) (fun hc => ?_)
    · have hp56 := (hc : (h 106 ((40 * l1) + l2)) = (h 106 ((40 * l1) + l3)))
      refine E_iconst dX11_findsLayers_110 (rg_of rfl) ?_
      refine E_goto 115 dX11_findsLayers_111 rfl ?_
      exact E_top (if_pos (by omega)).symm hJ
    · have hp56 := (by omega : (h 106 ((40 * l1) + l2)) ≠ (h 106 ((40 * l1) + l3)))
      refine E_aload_n 2 0 dX11_findsLayers_59 rfl rfl ?_
      refine E_gR 106 2 dX11_findsLayers_60 FX11_16 ic_103 (by decide) ?_
      refine E_iload 1 dX11_findsLayers_63 rfl ?_
      refine E_iaload dX11_findsLayers_65 ic_106 v3_3.1 v3_3.2 ?_
      refine E_aload_n 2 0 dX11_findsLayers_66 rfl rfl ?_
      refine E_gR 107 3 dX11_findsLayers_67 FX11_19 ic_103 (by decide) ?_
      refine E_iload 0 dX11_findsLayers_70 rfl ?_
      refine E_iaload dX11_findsLayers_72 ic_107 v3_4.1 v3_4.2 ?_
      refine E_icmp_eq 110 dX11_findsLayers_73 rfl (fun hc => ?_) (fun hc => ?_)
      · have hp73 := (hc : (h 106 ((40 * l1) + l2)) = (h 107 ((40 * l1) + l3)))
        refine E_iconst dX11_findsLayers_110 (rg_of rfl) ?_
        refine E_goto 115 dX11_findsLayers_111 rfl ?_
        exact E_top (if_pos (by omega)).symm hJ
      · have hp73 := (by omega : (h 106 ((40 * l1) + l2)) ≠ (h 107 ((40 * l1) + l3)))
        refine E_aload_n 2 0 dX11_findsLayers_76 rfl rfl ?_
        refine E_gR 107 3 dX11_findsLayers_77 FX11_19 ic_103 (by decide) ?_
        refine E_iload 1 dX11_findsLayers_80 rfl ?_
        refine E_iaload dX11_findsLayers_82 ic_107 v3_3.1 v3_3.2 ?_
        refine E_aload_n 2 0 dX11_findsLayers_83 rfl rfl ?_
        refine E_gR 106 2 dX11_findsLayers_84 FX11_16 ic_103 (by decide) ?_
        refine E_iload 0 dX11_findsLayers_87 rfl ?_
        refine E_iaload dX11_findsLayers_89 ic_106 v3_4.1 v3_4.2 ?_
        refine E_icmp_eq 110 dX11_findsLayers_90 rfl (fun hc => ?_) (fun hc => ?_)
        · have hp90 := (hc : (h 107 ((40 * l1) + l2)) = (h 106 ((40 * l1) + l3)))
          refine E_iconst dX11_findsLayers_110 (rg_of rfl) ?_
          refine E_goto 115 dX11_findsLayers_111 rfl ?_
          exact E_top (if_pos (by omega)).symm hJ
        · have hp90 := (by omega : (h 107 ((40 * l1) + l2)) ≠ (h 106 ((40 * l1) + l3)))
          refine E_aload_n 2 0 dX11_findsLayers_93 rfl rfl ?_
          refine E_gR 107 3 dX11_findsLayers_94 FX11_19 ic_103 (by decide) ?_
          refine E_iload 1 dX11_findsLayers_97 rfl ?_
          refine E_iaload dX11_findsLayers_99 ic_107 v3_3.1 v3_3.2 ?_
          refine E_aload_n 2 0 dX11_findsLayers_100 rfl rfl ?_
          refine E_gR 107 3 dX11_findsLayers_101 FX11_19 ic_103 (by decide) ?_
          refine E_iload 0 dX11_findsLayers_104 rfl ?_
          refine E_iaload dX11_findsLayers_106 ic_107 v3_4.1 v3_4.2 ?_
          refine E_icmp_ne 114 dX11_findsLayers_107 rfl (fun hc => ?_) (fun hc => ?_)
          · have hp107 := (hc : (h 107 ((40 * l1) + l2)) ≠ (h 107 ((40 * l1) + l3)))
            refine E_iconst dX11_findsLayers_114 (rg_of rfl) ?_
            exact E_top (if_neg (by omega)).symm hJ
          · have hp107 := (by omega : (h 107 ((40 * l1) + l2)) = (h 107 ((40 * l1) + l3)))
            refine E_iconst dX11_findsLayers_110 (rg_of rfl) ?_
            refine E_goto 115 dX11_findsLayers_111 rfl ?_
            exact E_top (if_pos (by omega)).symm hJ
theorem sX11_findsLayers_2 {Q : Hp → Prop} {h : Hp} {l1 l2 : Int}
    (hP : (ix l1 4) ∧
    ((l2 ≥ (h 105 l1)) →
     Q h) ∧
    ((l2 < (h 105 l1)) →
     (ix l2 40) ∧
     E 0 mX11_findsLayers 21 [(0, vr 103), (1, vi l1), (2, vi l2), (3, vi 0)] [] (up h 116 l2 0) (qv Q))) :
    E 0 mX11_findsLayers 2 [(0, vr 103), (1, vi l1), (2, vi l2)] [] h (qv Q) := by
  obtain ⟨v1_0, hP⟩ := hP
  refine E_iload_n 2 2 dX11_findsLayers_2 rfl rfl ?_
  refine E_aload_n 0 0 dX11_findsLayers_3 rfl rfl ?_
  refine E_gR 105 1 dX11_findsLayers_4 FX11_13 ic_103 (by decide) ?_
  refine E_iload_n 1 1 dX11_findsLayers_7 rfl rfl ?_
  refine E_iaload dX11_findsLayers_8 ic_105 v1_0.1 v1_0.2 ?_
  refine E_icmp_ge 165 dX11_findsLayers_9 rfl (fun hc => ?_) (fun hc => ?_)
  · replace hP := hP.1 (hc)
    exact E_retV dX11_findsLayers_165 rfl hP
  · replace hP := hP.2 (by omega)
    obtain ⟨v3_0, hP⟩ := hP
    refine E_aload_n 0 0 dX11_findsLayers_12 rfl rfl ?_
    refine E_gR 116 15 dX11_findsLayers_13 FX11_46 ic_103 (by decide) ?_
    refine E_iload_n 2 2 dX11_findsLayers_16 rfl rfl ?_
    refine E_iconst dX11_findsLayers_17 (rg_of rfl) ?_
    refine E_iastore dX11_findsLayers_18 ic_116 v3_0.1 v3_0.2 ?_
    refine E_iconst dX11_findsLayers_19 (rg_of rfl) ?_
    refine E_istore_n dX11_findsLayers_20 rfl (by decide) rfl ?_
    exact E_sub [1, 2, 3, 0] rfl hP
theorem sX11_findsLayers {Q : Hp → Prop} {h : Hp} {l1 : Int}
    (hP : E 0 mX11_findsLayers 2 [(0, vr 103), (1, vi l1), (2, vi 0)] [] h (qv Q)) :
    CV 0 mX11_findsLayers [vr 103, vi l1] h Q := by
  refine CV_of_E fX11_findsLayers.1 rfl (Nat.le_of_ble_eq_true rfl) ?_
  show E 0 mX11_findsLayers 0 [(0, vr 103), (1, vi l1)] [] h (qv Q)
  refine E_iconst dX11_findsLayers_0 (rg_of rfl) ?_
  refine E_istore_n dX11_findsLayers_1 rfl (by decide) rfl ?_
  exact E_sub [1, 2, 0] rfl hP
theorem dX11_layer_0 : decode prog_13_method_18_code 0 = .ok (.aload_n 0, 1) := by decide +kernel
theorem dX11_layer_1 : decode prog_13_method_18_code 1 = .ok (.iload_n 1, 1) := by decide +kernel
theorem dX11_layer_2 : decode prog_13_method_18_code 2 = .ok (.iload_n 2, 1) := by decide +kernel
theorem dX11_layer_3 : decode prog_13_method_18_code 3 = .ok (.invokevirtual 95, 3) := by decide +kernel
theorem dX11_layer_6 : decode prog_13_method_18_code 6 = .ok (.ifCond .ne 5, 3) := by decide +kernel
theorem dX11_layer_9 : decode prog_13_method_18_code 9 = .ok (.iconst (-1), 1) := by decide +kernel
theorem dX11_layer_10 : decode prog_13_method_18_code 10 = .ok (.ireturn, 1) := by decide +kernel
theorem dX11_layer_11 : decode prog_13_method_18_code 11 = .ok (.aload_n 0, 1) := by decide +kernel
theorem dX11_layer_12 : decode prog_13_method_18_code 12 = .ok (.iload_n 1, 1) := by decide +kernel
theorem dX11_layer_13 : decode prog_13_method_18_code 13 = .ok (.invokevirtual 118, 3) := by decide +kernel
theorem dX11_layer_16 : decode prog_13_method_18_code 16 = .ok (.aload_n 0, 1) := by decide +kernel
theorem dX11_layer_17 : decode prog_13_method_18_code 17 = .ok (.getfield 46, 3) := by decide +kernel
theorem dX11_layer_20 : decode prog_13_method_18_code 20 = .ok (.iload_n 2, 1) := by decide +kernel
theorem dX11_layer_21 : decode prog_13_method_18_code 21 = .ok (.iaload, 1) := by decide +kernel
theorem dX11_layer_22 : decode prog_13_method_18_code 22 = .ok (.ireturn, 1) := by decide +kernel
theorem sX11_layer {Q : Int → Hp → Prop} {h : Hp} {l1 l2 : Int}
    (hP : (((l1 ≥ 0 ∧ l1 ≤ 3) → (ix l1 4)) ∧ ((l1 ≥ 0 ∧ l1 ≤ 3) → (rj ((h 105 l1) - 1)))) ∧
    (((l1 ≥ 0 ∧ l1 ≤ 3) ∧ (l2 ≥ 0 ∧ l2 ≤ ((h 105 l1) - 1))) →
     CV 0 mX11_findsLayers [vr 103, vi l1] h (fun h3 =>
      (ix l2 40) ∧
      Q (h3 116 l2) h3)) ∧
    (((l1 < 0 ∨ l1 > 3) ∨ (l2 < 0 ∨ l2 > ((h 105 l1) - 1))) →
     Q (-1) h)) :
    CI 3 mX11_layer [vr 103, vi l1, vi l2] h Q := by
  refine CI_of_E fX11_layer.1 rfl (Nat.le_of_ble_eq_true rfl) ?_
  show E 3 mX11_layer 0 [(0, vr 103), (1, vi l1), (2, vi l2)] [] h (qi Q)
  obtain ⟨⟨v1_0, v1_1⟩, hP⟩ := hP
  refine E_aload_n 0 0 dX11_layer_0 rfl rfl ?_
  refine E_iload_n 1 1 dX11_layer_1 rfl rfl ?_
  refine E_iload_n 2 2 dX11_layer_2 rfl rfl ?_
  refine E_invVI [vi l1, vi l2] dX11_layer_3 fX11_isPosition lX11_95 ic_103 rfl (by decide) rfl rfl (Nat.le_of_ble_eq_true rfl) (sX11_isPosition (h := h) (l1 := l1) (l2 := l2) ⟨⟨v1_0, v1_1⟩, ?_⟩)
  refine E_if_ne 11 dX11_layer_6 rfl (fun hc => ?_) (fun hc => ?_)
  · replace hP := hP.1 (by have := ite1' hc; omega)
    refine E_aload_n 0 0 dX11_layer_11 rfl rfl ?_
    refine E_iload_n 1 1 dX11_layer_12 rfl rfl ?_
    refine E_invVV [vi l1] dX11_layer_13 fX11_findsLayers lX11_118 ic_103 rfl (by decide) rfl rfl (Nat.le_of_ble_eq_true rfl) (CV_mono hP (fun h3 hP => ?_))
    obtain ⟨v4_0, hP⟩ := hP
    refine E_aload_n 0 0 dX11_layer_16 rfl rfl ?_
    refine E_gR 116 15 dX11_layer_17 FX11_46 ic_103 (by decide) ?_
    refine E_iload_n 2 2 dX11_layer_20 rfl rfl ?_
    refine E_iaload dX11_layer_21 ic_116 v4_0.1 v4_0.2 ?_
    exact E_retI dX11_layer_22 rfl hP
  · replace hP := hP.2 (by have := ite0 hc; omega)
    refine E_iconst dX11_layer_9 (rg_of rfl) ?_
    exact E_retI dX11_layer_10 rfl hP
theorem dX11_depth_0 : decode prog_13_method_19_code 0 = .ok (.iload_n 1, 1) := by decide +kernel
theorem dX11_depth_1 : decode prog_13_method_19_code 1 = .ok (.invokestatic 88, 3) := by decide +kernel
theorem dX11_depth_4 : decode prog_13_method_19_code 4 = .ok (.ifCond .ne 5, 3) := by decide +kernel
theorem dX11_depth_7 : decode prog_13_method_19_code 7 = .ok (.iconst (-1), 1) := by decide +kernel
theorem dX11_depth_8 : decode prog_13_method_19_code 8 = .ok (.ireturn, 1) := by decide +kernel
theorem dX11_depth_9 : decode prog_13_method_19_code 9 = .ok (.aload_n 0, 1) := by decide +kernel
theorem dX11_depth_10 : decode prog_13_method_19_code 10 = .ok (.iload_n 1, 1) := by decide +kernel
theorem dX11_depth_11 : decode prog_13_method_19_code 11 = .ok (.invokevirtual 118, 3) := by decide +kernel
theorem dX11_depth_14 : decode prog_13_method_19_code 14 = .ok (.iconst 0, 1) := by decide +kernel
theorem dX11_depth_15 : decode prog_13_method_19_code 15 = .ok (.istore_n 2, 1) := by decide +kernel
theorem dX11_depth_16 : decode prog_13_method_19_code 16 = .ok (.iconst 0, 1) := by decide +kernel
theorem dX11_depth_17 : decode prog_13_method_19_code 17 = .ok (.istore_n 3, 1) := by decide +kernel
theorem dX11_depth_18 : decode prog_13_method_19_code 18 = .ok (.iload_n 3, 1) := by decide +kernel
theorem dX11_depth_19 : decode prog_13_method_19_code 19 = .ok (.aload_n 0, 1) := by decide +kernel
theorem dX11_depth_20 : decode prog_13_method_19_code 20 = .ok (.getfield 13, 3) := by decide +kernel
theorem dX11_depth_23 : decode prog_13_method_19_code 23 = .ok (.iload_n 1, 1) := by decide +kernel
theorem dX11_depth_24 : decode prog_13_method_19_code 24 = .ok (.iaload, 1) := by decide +kernel
theorem dX11_depth_25 : decode prog_13_method_19_code 25 = .ok (.if_icmp .ge 34, 3) := by decide +kernel
theorem dX11_depth_28 : decode prog_13_method_19_code 28 = .ok (.aload_n 0, 1) := by decide +kernel
theorem dX11_depth_29 : decode prog_13_method_19_code 29 = .ok (.getfield 46, 3) := by decide +kernel
theorem dX11_depth_32 : decode prog_13_method_19_code 32 = .ok (.iload_n 3, 1) := by decide +kernel
theorem dX11_depth_33 : decode prog_13_method_19_code 33 = .ok (.iaload, 1) := by decide +kernel
theorem dX11_depth_34 : decode prog_13_method_19_code 34 = .ok (.iconst 1, 1) := by decide +kernel
theorem dX11_depth_35 : decode prog_13_method_19_code 35 = .ok (.iadd, 1) := by decide +kernel
theorem dX11_depth_36 : decode prog_13_method_19_code 36 = .ok (.iload_n 2, 1) := by decide +kernel
theorem dX11_depth_37 : decode prog_13_method_19_code 37 = .ok (.if_icmp .le 14, 3) := by decide +kernel
theorem dX11_depth_40 : decode prog_13_method_19_code 40 = .ok (.aload_n 0, 1) := by decide +kernel
theorem dX11_depth_41 : decode prog_13_method_19_code 41 = .ok (.getfield 46, 3) := by decide +kernel
theorem dX11_depth_44 : decode prog_13_method_19_code 44 = .ok (.iload_n 3, 1) := by decide +kernel
theorem dX11_depth_45 : decode prog_13_method_19_code 45 = .ok (.iaload, 1) := by decide +kernel
theorem dX11_depth_46 : decode prog_13_method_19_code 46 = .ok (.iconst 1, 1) := by decide +kernel
theorem dX11_depth_47 : decode prog_13_method_19_code 47 = .ok (.iadd, 1) := by decide +kernel
theorem dX11_depth_48 : decode prog_13_method_19_code 48 = .ok (.goto 4, 3) := by decide +kernel
theorem dX11_depth_51 : decode prog_13_method_19_code 51 = .ok (.iload_n 2, 1) := by decide +kernel
theorem dX11_depth_52 : decode prog_13_method_19_code 52 = .ok (.istore_n 2, 1) := by decide +kernel
theorem dX11_depth_53 : decode prog_13_method_19_code 53 = .ok (.iinc 3 1, 3) := by decide +kernel
theorem dX11_depth_56 : decode prog_13_method_19_code 56 = .ok (.goto (-38), 3) := by decide +kernel
theorem dX11_depth_59 : decode prog_13_method_19_code 59 = .ok (.iload_n 2, 1) := by decide +kernel
theorem dX11_depth_60 : decode prog_13_method_19_code 60 = .ok (.ireturn, 1) := by decide +kernel
theorem sX11_depth_18 {Q : Int → Hp → Prop} {h : Hp} {l1 l2 l3 : Int}
    (hP : (ix l1 4) ∧
    ((l3 ≥ (h 105 l1)) →
     Q l2 h) ∧
    ((l3 < (h 105 l1)) →
     (ix l3 40 ∧ rj ((h 116 l3) + 1)) ∧
     (∀ x5 : Int, x5 = (if ((h 116 l3) + 1) ≤ l2 then l2 else ((h 116 l3) + 1)) →
     (rj (l3 + 1)) ∧
     E 2 mX11_depth 18 [(0, vr 103), (1, vi l1), (2, vi x5), (3, vi (l3 + 1))] [] h (qi Q)))) :
    E 2 mX11_depth 18 [(0, vr 103), (1, vi l1), (2, vi l2), (3, vi l3)] [] h (qi Q) := by
  obtain ⟨v1_0, hP⟩ := hP
  refine E_iload_n 3 3 dX11_depth_18 rfl rfl ?_
  refine E_aload_n 0 0 dX11_depth_19 rfl rfl ?_
  refine E_gR 105 1 dX11_depth_20 FX11_13 ic_103 (by decide) ?_
  refine E_iload_n 1 1 dX11_depth_23 rfl rfl ?_
  refine E_iaload dX11_depth_24 ic_105 v1_0.1 v1_0.2 ?_
  refine E_icmp_ge 59 dX11_depth_25 rfl (fun hc => ?_) (fun hc => ?_)
  · replace hP := hP.1 (hc)
    refine E_iload_n 2 2 dX11_depth_59 rfl rfl ?_
    exact E_retI dX11_depth_60 rfl hP
  · replace hP := hP.2 (by omega)
    obtain ⟨⟨v3_0, v3_1⟩, hP⟩ := hP
    refine E_aload_n 0 0 dX11_depth_28 rfl rfl ?_
    refine E_gR 116 15 dX11_depth_29 FX11_46 ic_103 (by decide) ?_
    refine E_iload_n 3 3 dX11_depth_32 rfl rfl ?_
    refine E_iaload dX11_depth_33 ic_116 v3_0.1 v3_0.2 ?_
    refine E_iconst dX11_depth_34 (rg_of rfl) ?_
    refine E_iadd dX11_depth_35 (rgI v3_1) ?_
    refine E_iload_n 2 2 dX11_depth_36 rfl rfl ?_
    have hJ : E 2 mX11_depth 52 [(0, vr 103), (1, vi l1), (2, vi l2), (3, vi l3)] [vi (if ((h 116 l3) + 1) ≤ l2 then l2 else ((h 116 l3) + 1))] h (qi Q) := by
      obtain ⟨x5, hx5⟩ : ∃ x : Int, x = (if ((h 116 l3) + 1) ≤ l2 then l2 else ((h 116 l3) + 1)) := ⟨_, rfl⟩
      refine E_top hx5.symm ?_
      replace hP := hP x5 hx5
      refine E_istore_n dX11_depth_52 rfl (by decide) rfl ?_
      obtain ⟨v6_0, hP⟩ := hP
      refine E_iinc 3 dX11_depth_53 rfl (rgI v6_0) (by decide) rfl ?_
      refine E_goto 18 dX11_depth_56 rfl ?_
      exact E_sub [2, 3, 1, 0] rfl hP
    refine E_icmp_le 51 dX11_depth_37 rfl (fun hc => ?_) (fun hc => ?_)
    · have hp37 := (hc : ((h 116 l3) + 1) ≤ l2)
      refine E_iload_n 2 2 dX11_depth_51 rfl rfl ?_
      exact E_top (by first | exact (if_pos (by omega)).symm | exact (if_neg (by omega)).symm | (repeat first | rw [if_pos (by omega)] | rw [if_neg (by omega)])) hJ
    · have hp37 := (by omega : ((h 116 l3) + 1) > l2)
      refine E_aload_n 0 0 dX11_depth_40 rfl rfl ?_
      refine E_gR 116 15 dX11_depth_41 FX11_46 ic_103 (by decide) ?_
      refine E_iload_n 3 3 dX11_depth_44 rfl rfl ?_
      refine E_iaload dX11_depth_45 ic_116 v3_0.1 v3_0.2 ?_
      refine E_iconst dX11_depth_46 (rg_of rfl) ?_
      refine E_iadd dX11_depth_47 (rgI v3_1) ?_
      refine E_goto 52 dX11_depth_48 rfl ?_
      exact E_top (by first | exact (if_pos (by omega)).symm | exact (if_neg (by omega)).symm | (repeat first | rw [if_pos (by omega)] | rw [if_neg (by omega)])) hJ
theorem sX11_depth {Q : Int → Hp → Prop} {h : Hp} {l1 : Int}
    (hP : ((l1 ≥ 0 ∧ l1 ≤ 3) →
     CV 0 mX11_findsLayers [vr 103, vi l1] h (fun h3 =>
      E 2 mX11_depth 18 [(0, vr 103), (1, vi l1), (2, vi 0), (3, vi 0)] [] h3 (qi Q))) ∧
    ((l1 < 0 ∨ l1 > 3) →
     Q (-1) h)) :
    CI 2 mX11_depth [vr 103, vi l1] h Q := by
  refine CI_of_E fX11_depth.1 rfl (Nat.le_of_ble_eq_true rfl) ?_
  show E 2 mX11_depth 0 [(0, vr 103), (1, vi l1)] [] h (qi Q)
  refine E_iload_n 1 1 dX11_depth_0 rfl rfl ?_
  refine E_invSI [vi l1] dX11_depth_1 fX11_isNet lX11_88 (by decide) rfl rfl (Nat.le_of_ble_eq_true rfl) (sX11_isNet (h := h) (l0 := l1) ?_)
  refine E_if_ne 9 dX11_depth_4 rfl (fun hc => ?_) (fun hc => ?_)
  · replace hP := hP.1 (by have := ite1' hc; omega)
    refine E_aload_n 0 0 dX11_depth_9 rfl rfl ?_
    refine E_iload_n 1 1 dX11_depth_10 rfl rfl ?_
    refine E_invVV [vi l1] dX11_depth_11 fX11_findsLayers lX11_118 ic_103 rfl (by decide) rfl rfl (Nat.le_of_ble_eq_true rfl) (CV_mono hP (fun h3 hP => ?_))
    refine E_iconst dX11_depth_14 (rg_of rfl) ?_
    refine E_istore_n dX11_depth_15 rfl (by decide) rfl ?_
    refine E_iconst dX11_depth_16 (rg_of rfl) ?_
    refine E_istore_n dX11_depth_17 rfl (by decide) rfl ?_
    exact E_sub [2, 3, 1, 0] rfl hP
  · replace hP := hP.2 (by have := ite0 hc; omega)
    refine E_iconst dX11_depth_7 (rg_of rfl) ?_
    exact E_retI dX11_depth_8 rfl hP
theorem dX11_append_0 : decode prog_13_method_20_code 0 = .ok (.iload_n 1, 1) := by decide +kernel
theorem dX11_append_1 : decode prog_13_method_20_code 1 = .ok (.bipush 33, 2) := by decide +kernel
theorem dX11_append_3 : decode prog_13_method_20_code 3 = .ok (.bipush 126, 2) := by decide +kernel
theorem dX11_append_5 : decode prog_13_method_20_code 5 = .ok (.invokestatic 80, 3) := by decide +kernel
theorem dX11_append_8 : decode prog_13_method_20_code 8 = .ok (.ifCond .ne 6, 3) := by decide +kernel
theorem dX11_append_11 : decode prog_13_method_20_code 11 = .ok (.bipush (-2), 2) := by decide +kernel
theorem dX11_append_13 : decode prog_13_method_20_code 13 = .ok (.ireturn, 1) := by decide +kernel
theorem dX11_append_14 : decode prog_13_method_20_code 14 = .ok (.aload_n 0, 1) := by decide +kernel
theorem dX11_append_15 : decode prog_13_method_20_code 15 = .ok (.getfield 122, 3) := by decide +kernel
theorem dX11_append_18 : decode prog_13_method_20_code 18 = .ok (.bipush 60, 2) := by decide +kernel
theorem dX11_append_20 : decode prog_13_method_20_code 20 = .ok (.if_icmp .ne 6, 3) := by decide +kernel
theorem dX11_append_23 : decode prog_13_method_20_code 23 = .ok (.bipush (-3), 2) := by decide +kernel
theorem dX11_append_25 : decode prog_13_method_20_code 25 = .ok (.ireturn, 1) := by decide +kernel
theorem dX11_append_26 : decode prog_13_method_20_code 26 = .ok (.aload_n 0, 1) := by decide +kernel
theorem dX11_append_27 : decode prog_13_method_20_code 27 = .ok (.getfield 31, 3) := by decide +kernel
theorem dX11_append_30 : decode prog_13_method_20_code 30 = .ok (.aload_n 0, 1) := by decide +kernel
theorem dX11_append_31 : decode prog_13_method_20_code 31 = .ok (.getfield 122, 3) := by decide +kernel
theorem dX11_append_34 : decode prog_13_method_20_code 34 = .ok (.iload_n 1, 1) := by decide +kernel
theorem dX11_append_35 : decode prog_13_method_20_code 35 = .ok (.iastore, 1) := by decide +kernel
theorem dX11_append_36 : decode prog_13_method_20_code 36 = .ok (.aload_n 0, 1) := by decide +kernel
theorem dX11_append_37 : decode prog_13_method_20_code 37 = .ok (.dup, 1) := by decide +kernel
theorem dX11_append_38 : decode prog_13_method_20_code 38 = .ok (.getfield 122, 3) := by decide +kernel
theorem dX11_append_41 : decode prog_13_method_20_code 41 = .ok (.iconst 1, 1) := by decide +kernel
theorem dX11_append_42 : decode prog_13_method_20_code 42 = .ok (.iadd, 1) := by decide +kernel
theorem dX11_append_43 : decode prog_13_method_20_code 43 = .ok (.putfield 122, 3) := by decide +kernel
theorem dX11_append_46 : decode prog_13_method_20_code 46 = .ok (.aload_n 0, 1) := by decide +kernel
theorem dX11_append_47 : decode prog_13_method_20_code 47 = .ok (.getfield 122, 3) := by decide +kernel
theorem dX11_append_50 : decode prog_13_method_20_code 50 = .ok (.ireturn, 1) := by decide +kernel
theorem sX11_append {Q : Int → Hp → Prop} {h : Hp} {l1 : Int}
    (hP : ((l1 ≥ 33 ∧ l1 ≤ 126) →
     (((h 103 9) ≠ 60) →
      (ix (h 103 9) 60 ∧ rj ((h 103 9) + 1)) ∧
      Q ((h 103 9) + 1) (up (up h 111 (h 103 9) l1) 103 9 ((h 103 9) + 1))) ∧
     (((h 103 9) = 60) →
      Q (-3) h)) ∧
    ((l1 < 33 ∨ l1 > 126) →
     Q (-2) h)) :
    CI 1 mX11_append [vr 103, vi l1] h Q := by
  refine CI_of_E fX11_append.1 rfl (Nat.le_of_ble_eq_true rfl) ?_
  show E 1 mX11_append 0 [(0, vr 103), (1, vi l1)] [] h (qi Q)
  refine E_iload_n 1 1 dX11_append_0 rfl rfl ?_
  refine E_bipush dX11_append_1 (by decide) ?_
  refine E_bipush dX11_append_3 (by decide) ?_
  refine E_invSI [vi l1, vi 33, vi 126] dX11_append_5 fX11_isIn lX11_80 (by decide) rfl rfl (Nat.le_of_ble_eq_true rfl) (sX11_isIn (h := h) (l0 := l1) (l1 := 33) (l2 := 126) ?_)
  refine E_if_ne 14 dX11_append_8 rfl (fun hc => ?_) (fun hc => ?_)
  · replace hP := hP.1 (by have := ite1' hc; omega)
    refine E_aload_n 0 0 dX11_append_14 rfl rfl ?_
    refine E_gI 9 9 dX11_append_15 FX11_122 ic_103 rfl ?_
    refine E_bipush dX11_append_18 (by decide) ?_
    refine E_icmp_ne 26 dX11_append_20 rfl (fun hc => ?_) (fun hc => ?_)
    · replace hP := hP.1 (hc)
      obtain ⟨⟨v3_0, v3_1⟩, hP⟩ := hP
      refine E_aload_n 0 0 dX11_append_26 rfl rfl ?_
      refine E_gR 111 8 dX11_append_27 FX11_31 ic_103 (by decide) ?_
      refine E_aload_n 0 0 dX11_append_30 rfl rfl ?_
      refine E_gI 9 9 dX11_append_31 FX11_122 ic_103 rfl ?_
      refine E_iload_n 1 1 dX11_append_34 rfl rfl ?_
      refine E_iastore dX11_append_35 ic_111 v3_0.1 v3_0.2 ?_
      refine E_aload_n 0 0 dX11_append_36 rfl rfl ?_
      refine E_dup dX11_append_37 rfl ?_
      refine E_gI 9 9 dX11_append_38 FX11_122 ic_103 rfl ?_
      refine E_top (y := (h 103 9)) (by simp [up]) ?_
      refine E_iconst dX11_append_41 (rg_of rfl) ?_
      refine E_iadd dX11_append_42 (rgI v3_1) ?_
      refine E_pI 9 9 dX11_append_43 PX11_122 ic_103 rfl ?_
      refine E_aload_n 0 0 dX11_append_46 rfl rfl ?_
      refine E_gI 9 9 dX11_append_47 FX11_122 ic_103 rfl ?_
      refine E_top (y := ((h 103 9) + 1)) (by simp [up]) ?_
      exact E_retI dX11_append_50 rfl hP
    · replace hP := hP.2 (by omega)
      refine E_bipush dX11_append_23 (by decide) ?_
      exact E_retI dX11_append_25 rfl hP
  · replace hP := hP.2 (by have := ite0 hc; omega)
    refine E_bipush dX11_append_11 (by decide) ?_
    exact E_retI dX11_append_13 rfl hP
theorem dX11_clearText_0 : decode prog_13_method_21_code 0 = .ok (.aload_n 0, 1) := by decide +kernel
theorem dX11_clearText_1 : decode prog_13_method_21_code 1 = .ok (.getfield 122, 3) := by decide +kernel
theorem dX11_clearText_4 : decode prog_13_method_21_code 4 = .ok (.istore_n 1, 1) := by decide +kernel
theorem dX11_clearText_5 : decode prog_13_method_21_code 5 = .ok (.aload_n 0, 1) := by decide +kernel
theorem dX11_clearText_6 : decode prog_13_method_21_code 6 = .ok (.iconst 0, 1) := by decide +kernel
theorem dX11_clearText_7 : decode prog_13_method_21_code 7 = .ok (.putfield 122, 3) := by decide +kernel
theorem dX11_clearText_10 : decode prog_13_method_21_code 10 = .ok (.iload_n 1, 1) := by decide +kernel
theorem dX11_clearText_11 : decode prog_13_method_21_code 11 = .ok (.ireturn, 1) := by decide +kernel
theorem sX11_clearText {Q : Int → Hp → Prop} {h : Hp}
    (hP : Q (h 103 9) (up h 103 9 0)) :
    CI 0 mX11_clearText [vr 103] h Q := by
  refine CI_of_E fX11_clearText.1 rfl (Nat.le_of_ble_eq_true rfl) ?_
  show E 0 mX11_clearText 0 [(0, vr 103)] [] h (qi Q)
  refine E_aload_n 0 0 dX11_clearText_0 rfl rfl ?_
  refine E_gI 9 9 dX11_clearText_1 FX11_122 ic_103 rfl ?_
  refine E_istore_n dX11_clearText_4 rfl (by decide) rfl ?_
  refine E_aload_n 1 0 dX11_clearText_5 rfl rfl ?_
  refine E_iconst dX11_clearText_6 (rg_of rfl) ?_
  refine E_pI 9 9 dX11_clearText_7 PX11_122 ic_103 rfl ?_
  refine E_iload_n 0 1 dX11_clearText_10 rfl rfl ?_
  exact E_retI dX11_clearText_11 rfl hP
theorem dX11_here_0 : decode prog_13_method_22_code 0 = .ok (.aload_n 0, 1) := by decide +kernel
theorem dX11_here_1 : decode prog_13_method_22_code 1 = .ok (.getfield 125, 3) := by decide +kernel
theorem dX11_here_4 : decode prog_13_method_22_code 4 = .ok (.aload_n 0, 1) := by decide +kernel
theorem dX11_here_5 : decode prog_13_method_22_code 5 = .ok (.getfield 122, 3) := by decide +kernel
theorem dX11_here_8 : decode prog_13_method_22_code 8 = .ok (.if_icmp .ge 15, 3) := by decide +kernel
theorem dX11_here_11 : decode prog_13_method_22_code 11 = .ok (.aload_n 0, 1) := by decide +kernel
theorem dX11_here_12 : decode prog_13_method_22_code 12 = .ok (.getfield 31, 3) := by decide +kernel
theorem dX11_here_15 : decode prog_13_method_22_code 15 = .ok (.aload_n 0, 1) := by decide +kernel
theorem dX11_here_16 : decode prog_13_method_22_code 16 = .ok (.getfield 125, 3) := by decide +kernel
theorem dX11_here_19 : decode prog_13_method_22_code 19 = .ok (.iaload, 1) := by decide +kernel
theorem dX11_here_20 : decode prog_13_method_22_code 20 = .ok (.goto 4, 3) := by decide +kernel
theorem dX11_here_23 : decode prog_13_method_22_code 23 = .ok (.iconst (-1), 1) := by decide +kernel
theorem dX11_here_24 : decode prog_13_method_22_code 24 = .ok (.ireturn, 1) := by decide +kernel
theorem sX11_here {Q : Int → Hp → Prop} {h : Hp}
    (hP : ((((h 103 18) < (h 103 9)) → (ix (h 103 18) 60))) ∧
    Q (if (h 103 18) ≥ (h 103 9) then (-1) else (h 111 (h 103 18))) h) :
    CI 0 mX11_here [vr 103] h Q := by
  refine CI_of_E fX11_here.1 rfl (Nat.le_of_ble_eq_true rfl) ?_
  show E 0 mX11_here 0 [(0, vr 103)] [] h (qi Q)
  obtain ⟨v1_0, hP⟩ := hP
  refine E_aload_n 0 0 dX11_here_0 rfl rfl ?_
  refine E_gI 18 18 dX11_here_1 FX11_125 ic_103 rfl ?_
  refine E_aload_n 0 0 dX11_here_4 rfl rfl ?_
  refine E_gI 9 9 dX11_here_5 FX11_122 ic_103 rfl ?_
  have hJ : E 0 mX11_here 24 [(0, vr 103)] [vi (if (h 103 18) ≥ (h 103 9) then (-1) else (h 111 (h 103 18)))] h (qi Q) := by
    exact E_retI dX11_here_24 rfl hP
  refine E_icmp_ge 23 dX11_here_8 rfl (fun hc => ?_) (fun hc => ?_)
  · have hp8 := (hc : (h 103 18) ≥ (h 103 9))
    refine E_iconst dX11_here_23 (rg_of rfl) ?_
    exact E_top (by first | exact (if_pos (by omega)).symm | exact (if_neg (by omega)).symm | (repeat first | rw [if_pos (by omega)] | rw [if_neg (by omega)])) hJ
  · have hp8 := (by omega : (h 103 18) < (h 103 9))
    refine E_aload_n 0 0 dX11_here_11 rfl rfl ?_
    refine E_gR 111 8 dX11_here_12 FX11_31 ic_103 (by decide) ?_
    refine E_aload_n 0 0 dX11_here_15 rfl rfl ?_
    refine E_gI 18 18 dX11_here_16 FX11_125 ic_103 rfl ?_
    refine E_iaload dX11_here_19 ic_111 (v1_0 (by omega)).1 (v1_0 (by omega)).2 ?_
    refine E_goto 24 dX11_here_20 rfl ?_
    exact E_top (by first | exact (if_pos (by omega)).symm | exact (if_neg (by omega)).symm | (repeat first | rw [if_pos (by omega)] | rw [if_neg (by omega)])) hJ
theorem dX11_wire_0 : decode prog_13_method_23_code 0 = .ok (.aload_n 0, 1) := by decide +kernel
theorem dX11_wire_1 : decode prog_13_method_23_code 1 = .ok (.invokevirtual 128, 3) := by decide +kernel
theorem dX11_wire_4 : decode prog_13_method_23_code 4 = .ok (.bipush 48, 2) := by decide +kernel
theorem dX11_wire_6 : decode prog_13_method_23_code 6 = .ok (.isub, 1) := by decide +kernel
theorem dX11_wire_7 : decode prog_13_method_23_code 7 = .ok (.istore_n 2, 1) := by decide +kernel
theorem dX11_wire_8 : decode prog_13_method_23_code 8 = .ok (.aload_n 0, 1) := by decide +kernel
theorem dX11_wire_9 : decode prog_13_method_23_code 9 = .ok (.dup, 1) := by decide +kernel
theorem dX11_wire_10 : decode prog_13_method_23_code 10 = .ok (.getfield 132, 3) := by decide +kernel
theorem dX11_wire_13 : decode prog_13_method_23_code 13 = .ok (.iload_n 2, 1) := by decide +kernel
theorem dX11_wire_14 : decode prog_13_method_23_code 14 = .ok (.iconst 0, 1) := by decide +kernel
theorem dX11_wire_15 : decode prog_13_method_23_code 15 = .ok (.aload_n 0, 1) := by decide +kernel
theorem dX11_wire_16 : decode prog_13_method_23_code 16 = .ok (.getfield 9, 3) := by decide +kernel
theorem dX11_wire_19 : decode prog_13_method_23_code 19 = .ok (.iload_n 1, 1) := by decide +kernel
theorem dX11_wire_20 : decode prog_13_method_23_code 20 = .ok (.iaload, 1) := by decide +kernel
theorem dX11_wire_21 : decode prog_13_method_23_code 21 = .ok (.iconst 1, 1) := by decide +kernel
theorem dX11_wire_22 : decode prog_13_method_23_code 22 = .ok (.isub, 1) := by decide +kernel
theorem dX11_wire_23 : decode prog_13_method_23_code 23 = .ok (.invokestatic 80, 3) := by decide +kernel
theorem dX11_wire_26 : decode prog_13_method_23_code 26 = .ok (.ifCond .eq 15, 3) := by decide +kernel
theorem dX11_wire_29 : decode prog_13_method_23_code 29 = .ok (.aload_n 0, 1) := by decide +kernel
theorem dX11_wire_30 : decode prog_13_method_23_code 30 = .ok (.getfield 136, 3) := by decide +kernel
theorem dX11_wire_33 : decode prog_13_method_23_code 33 = .ok (.iload_n 2, 1) := by decide +kernel
theorem dX11_wire_34 : decode prog_13_method_23_code 34 = .ok (.ishr, 1) := by decide +kernel
theorem dX11_wire_35 : decode prog_13_method_23_code 35 = .ok (.iconst 1, 1) := by decide +kernel
theorem dX11_wire_36 : decode prog_13_method_23_code 36 = .ok (.iand, 1) := by decide +kernel
theorem dX11_wire_37 : decode prog_13_method_23_code 37 = .ok (.iconst 1, 1) := by decide +kernel
theorem dX11_wire_38 : decode prog_13_method_23_code 38 = .ok (.if_icmp .ne 7, 3) := by decide +kernel
theorem dX11_wire_41 : decode prog_13_method_23_code 41 = .ok (.iconst 1, 1) := by decide +kernel
theorem dX11_wire_42 : decode prog_13_method_23_code 42 = .ok (.goto 4, 3) := by decide +kernel
theorem dX11_wire_45 : decode prog_13_method_23_code 45 = .ok (.iconst 0, 1) := by decide +kernel
theorem dX11_wire_46 : decode prog_13_method_23_code 46 = .ok (.ior, 1) := by decide +kernel
theorem dX11_wire_47 : decode prog_13_method_23_code 47 = .ok (.putfield 132, 3) := by decide +kernel
theorem dX11_wire_50 : decode prog_13_method_23_code 50 = .ok (.aload_n 0, 1) := by decide +kernel
theorem dX11_wire_51 : decode prog_13_method_23_code 51 = .ok (.getfield 132, 3) := by decide +kernel
theorem dX11_wire_54 : decode prog_13_method_23_code 54 = .ok (.ifCond .eq 5, 3) := by decide +kernel
theorem dX11_wire_57 : decode prog_13_method_23_code 57 = .ok (.iconst 0, 1) := by decide +kernel
theorem dX11_wire_58 : decode prog_13_method_23_code 58 = .ok (.ireturn, 1) := by decide +kernel
theorem dX11_wire_59 : decode prog_13_method_23_code 59 = .ok (.aload_n 0, 1) := by decide +kernel
theorem dX11_wire_60 : decode prog_13_method_23_code 60 = .ok (.dup, 1) := by decide +kernel
theorem dX11_wire_61 : decode prog_13_method_23_code 61 = .ok (.getfield 136, 3) := by decide +kernel
theorem dX11_wire_64 : decode prog_13_method_23_code 64 = .ok (.iconst 1, 1) := by decide +kernel
theorem dX11_wire_65 : decode prog_13_method_23_code 65 = .ok (.iload_n 2, 1) := by decide +kernel
theorem dX11_wire_66 : decode prog_13_method_23_code 66 = .ok (.ishl, 1) := by decide +kernel
theorem dX11_wire_67 : decode prog_13_method_23_code 67 = .ok (.ior, 1) := by decide +kernel
theorem dX11_wire_68 : decode prog_13_method_23_code 68 = .ok (.putfield 136, 3) := by decide +kernel
theorem dX11_wire_71 : decode prog_13_method_23_code 71 = .ok (.aload_n 0, 1) := by decide +kernel
theorem dX11_wire_72 : decode prog_13_method_23_code 72 = .ok (.dup, 1) := by decide +kernel
theorem dX11_wire_73 : decode prog_13_method_23_code 73 = .ok (.getfield 125, 3) := by decide +kernel
theorem dX11_wire_76 : decode prog_13_method_23_code 76 = .ok (.iconst 1, 1) := by decide +kernel
theorem dX11_wire_77 : decode prog_13_method_23_code 77 = .ok (.iadd, 1) := by decide +kernel
theorem dX11_wire_78 : decode prog_13_method_23_code 78 = .ok (.putfield 125, 3) := by decide +kernel
theorem dX11_wire_81 : decode prog_13_method_23_code 81 = .ok (.iload_n 2, 1) := by decide +kernel
theorem dX11_wire_82 : decode prog_13_method_23_code 82 = .ok (.ireturn, 1) := by decide +kernel
theorem sX11_wire {Q : Int → Hp → Prop} {h : Hp} {l1 : Int}
    (hP : ((((h 103 18) < (h 103 9)) → (ix (h 103 18) 60)) ∧ rj ((if (h 103 18) ≥ (h 103 9) then (-1) else (h 111 (h 103 18))) - 48)) ∧
    (∀ x2 : Int, x2 = ((if (h 103 18) ≥ (h 103 9) then (-1) else (h 111 (h 103 18))) - 48) →
    (ix l1 4 ∧ rj ((h 104 l1) - 1)) ∧
    (((j_ior (h 103 20) (if (x2 < 0 ∨ x2 > ((h 104 l1) - 1)) ∨ ((j_iand (j_ishr (h 103 19) x2) 1) = 1) then (1 : Int) else 0)) = 0 ∨ (j_ior (h 103 20) (if (x2 < 0 ∨ x2 > ((h 104 l1) - 1)) ∨ ((j_iand (j_ishr (h 103 19) x2) 1) = 1) then (1 : Int) else 0)) = 1)) ∧
    (((j_ior (h 103 20) (if (x2 < 0 ∨ x2 > ((h 104 l1) - 1)) ∨ ((j_iand (j_ishr (h 103 19) x2) 1) = 1) then (1 : Int) else 0)) = 0) →
     (rj ((h 103 18) + 1)) ∧
     Q x2 (up (up (up h 103 20 (j_ior (h 103 20) (if (x2 < 0 ∨ x2 > ((h 104 l1) - 1)) ∨ ((j_iand (j_ishr (h 103 19) x2) 1) = 1) then (1 : Int) else 0))) 103 19 (j_ior (h 103 19) (j_ishl 1 x2))) 103 18 ((h 103 18) + 1))) ∧
    (((j_ior (h 103 20) (if (x2 < 0 ∨ x2 > ((h 104 l1) - 1)) ∨ ((j_iand (j_ishr (h 103 19) x2) 1) = 1) then (1 : Int) else 0)) ≠ 0) →
     Q 0 (up h 103 20 (j_ior (h 103 20) (if (x2 < 0 ∨ x2 > ((h 104 l1) - 1)) ∨ ((j_iand (j_ishr (h 103 19) x2) 1) = 1) then (1 : Int) else 0)))))) :
    CI 1 mX11_wire [vr 103, vi l1] h Q := by
  refine CI_of_E fX11_wire.1 rfl (Nat.le_of_ble_eq_true rfl) ?_
  show E 1 mX11_wire 0 [(0, vr 103), (1, vi l1)] [] h (qi Q)
  obtain ⟨⟨v1_0, v1_1⟩, hP⟩ := hP
  refine E_aload_n 0 0 dX11_wire_0 rfl rfl ?_
  refine E_invVI [] dX11_wire_1 fX11_here lX11_128 ic_103 rfl (by decide) rfl rfl (Nat.le_of_ble_eq_true rfl) (sX11_here (h := h)  ⟨v1_0, ?_⟩)
  refine E_bipush dX11_wire_4 (by decide) ?_
  refine E_isub dX11_wire_6 (rgI v1_1) ?_
  obtain ⟨x2, hx2⟩ : ∃ x : Int, x = ((if (h 103 18) ≥ (h 103 9) then (-1) else (h 111 (h 103 18))) - 48) := ⟨_, rfl⟩
  refine E_top hx2.symm ?_
  replace hP := hP x2 hx2
  refine E_istore_n dX11_wire_7 rfl (by decide) rfl ?_
  obtain ⟨⟨v3_0, v3_1⟩, hP⟩ := hP
  refine E_aload_n 1 0 dX11_wire_8 rfl rfl ?_
  refine E_dup dX11_wire_9 rfl ?_
  refine E_gI 20 20 dX11_wire_10 FX11_132 ic_103 rfl ?_
  refine E_iload_n 0 2 dX11_wire_13 rfl rfl ?_
  refine E_iconst dX11_wire_14 (rg_of rfl) ?_
  refine E_aload_n 1 0 dX11_wire_15 rfl rfl ?_
  refine E_gR 104 0 dX11_wire_16 FX11_9 ic_103 (by decide) ?_
  refine E_iload_n 2 1 dX11_wire_19 rfl rfl ?_
  refine E_iaload dX11_wire_20 ic_104 v3_0.1 v3_0.2 ?_
  refine E_iconst dX11_wire_21 (rg_of rfl) ?_
  refine E_isub dX11_wire_22 (rgI v3_1) ?_
  refine E_invSI [vi x2, vi 0, vi ((h 104 l1) - 1)] dX11_wire_23 fX11_isIn lX11_80 (by decide) rfl rfl (Nat.le_of_ble_eq_true rfl) (sX11_isIn (h := h) (l0 := x2) (l1 := 0) (l2 := ((h 104 l1) - 1)) ?_)
  have hJ : E 1 mX11_wire 46 [(2, vi x2), (0, vr 103), (1, vi l1)] [vi (if (x2 < 0 ∨ x2 > ((h 104 l1) - 1)) ∨ ((j_iand (j_ishr (h 103 19) x2) 1) = 1) then (1 : Int) else 0), vi (h 103 20), vr 103] h (qi Q) := by
    obtain ⟨v4_0, hP⟩ := hP
    refine E_ior dX11_wire_46 ?_
    refine E_pZ 20 20 dX11_wire_47 PX11_132 ic_103 rfl v4_0 ?_
    refine E_aload_n 1 0 dX11_wire_50 rfl rfl ?_
    refine E_gI 20 20 dX11_wire_51 FX11_132 ic_103 rfl ?_
    refine E_top (y := (j_ior (h 103 20) (if (x2 < 0 ∨ x2 > ((h 104 l1) - 1)) ∨ ((j_iand (j_ishr (h 103 19) x2) 1) = 1) then (1 : Int) else 0))) (by simp [up]) ?_
    refine E_if_eq 59 dX11_wire_54 rfl (fun hc => ?_) (fun hc => ?_)
    · replace hP := hP.1 (hc)
      obtain ⟨v5_0, hP⟩ := hP
      refine E_aload_n 1 0 dX11_wire_59 rfl rfl ?_
      refine E_dup dX11_wire_60 rfl ?_
      refine E_gI 19 19 dX11_wire_61 FX11_136 ic_103 rfl ?_
      refine E_top (y := (h 103 19)) (by simp [up]) ?_
      refine E_iconst dX11_wire_64 (rg_of rfl) ?_
      refine E_iload_n 0 2 dX11_wire_65 rfl rfl ?_
      refine E_ishl dX11_wire_66 ?_
      refine E_ior dX11_wire_67 ?_
      refine E_pI 19 19 dX11_wire_68 PX11_136 ic_103 rfl ?_
      refine E_aload_n 1 0 dX11_wire_71 rfl rfl ?_
      refine E_dup dX11_wire_72 rfl ?_
      refine E_gI 18 18 dX11_wire_73 FX11_125 ic_103 rfl ?_
      refine E_top (y := (h 103 18)) (by simp [up]) ?_
      refine E_iconst dX11_wire_76 (rg_of rfl) ?_
      refine E_iadd dX11_wire_77 (rgI v5_0) ?_
      refine E_pI 18 18 dX11_wire_78 PX11_125 ic_103 rfl ?_
      refine E_iload_n 0 2 dX11_wire_81 rfl rfl ?_
      exact E_retI dX11_wire_82 rfl hP
    · replace hP := hP.2 (by omega)
      refine E_iconst dX11_wire_57 (rg_of rfl) ?_
      exact E_retI dX11_wire_58 rfl hP
  refine E_if_eq 41 dX11_wire_26 rfl (fun hc => ?_) (fun hc => ?_)
  · have hp26 := (by have := ite0 hc; omega : x2 < 0 ∨ x2 > ((h 104 l1) - 1))
    refine E_iconst dX11_wire_41 (rg_of rfl) ?_
    refine E_goto 46 dX11_wire_42 rfl ?_
    exact E_top (if_pos (by omega)).symm hJ
  · have hp26 := (by have := ite1 hc; omega : x2 ≥ 0 ∧ x2 ≤ ((h 104 l1) - 1))
    refine E_aload_n 1 0 dX11_wire_29 rfl rfl ?_
    refine E_gI 19 19 dX11_wire_30 FX11_136 ic_103 rfl ?_
    refine E_iload_n 0 2 dX11_wire_33 rfl rfl ?_
    refine E_ishr dX11_wire_34 ?_
    refine E_iconst dX11_wire_35 (rg_of rfl) ?_
    refine E_iand dX11_wire_36 ?_
    refine E_iconst dX11_wire_37 (rg_of rfl) ?_
    refine E_icmp_ne 45 dX11_wire_38 rfl (fun hc => ?_) (fun hc => ?_)
    · have hp38 := (hc : (j_iand (j_ishr (h 103 19) x2) 1) ≠ 1)
      refine E_iconst dX11_wire_45 (rg_of rfl) ?_
      exact E_top (if_neg (by omega)).symm hJ
    · have hp38 := (by omega : (j_iand (j_ishr (h 103 19) x2) 1) = 1)
      refine E_iconst dX11_wire_41 (rg_of rfl) ?_
      refine E_goto 46 dX11_wire_42 rfl ?_
      exact E_top (if_pos (by omega)).symm hJ
theorem dX11_sign_0 : decode prog_13_method_24_code 0 = .ok (.aload_n 0, 1) := by decide +kernel
theorem dX11_sign_1 : decode prog_13_method_24_code 1 = .ok (.dup, 1) := by decide +kernel
theorem dX11_sign_2 : decode prog_13_method_24_code 2 = .ok (.getfield 132, 3) := by decide +kernel
theorem dX11_sign_5 : decode prog_13_method_24_code 5 = .ok (.aload_n 0, 1) := by decide +kernel
theorem dX11_sign_6 : decode prog_13_method_24_code 6 = .ok (.invokevirtual 128, 3) := by decide +kernel
theorem dX11_sign_9 : decode prog_13_method_24_code 9 = .ok (.iload_n 1, 1) := by decide +kernel
theorem dX11_sign_10 : decode prog_13_method_24_code 10 = .ok (.if_icmp .eq 7, 3) := by decide +kernel
theorem dX11_sign_13 : decode prog_13_method_24_code 13 = .ok (.iconst 1, 1) := by decide +kernel
theorem dX11_sign_14 : decode prog_13_method_24_code 14 = .ok (.goto 4, 3) := by decide +kernel
theorem dX11_sign_17 : decode prog_13_method_24_code 17 = .ok (.iconst 0, 1) := by decide +kernel
theorem dX11_sign_18 : decode prog_13_method_24_code 18 = .ok (.ior, 1) := by decide +kernel
theorem dX11_sign_19 : decode prog_13_method_24_code 19 = .ok (.putfield 132, 3) := by decide +kernel
theorem dX11_sign_22 : decode prog_13_method_24_code 22 = .ok (.aload_n 0, 1) := by decide +kernel
theorem dX11_sign_23 : decode prog_13_method_24_code 23 = .ok (.dup, 1) := by decide +kernel
theorem dX11_sign_24 : decode prog_13_method_24_code 24 = .ok (.getfield 125, 3) := by decide +kernel
theorem dX11_sign_27 : decode prog_13_method_24_code 27 = .ok (.aload_n 0, 1) := by decide +kernel
theorem dX11_sign_28 : decode prog_13_method_24_code 28 = .ok (.getfield 132, 3) := by decide +kernel
theorem dX11_sign_31 : decode prog_13_method_24_code 31 = .ok (.ifCond .eq 7, 3) := by decide +kernel
theorem dX11_sign_34 : decode prog_13_method_24_code 34 = .ok (.iconst 0, 1) := by decide +kernel
theorem dX11_sign_35 : decode prog_13_method_24_code 35 = .ok (.goto 4, 3) := by decide +kernel
theorem dX11_sign_38 : decode prog_13_method_24_code 38 = .ok (.iconst 1, 1) := by decide +kernel
theorem dX11_sign_39 : decode prog_13_method_24_code 39 = .ok (.iadd, 1) := by decide +kernel
theorem dX11_sign_40 : decode prog_13_method_24_code 40 = .ok (.putfield 125, 3) := by decide +kernel
theorem dX11_sign_43 : decode prog_13_method_24_code 43 = .ok (.return_, 1) := by decide +kernel
theorem sX11_sign {Q : Hp → Prop} {h : Hp} {l1 : Int}
    (hP : ((((h 103 18) < (h 103 9)) → (ix (h 103 18) 60))) ∧
    (((j_ior (h 103 20) (if (if (h 103 18) ≥ (h 103 9) then (-1) else (h 111 (h 103 18))) ≠ l1 then (1 : Int) else 0)) = 0 ∨ (j_ior (h 103 20) (if (if (h 103 18) ≥ (h 103 9) then (-1) else (h 111 (h 103 18))) ≠ l1 then (1 : Int) else 0)) = 1)) ∧
    (rj ((h 103 18) + (if (j_ior (h 103 20) (if (if (h 103 18) ≥ (h 103 9) then (-1) else (h 111 (h 103 18))) ≠ l1 then (1 : Int) else 0)) = 0 then (1 : Int) else 0))) ∧
    Q (up (up h 103 20 (j_ior (h 103 20) (if (if (h 103 18) ≥ (h 103 9) then (-1) else (h 111 (h 103 18))) ≠ l1 then (1 : Int) else 0))) 103 18 ((h 103 18) + (if (j_ior (h 103 20) (if (if (h 103 18) ≥ (h 103 9) then (-1) else (h 111 (h 103 18))) ≠ l1 then (1 : Int) else 0)) = 0 then (1 : Int) else 0)))) :
    CV 1 mX11_sign [vr 103, vi l1] h Q := by
  refine CV_of_E fX11_sign.1 rfl (Nat.le_of_ble_eq_true rfl) ?_
  show E 1 mX11_sign 0 [(0, vr 103), (1, vi l1)] [] h (qv Q)
  obtain ⟨v1_0, hP⟩ := hP
  refine E_aload_n 0 0 dX11_sign_0 rfl rfl ?_
  refine E_dup dX11_sign_1 rfl ?_
  refine E_gI 20 20 dX11_sign_2 FX11_132 ic_103 rfl ?_
  refine E_aload_n 0 0 dX11_sign_5 rfl rfl ?_
  refine E_invVI [] dX11_sign_6 fX11_here lX11_128 ic_103 rfl (by decide) rfl rfl (Nat.le_of_ble_eq_true rfl) (sX11_here (h := h)  ⟨v1_0, ?_⟩)
  refine E_iload_n 1 1 dX11_sign_9 rfl rfl ?_
  have hJ : E 1 mX11_sign 18 [(0, vr 103), (1, vi l1)] [vi (if (if (h 103 18) ≥ (h 103 9) then (-1) else (h 111 (h 103 18))) ≠ l1 then (1 : Int) else 0), vi (h 103 20), vr 103] h (qv Q) := by
    obtain ⟨v2_0, hP⟩ := hP
    refine E_ior dX11_sign_18 ?_
    refine E_pZ 20 20 dX11_sign_19 PX11_132 ic_103 rfl v2_0 ?_
    refine E_aload_n 0 0 dX11_sign_22 rfl rfl ?_
    refine E_dup dX11_sign_23 rfl ?_
    refine E_gI 18 18 dX11_sign_24 FX11_125 ic_103 rfl ?_
    refine E_top (y := (h 103 18)) (by simp [up]) ?_
    refine E_aload_n 0 0 dX11_sign_27 rfl rfl ?_
    refine E_gI 20 20 dX11_sign_28 FX11_132 ic_103 rfl ?_
    refine E_top (y := (j_ior (h 103 20) (if (if (h 103 18) ≥ (h 103 9) then (-1) else (h 111 (h 103 18))) ≠ l1 then (1 : Int) else 0))) (by simp [up]) ?_
    have hJ : E 1 mX11_sign 39 [(0, vr 103), (1, vi l1)] [vi (if (j_ior (h 103 20) (if (if (h 103 18) ≥ (h 103 9) then (-1) else (h 111 (h 103 18))) ≠ l1 then (1 : Int) else 0)) = 0 then (1 : Int) else 0), vi (h 103 18), vr 103] (up h 103 20 (j_ior (h 103 20) (if (if (h 103 18) ≥ (h 103 9) then (-1) else (h 111 (h 103 18))) ≠ l1 then (1 : Int) else 0))) (qv Q) := by
      obtain ⟨v3_0, hP⟩ := hP
      refine E_iadd dX11_sign_39 (rgI v3_0) ?_
      refine E_pI 18 18 dX11_sign_40 PX11_125 ic_103 rfl ?_
      exact E_retV dX11_sign_43 rfl hP
    refine E_if_eq 38 dX11_sign_31 rfl (fun hc => ?_) (fun hc => ?_)
    · have hp31 := (hc : (j_ior (h 103 20) (if (if (h 103 18) ≥ (h 103 9) then (-1) else (h 111 (h 103 18))) ≠ l1 then (1 : Int) else 0)) = 0)
      refine E_iconst dX11_sign_38 (rg_of rfl) ?_
      exact E_top (if_pos (by omega)).symm hJ
    · have hp31 := (by omega : (j_ior (h 103 20) (if (if (h 103 18) ≥ (h 103 9) then (-1) else (h 111 (h 103 18))) ≠ l1 then (1 : Int) else 0)) ≠ 0)
      refine E_iconst dX11_sign_34 (rg_of rfl) ?_
      refine E_goto 39 dX11_sign_35 rfl ?_
      exact E_top (if_neg (by omega)).symm hJ
  refine E_icmp_eq 17 dX11_sign_10 rfl (fun hc => ?_) (fun hc => ?_)
  · have hp10 := (hc : (if (h 103 18) ≥ (h 103 9) then (-1) else (h 111 (h 103 18))) = l1)
    refine E_iconst dX11_sign_17 (rg_of rfl) ?_
    exact E_top (if_neg (by omega)).symm hJ
  · have hp10 := (by omega : (if (h 103 18) ≥ (h 103 9) then (-1) else (h 111 (h 103 18))) ≠ l1)
    refine E_iconst dX11_sign_13 (rg_of rfl) ?_
    refine E_goto 18 dX11_sign_14 rfl ?_
    exact E_top (if_pos (by omega)).symm hJ
theorem dX11_parse_0 : decode prog_13_method_25_code 0 = .ok (.iload_n 1, 1) := by decide +kernel
theorem dX11_parse_1 : decode prog_13_method_25_code 1 = .ok (.invokestatic 88, 3) := by decide +kernel
theorem dX11_parse_4 : decode prog_13_method_25_code 4 = .ok (.ifCond .ne 10, 3) := by decide +kernel
theorem dX11_parse_7 : decode prog_13_method_25_code 7 = .ok (.aload_n 0, 1) := by decide +kernel
theorem dX11_parse_8 : decode prog_13_method_25_code 8 = .ok (.iconst 0, 1) := by decide +kernel
theorem dX11_parse_9 : decode prog_13_method_25_code 9 = .ok (.putfield 122, 3) := by decide +kernel
theorem dX11_parse_12 : decode prog_13_method_25_code 12 = .ok (.iconst (-1), 1) := by decide +kernel
theorem dX11_parse_13 : decode prog_13_method_25_code 13 = .ok (.ireturn, 1) := by decide +kernel
theorem dX11_parse_14 : decode prog_13_method_25_code 14 = .ok (.aload_n 0, 1) := by decide +kernel
theorem dX11_parse_15 : decode prog_13_method_25_code 15 = .ok (.iconst 0, 1) := by decide +kernel
theorem dX11_parse_16 : decode prog_13_method_25_code 16 = .ok (.putfield 125, 3) := by decide +kernel
theorem dX11_parse_19 : decode prog_13_method_25_code 19 = .ok (.aload_n 0, 1) := by decide +kernel
theorem dX11_parse_20 : decode prog_13_method_25_code 20 = .ok (.iconst 0, 1) := by decide +kernel
theorem dX11_parse_21 : decode prog_13_method_25_code 21 = .ok (.putfield 136, 3) := by decide +kernel
theorem dX11_parse_24 : decode prog_13_method_25_code 24 = .ok (.aload_n 0, 1) := by decide +kernel
theorem dX11_parse_25 : decode prog_13_method_25_code 25 = .ok (.iconst 0, 1) := by decide +kernel
theorem dX11_parse_26 : decode prog_13_method_25_code 26 = .ok (.putfield 132, 3) := by decide +kernel
theorem dX11_parse_29 : decode prog_13_method_25_code 29 = .ok (.iconst 0, 1) := by decide +kernel
theorem dX11_parse_30 : decode prog_13_method_25_code 30 = .ok (.istore_n 2, 1) := by decide +kernel
theorem dX11_parse_31 : decode prog_13_method_25_code 31 = .ok (.iconst 1, 1) := by decide +kernel
theorem dX11_parse_32 : decode prog_13_method_25_code 32 = .ok (.istore_n 3, 1) := by decide +kernel
theorem dX11_parse_33 : decode prog_13_method_25_code 33 = .ok (.iload_n 3, 1) := by decide +kernel
theorem dX11_parse_34 : decode prog_13_method_25_code 34 = .ok (.ifCond .eq 140, 3) := by decide +kernel
theorem dX11_parse_37 : decode prog_13_method_25_code 37 = .ok (.aload_n 0, 1) := by decide +kernel
theorem dX11_parse_38 : decode prog_13_method_25_code 38 = .ok (.iload_n 1, 1) := by decide +kernel
theorem dX11_parse_39 : decode prog_13_method_25_code 39 = .ok (.invokevirtual 139, 3) := by decide +kernel
theorem dX11_parse_42 : decode prog_13_method_25_code 42 = .ok (.istore 4, 2) := by decide +kernel
theorem dX11_parse_44 : decode prog_13_method_25_code 44 = .ok (.aload_n 0, 1) := by decide +kernel
theorem dX11_parse_45 : decode prog_13_method_25_code 45 = .ok (.getfield 132, 3) := by decide +kernel
theorem dX11_parse_48 : decode prog_13_method_25_code 48 = .ok (.ifCond .ne 9, 3) := by decide +kernel
theorem dX11_parse_51 : decode prog_13_method_25_code 51 = .ok (.aload_n 0, 1) := by decide +kernel
theorem dX11_parse_52 : decode prog_13_method_25_code 52 = .ok (.bipush 58, 2) := by decide +kernel
theorem dX11_parse_54 : decode prog_13_method_25_code 54 = .ok (.invokevirtual 143, 3) := by decide +kernel
theorem dX11_parse_57 : decode prog_13_method_25_code 57 = .ok (.aload_n 0, 1) := by decide +kernel
theorem dX11_parse_58 : decode prog_13_method_25_code 58 = .ok (.getfield 132, 3) := by decide +kernel
theorem dX11_parse_61 : decode prog_13_method_25_code 61 = .ok (.ifCond .eq 7, 3) := by decide +kernel
theorem dX11_parse_64 : decode prog_13_method_25_code 64 = .ok (.iconst 0, 1) := by decide +kernel
theorem dX11_parse_65 : decode prog_13_method_25_code 65 = .ok (.goto 8, 3) := by decide +kernel
theorem dX11_parse_68 : decode prog_13_method_25_code 68 = .ok (.aload_n 0, 1) := by decide +kernel
theorem dX11_parse_69 : decode prog_13_method_25_code 69 = .ok (.iload_n 1, 1) := by decide +kernel
theorem dX11_parse_70 : decode prog_13_method_25_code 70 = .ok (.invokevirtual 139, 3) := by decide +kernel
theorem dX11_parse_73 : decode prog_13_method_25_code 73 = .ok (.istore 5, 2) := by decide +kernel
theorem dX11_parse_75 : decode prog_13_method_25_code 75 = .ok (.aload_n 0, 1) := by decide +kernel
theorem dX11_parse_76 : decode prog_13_method_25_code 76 = .ok (.getfield 132, 3) := by decide +kernel
theorem dX11_parse_79 : decode prog_13_method_25_code 79 = .ok (.ifCond .ne 22, 3) := by decide +kernel
theorem dX11_parse_82 : decode prog_13_method_25_code 82 = .ok (.aload_n 0, 1) := by decide +kernel
theorem dX11_parse_83 : decode prog_13_method_25_code 83 = .ok (.getfield 49, 3) := by decide +kernel
theorem dX11_parse_86 : decode prog_13_method_25_code 86 = .ok (.iload_n 2, 1) := by decide +kernel
theorem dX11_parse_87 : decode prog_13_method_25_code 87 = .ok (.iload 4, 2) := by decide +kernel
theorem dX11_parse_89 : decode prog_13_method_25_code 89 = .ok (.iastore, 1) := by decide +kernel
theorem dX11_parse_90 : decode prog_13_method_25_code 90 = .ok (.aload_n 0, 1) := by decide +kernel
theorem dX11_parse_91 : decode prog_13_method_25_code 91 = .ok (.getfield 52, 3) := by decide +kernel
theorem dX11_parse_94 : decode prog_13_method_25_code 94 = .ok (.iload_n 2, 1) := by decide +kernel
theorem dX11_parse_95 : decode prog_13_method_25_code 95 = .ok (.iload 5, 2) := by decide +kernel
theorem dX11_parse_97 : decode prog_13_method_25_code 97 = .ok (.iastore, 1) := by decide +kernel
theorem dX11_parse_98 : decode prog_13_method_25_code 98 = .ok (.iinc 2 1, 3) := by decide +kernel
theorem dX11_parse_101 : decode prog_13_method_25_code 101 = .ok (.aload_n 0, 1) := by decide +kernel
theorem dX11_parse_102 : decode prog_13_method_25_code 102 = .ok (.getfield 132, 3) := by decide +kernel
theorem dX11_parse_105 : decode prog_13_method_25_code 105 = .ok (.ifCond .ne 25, 3) := by decide +kernel
theorem dX11_parse_108 : decode prog_13_method_25_code 108 = .ok (.aload_n 0, 1) := by decide +kernel
theorem dX11_parse_109 : decode prog_13_method_25_code 109 = .ok (.invokevirtual 128, 3) := by decide +kernel
theorem dX11_parse_112 : decode prog_13_method_25_code 112 = .ok (.bipush 44, 2) := by decide +kernel
theorem dX11_parse_114 : decode prog_13_method_25_code 114 = .ok (.if_icmp .eq 12, 3) := by decide +kernel
theorem dX11_parse_117 : decode prog_13_method_25_code 117 = .ok (.aload_n 0, 1) := by decide +kernel
theorem dX11_parse_118 : decode prog_13_method_25_code 118 = .ok (.invokevirtual 128, 3) := by decide +kernel
theorem dX11_parse_121 : decode prog_13_method_25_code 121 = .ok (.bipush 59, 2) := by decide +kernel
theorem dX11_parse_123 : decode prog_13_method_25_code 123 = .ok (.if_icmp .ne 7, 3) := by decide +kernel
theorem dX11_parse_126 : decode prog_13_method_25_code 126 = .ok (.iconst 1, 1) := by decide +kernel
theorem dX11_parse_127 : decode prog_13_method_25_code 127 = .ok (.goto 4, 3) := by decide +kernel
theorem dX11_parse_130 : decode prog_13_method_25_code 130 = .ok (.iconst 0, 1) := by decide +kernel
theorem dX11_parse_131 : decode prog_13_method_25_code 131 = .ok (.istore_n 3, 1) := by decide +kernel
theorem dX11_parse_132 : decode prog_13_method_25_code 132 = .ok (.aload_n 0, 1) := by decide +kernel
theorem dX11_parse_133 : decode prog_13_method_25_code 133 = .ok (.aload_n 0, 1) := by decide +kernel
theorem dX11_parse_134 : decode prog_13_method_25_code 134 = .ok (.invokevirtual 128, 3) := by decide +kernel
theorem dX11_parse_137 : decode prog_13_method_25_code 137 = .ok (.bipush 59, 2) := by decide +kernel
theorem dX11_parse_139 : decode prog_13_method_25_code 139 = .ok (.if_icmp .ne 7, 3) := by decide +kernel
theorem dX11_parse_142 : decode prog_13_method_25_code 142 = .ok (.iconst 0, 1) := by decide +kernel
theorem dX11_parse_143 : decode prog_13_method_25_code 143 = .ok (.goto 7, 3) := by decide +kernel
theorem dX11_parse_146 : decode prog_13_method_25_code 146 = .ok (.aload_n 0, 1) := by decide +kernel
theorem dX11_parse_147 : decode prog_13_method_25_code 147 = .ok (.getfield 136, 3) := by decide +kernel
theorem dX11_parse_150 : decode prog_13_method_25_code 150 = .ok (.putfield 136, 3) := by decide +kernel
theorem dX11_parse_153 : decode prog_13_method_25_code 153 = .ok (.aload_n 0, 1) := by decide +kernel
theorem dX11_parse_154 : decode prog_13_method_25_code 154 = .ok (.dup, 1) := by decide +kernel
theorem dX11_parse_155 : decode prog_13_method_25_code 155 = .ok (.getfield 125, 3) := by decide +kernel
theorem dX11_parse_158 : decode prog_13_method_25_code 158 = .ok (.iload_n 3, 1) := by decide +kernel
theorem dX11_parse_159 : decode prog_13_method_25_code 159 = .ok (.ifCond .eq 7, 3) := by decide +kernel
theorem dX11_parse_162 : decode prog_13_method_25_code 162 = .ok (.iconst 1, 1) := by decide +kernel
theorem dX11_parse_163 : decode prog_13_method_25_code 163 = .ok (.goto 4, 3) := by decide +kernel
theorem dX11_parse_166 : decode prog_13_method_25_code 166 = .ok (.iconst 0, 1) := by decide +kernel
theorem dX11_parse_167 : decode prog_13_method_25_code 167 = .ok (.iadd, 1) := by decide +kernel
theorem dX11_parse_168 : decode prog_13_method_25_code 168 = .ok (.putfield 125, 3) := by decide +kernel
theorem dX11_parse_171 : decode prog_13_method_25_code 171 = .ok (.goto (-138), 3) := by decide +kernel
theorem dX11_parse_174 : decode prog_13_method_25_code 174 = .ok (.aload_n 0, 1) := by decide +kernel
theorem dX11_parse_175 : decode prog_13_method_25_code 175 = .ok (.dup, 1) := by decide +kernel
theorem dX11_parse_176 : decode prog_13_method_25_code 176 = .ok (.getfield 132, 3) := by decide +kernel
theorem dX11_parse_179 : decode prog_13_method_25_code 179 = .ok (.aload_n 0, 1) := by decide +kernel
theorem dX11_parse_180 : decode prog_13_method_25_code 180 = .ok (.getfield 125, 3) := by decide +kernel
theorem dX11_parse_183 : decode prog_13_method_25_code 183 = .ok (.aload_n 0, 1) := by decide +kernel
theorem dX11_parse_184 : decode prog_13_method_25_code 184 = .ok (.getfield 122, 3) := by decide +kernel
theorem dX11_parse_187 : decode prog_13_method_25_code 187 = .ok (.if_icmp .ge 7, 3) := by decide +kernel
theorem dX11_parse_190 : decode prog_13_method_25_code 190 = .ok (.iconst 1, 1) := by decide +kernel
theorem dX11_parse_191 : decode prog_13_method_25_code 191 = .ok (.goto 4, 3) := by decide +kernel
theorem dX11_parse_194 : decode prog_13_method_25_code 194 = .ok (.iconst 0, 1) := by decide +kernel
theorem dX11_parse_195 : decode prog_13_method_25_code 195 = .ok (.ior, 1) := by decide +kernel
theorem dX11_parse_196 : decode prog_13_method_25_code 196 = .ok (.putfield 132, 3) := by decide +kernel
theorem dX11_parse_199 : decode prog_13_method_25_code 199 = .ok (.aload_n 0, 1) := by decide +kernel
theorem dX11_parse_200 : decode prog_13_method_25_code 200 = .ok (.iconst 0, 1) := by decide +kernel
theorem dX11_parse_201 : decode prog_13_method_25_code 201 = .ok (.putfield 122, 3) := by decide +kernel
theorem dX11_parse_204 : decode prog_13_method_25_code 204 = .ok (.aload_n 0, 1) := by decide +kernel
theorem dX11_parse_205 : decode prog_13_method_25_code 205 = .ok (.getfield 132, 3) := by decide +kernel
theorem dX11_parse_208 : decode prog_13_method_25_code 208 = .ok (.ifCond .eq 11, 3) := by decide +kernel
theorem dX11_parse_211 : decode prog_13_method_25_code 211 = .ok (.bipush (-100), 2) := by decide +kernel
theorem dX11_parse_213 : decode prog_13_method_25_code 213 = .ok (.aload_n 0, 1) := by decide +kernel
theorem dX11_parse_214 : decode prog_13_method_25_code 214 = .ok (.getfield 125, 3) := by decide +kernel
theorem dX11_parse_217 : decode prog_13_method_25_code 217 = .ok (.isub, 1) := by decide +kernel
theorem dX11_parse_218 : decode prog_13_method_25_code 218 = .ok (.ireturn, 1) := by decide +kernel
theorem dX11_parse_219 : decode prog_13_method_25_code 219 = .ok (.aload_n 0, 1) := by decide +kernel
theorem dX11_parse_220 : decode prog_13_method_25_code 220 = .ok (.invokevirtual 92, 3) := by decide +kernel
theorem dX11_parse_223 : decode prog_13_method_25_code 223 = .ok (.aload_n 0, 1) := by decide +kernel
theorem dX11_parse_224 : decode prog_13_method_25_code 224 = .ok (.getfield 13, 3) := by decide +kernel
theorem dX11_parse_227 : decode prog_13_method_25_code 227 = .ok (.iload_n 1, 1) := by decide +kernel
theorem dX11_parse_228 : decode prog_13_method_25_code 228 = .ok (.iconst 0, 1) := by decide +kernel
theorem dX11_parse_229 : decode prog_13_method_25_code 229 = .ok (.iastore, 1) := by decide +kernel
theorem dX11_parse_230 : decode prog_13_method_25_code 230 = .ok (.iconst 0, 1) := by decide +kernel
theorem dX11_parse_231 : decode prog_13_method_25_code 231 = .ok (.istore 4, 2) := by decide +kernel
theorem dX11_parse_233 : decode prog_13_method_25_code 233 = .ok (.iload 4, 2) := by decide +kernel
theorem dX11_parse_235 : decode prog_13_method_25_code 235 = .ok (.iload_n 2, 1) := by decide +kernel
theorem dX11_parse_236 : decode prog_13_method_25_code 236 = .ok (.if_icmp .ge 30, 3) := by decide +kernel
theorem dX11_parse_239 : decode prog_13_method_25_code 239 = .ok (.aload_n 0, 1) := by decide +kernel
theorem dX11_parse_240 : decode prog_13_method_25_code 240 = .ok (.iload_n 1, 1) := by decide +kernel
theorem dX11_parse_241 : decode prog_13_method_25_code 241 = .ok (.iload 4, 2) := by decide +kernel
theorem dX11_parse_243 : decode prog_13_method_25_code 243 = .ok (.aload_n 0, 1) := by decide +kernel
theorem dX11_parse_244 : decode prog_13_method_25_code 244 = .ok (.getfield 49, 3) := by decide +kernel
theorem dX11_parse_247 : decode prog_13_method_25_code 247 = .ok (.iload 4, 2) := by decide +kernel
theorem dX11_parse_249 : decode prog_13_method_25_code 249 = .ok (.iaload, 1) := by decide +kernel
theorem dX11_parse_250 : decode prog_13_method_25_code 250 = .ok (.aload_n 0, 1) := by decide +kernel
theorem dX11_parse_251 : decode prog_13_method_25_code 251 = .ok (.getfield 52, 3) := by decide +kernel
theorem dX11_parse_254 : decode prog_13_method_25_code 254 = .ok (.iload 4, 2) := by decide +kernel
theorem dX11_parse_256 : decode prog_13_method_25_code 256 = .ok (.iaload, 1) := by decide +kernel
theorem dX11_parse_257 : decode prog_13_method_25_code 257 = .ok (.invokevirtual 106, 3) := by decide +kernel
theorem dX11_parse_260 : decode prog_13_method_25_code 260 = .ok (.iinc 4 1, 3) := by decide +kernel
theorem dX11_parse_263 : decode prog_13_method_25_code 263 = .ok (.goto (-30), 3) := by decide +kernel
theorem dX11_parse_266 : decode prog_13_method_25_code 266 = .ok (.iload_n 2, 1) := by decide +kernel
theorem dX11_parse_267 : decode prog_13_method_25_code 267 = .ok (.ireturn, 1) := by decide +kernel
theorem sX11_parse_233 {Q : Int → Hp → Prop} {h : Hp} {l1 l2 l4 : Int}
    (hP : ((l4 ≥ l2) →
     Q l2 h) ∧
    ((l4 < l2) →
     (ix l4 40) ∧
     CV 0 mX11_puts [vr 103, vi l1, vi l4, vi (h 117 l4), vi (h 118 l4)] h (fun h4 =>
      (rj (l4 + 1)) ∧
      E 2 mX11_parse 233 [(0, vr 103), (1, vi l1), (2, vi l2), (4, vi (l4 + 1))] [] h4 (qi Q)))) :
    E 2 mX11_parse 233 [(0, vr 103), (1, vi l1), (2, vi l2), (4, vi l4)] [] h (qi Q) := by
  refine E_iload 3 dX11_parse_233 rfl ?_
  refine E_iload_n 2 2 dX11_parse_235 rfl rfl ?_
  refine E_icmp_ge 266 dX11_parse_236 rfl (fun hc => ?_) (fun hc => ?_)
  · replace hP := hP.1 (hc)
    refine E_iload_n 2 2 dX11_parse_266 rfl rfl ?_
    exact E_retI dX11_parse_267 rfl hP
  · replace hP := hP.2 (by omega)
    obtain ⟨v3_0, hP⟩ := hP
    refine E_aload_n 0 0 dX11_parse_239 rfl rfl ?_
    refine E_iload_n 1 1 dX11_parse_240 rfl rfl ?_
    refine E_iload 3 dX11_parse_241 rfl ?_
    refine E_aload_n 0 0 dX11_parse_243 rfl rfl ?_
    refine E_gR 117 16 dX11_parse_244 FX11_49 ic_103 (by decide) ?_
    refine E_iload 3 dX11_parse_247 rfl ?_
    refine E_iaload dX11_parse_249 ic_117 v3_0.1 v3_0.2 ?_
    refine E_aload_n 0 0 dX11_parse_250 rfl rfl ?_
    refine E_gR 118 17 dX11_parse_251 FX11_52 ic_103 (by decide) ?_
    refine E_iload 3 dX11_parse_254 rfl ?_
    refine E_iaload dX11_parse_256 ic_118 v3_0.1 v3_0.2 ?_
    refine E_invVV [vi l1, vi l4, vi (h 117 l4), vi (h 118 l4)] dX11_parse_257 fX11_puts lX11_106 ic_103 rfl (by decide) rfl rfl (Nat.le_of_ble_eq_true rfl) (CV_mono hP (fun h4 hP => ?_))
    obtain ⟨v5_0, hP⟩ := hP
    refine E_iinc 3 dX11_parse_260 rfl (rgI v5_0) (by decide) rfl ?_
    refine E_goto 233 dX11_parse_263 rfl ?_
    exact E_sub [1, 2, 3, 0] rfl hP
theorem sX11_parse_174 {Q : Int → Hp → Prop} {h : Hp} {l1 l2 : Int}
    (hP : (((j_ior (h 103 20) (if (h 103 18) < (h 103 9) then (1 : Int) else 0)) = 0 ∨ (j_ior (h 103 20) (if (h 103 18) < (h 103 9) then (1 : Int) else 0)) = 1)) ∧
    (((j_ior (h 103 20) (if (h 103 18) < (h 103 9) then (1 : Int) else 0)) = 0) →
     CV 0 mX11_remembers [vr 103] (up (up h 103 20 (j_ior (h 103 20) (if (h 103 18) < (h 103 9) then (1 : Int) else 0))) 103 9 0) (fun h4 =>
      (ix l1 4) ∧
      E 2 mX11_parse 233 [(0, vr 103), (1, vi l1), (2, vi l2), (4, vi 0)] [] (up h4 105 l1 0) (qi Q))) ∧
    (((j_ior (h 103 20) (if (h 103 18) < (h 103 9) then (1 : Int) else 0)) ≠ 0) →
     (rj ((-100) - (h 103 18))) ∧
     Q ((-100) - (h 103 18)) (up (up h 103 20 (j_ior (h 103 20) (if (h 103 18) < (h 103 9) then (1 : Int) else 0))) 103 9 0))) :
    E 2 mX11_parse 174 [(0, vr 103), (1, vi l1), (2, vi l2)] [] h (qi Q) := by
  refine E_aload_n 0 0 dX11_parse_174 rfl rfl ?_
  refine E_dup dX11_parse_175 rfl ?_
  refine E_gI 20 20 dX11_parse_176 FX11_132 ic_103 rfl ?_
  refine E_aload_n 0 0 dX11_parse_179 rfl rfl ?_
  refine E_gI 18 18 dX11_parse_180 FX11_125 ic_103 rfl ?_
  refine E_aload_n 0 0 dX11_parse_183 rfl rfl ?_
  refine E_gI 9 9 dX11_parse_184 FX11_122 ic_103 rfl ?_
  have hJ : E 2 mX11_parse 195 [(0, vr 103), (1, vi l1), (2, vi l2)] [vi (if (h 103 18) < (h 103 9) then (1 : Int) else 0), vi (h 103 20), vr 103] h (qi Q) := by
    obtain ⟨v2_0, hP⟩ := hP
    refine E_ior dX11_parse_195 ?_
    refine E_pZ 20 20 dX11_parse_196 PX11_132 ic_103 rfl v2_0 ?_
    refine E_aload_n 0 0 dX11_parse_199 rfl rfl ?_
    refine E_iconst dX11_parse_200 (rg_of rfl) ?_
    refine E_pI 9 9 dX11_parse_201 PX11_122 ic_103 rfl ?_
    refine E_aload_n 0 0 dX11_parse_204 rfl rfl ?_
    refine E_gI 20 20 dX11_parse_205 FX11_132 ic_103 rfl ?_
    refine E_top (y := (j_ior (h 103 20) (if (h 103 18) < (h 103 9) then (1 : Int) else 0))) (by simp [up]) ?_
    refine E_if_eq 219 dX11_parse_208 rfl (fun hc => ?_) (fun hc => ?_)
    · replace hP := hP.1 (hc)
      refine E_aload_n 0 0 dX11_parse_219 rfl rfl ?_
      refine E_invVV [] dX11_parse_220 fX11_remembers lX11_92 ic_103 rfl (by decide) rfl rfl (Nat.le_of_ble_eq_true rfl) (CV_mono hP (fun h4 hP => ?_))
      obtain ⟨v5_0, hP⟩ := hP
      refine E_aload_n 0 0 dX11_parse_223 rfl rfl ?_
      refine E_gR 105 1 dX11_parse_224 FX11_13 ic_103 (by decide) ?_
      refine E_iload_n 1 1 dX11_parse_227 rfl rfl ?_
      refine E_iconst dX11_parse_228 (rg_of rfl) ?_
      refine E_iastore dX11_parse_229 ic_105 v5_0.1 v5_0.2 ?_
      refine E_iconst dX11_parse_230 (rg_of rfl) ?_
      refine E_istore dX11_parse_231 (by decide) rfl ?_
      exact E_sub [1, 2, 3, 0] rfl hP
    · replace hP := hP.2 (by omega)
      obtain ⟨v6_0, hP⟩ := hP
      refine E_bipush dX11_parse_211 (by decide) ?_
      refine E_aload_n 0 0 dX11_parse_213 rfl rfl ?_
      refine E_gI 18 18 dX11_parse_214 FX11_125 ic_103 rfl ?_
      refine E_top (y := (h 103 18)) (by simp [up]) ?_
      refine E_isub dX11_parse_217 (rgI v6_0) ?_
      exact E_retI dX11_parse_218 rfl hP
  refine E_icmp_ge 194 dX11_parse_187 rfl (fun hc => ?_) (fun hc => ?_)
  · have hp187 := (hc : (h 103 18) ≥ (h 103 9))
    refine E_iconst dX11_parse_194 (rg_of rfl) ?_
    exact E_top (if_neg (by omega)).symm hJ
  · have hp187 := (by omega : (h 103 18) < (h 103 9))
    refine E_iconst dX11_parse_190 (rg_of rfl) ?_
    refine E_goto 195 dX11_parse_191 rfl ?_
    exact E_top (if_pos (by omega)).symm hJ
theorem sX11_parse_101 {Q : Int → Hp → Prop} {h : Hp} {l1 l2 : Int}
    (hP : ((((h 103 20) = 0) → (((h 103 18) < (h 103 9)) → (ix (h 103 18) 60))) ∧ (((h 103 20) = 0 ∧ (if (h 103 18) ≥ (h 103 9) then (-1) else (h 111 (h 103 18))) ≠ 44) → (((h 103 18) < (h 103 9)) → (ix (h 103 18) 60)))) ∧
    ((((h 103 18) < (h 103 9)) → (ix (h 103 18) 60))) ∧
    ((rj ((h 103 18) + (if ((h 103 20) = 0) ∧ ((if (h 103 18) ≥ (h 103 9) then (-1) else (h 111 (h 103 18))) = 44 ∨ (if (h 103 18) ≥ (h 103 9) then (-1) else (h 111 (h 103 18))) = 59) then (1 : Int) else 0)))) ∧
    E 2 mX11_parse 33 [(0, vr 103), (1, vi l1), (2, vi l2), (3, vi (if ((h 103 20) = 0) ∧ ((if (h 103 18) ≥ (h 103 9) then (-1) else (h 111 (h 103 18))) = 44 ∨ (if (h 103 18) ≥ (h 103 9) then (-1) else (h 111 (h 103 18))) = 59) then (1 : Int) else 0))] [] (up (up h 103 19 (if (if (h 103 18) ≥ (h 103 9) then (-1) else (h 111 (h 103 18))) ≠ 59 then (h 103 19) else 0)) 103 18 ((h 103 18) + (if ((h 103 20) = 0) ∧ ((if (h 103 18) ≥ (h 103 9) then (-1) else (h 111 (h 103 18))) = 44 ∨ (if (h 103 18) ≥ (h 103 9) then (-1) else (h 111 (h 103 18))) = 59) then (1 : Int) else 0))) (qi Q)) :
    E 2 mX11_parse 101 [(0, vr 103), (1, vi l1), (2, vi l2)] [] h (qi Q) := by
  obtain ⟨⟨v1_0, v1_1⟩, hP⟩ := hP
  refine E_aload_n 0 0 dX11_parse_101 rfl rfl ?_
  refine E_gI 20 20 dX11_parse_102 FX11_132 ic_103 rfl ?_
  have hJ : E 2 mX11_parse 131 [(0, vr 103), (1, vi l1), (2, vi l2)] [vi (if ((h 103 20) = 0) ∧ ((if (h 103 18) ≥ (h 103 9) then (-1) else (h 111 (h 103 18))) = 44 ∨ (if (h 103 18) ≥ (h 103 9) then (-1) else (h 111 (h 103 18))) = 59) then (1 : Int) else 0)] h (qi Q) := by
    obtain ⟨v2_0, hP⟩ := hP
    refine E_istore_n dX11_parse_131 rfl (by decide) rfl ?_
    refine E_aload_n 1 0 dX11_parse_132 rfl rfl ?_
    refine E_aload_n 1 0 dX11_parse_133 rfl rfl ?_
    refine E_invVI [] dX11_parse_134 fX11_here lX11_128 ic_103 rfl (by decide) rfl rfl (Nat.le_of_ble_eq_true rfl) (sX11_here (h := h)  ⟨v2_0, ?_⟩)
    refine E_bipush dX11_parse_137 (by decide) ?_
    have hJ : E 2 mX11_parse 150 [(3, vi (if ((h 103 20) = 0) ∧ ((if (h 103 18) ≥ (h 103 9) then (-1) else (h 111 (h 103 18))) = 44 ∨ (if (h 103 18) ≥ (h 103 9) then (-1) else (h 111 (h 103 18))) = 59) then (1 : Int) else 0)), (0, vr 103), (1, vi l1), (2, vi l2)] [vi (if (if (h 103 18) ≥ (h 103 9) then (-1) else (h 111 (h 103 18))) ≠ 59 then (h 103 19) else 0), vr 103] h (qi Q) := by
      refine E_pI 19 19 dX11_parse_150 PX11_136 ic_103 rfl ?_
      refine E_aload_n 1 0 dX11_parse_153 rfl rfl ?_
      refine E_dup dX11_parse_154 rfl ?_
      refine E_gI 18 18 dX11_parse_155 FX11_125 ic_103 rfl ?_
      refine E_top (y := (h 103 18)) (by simp [up]) ?_
      refine E_iload_n 0 3 dX11_parse_158 rfl rfl ?_
      have hJ : E 2 mX11_parse 167 [(3, vi (if ((h 103 20) = 0) ∧ ((if (h 103 18) ≥ (h 103 9) then (-1) else (h 111 (h 103 18))) = 44 ∨ (if (h 103 18) ≥ (h 103 9) then (-1) else (h 111 (h 103 18))) = 59) then (1 : Int) else 0)), (0, vr 103), (1, vi l1), (2, vi l2)] [vi (if ((h 103 20) = 0) ∧ ((if (h 103 18) ≥ (h 103 9) then (-1) else (h 111 (h 103 18))) = 44 ∨ (if (h 103 18) ≥ (h 103 9) then (-1) else (h 111 (h 103 18))) = 59) then (1 : Int) else 0), vi (h 103 18), vr 103] (up h 103 19 (if (if (h 103 18) ≥ (h 103 9) then (-1) else (h 111 (h 103 18))) ≠ 59 then (h 103 19) else 0)) (qi Q) := by
        obtain ⟨v4_0, hP⟩ := hP
        refine E_iadd dX11_parse_167 (rgI v4_0) ?_
        refine E_pI 18 18 dX11_parse_168 PX11_125 ic_103 rfl ?_
        refine E_goto 33 dX11_parse_171 rfl ?_
        exact E_sub [1, 2, 3, 0] rfl hP
      refine E_if_eq 166 dX11_parse_159 rfl (fun hc => ?_) (fun hc => ?_)
      · have hp159 := (by have := ite0 hc; omega : (h 103 20) ≠ 0 ∨ ((if (h 103 18) ≥ (h 103 9) then (-1) else (h 111 (h 103 18))) ≠ 44 ∧ (if (h 103 18) ≥ (h 103 9) then (-1) else (h 111 (h 103 18))) ≠ 59))
        refine E_iconst dX11_parse_166 (rg_of rfl) ?_
        exact E_top (if_neg (by omega)).symm hJ
      · have hp159 := (by have := ite1 hc; omega : ((h 103 20) = 0) ∧ ((if (h 103 18) ≥ (h 103 9) then (-1) else (h 111 (h 103 18))) = 44 ∨ (if (h 103 18) ≥ (h 103 9) then (-1) else (h 111 (h 103 18))) = 59))
        refine E_iconst dX11_parse_162 (rg_of rfl) ?_
        refine E_goto 167 dX11_parse_163 rfl ?_
        exact E_top (if_pos (by omega)).symm hJ
    refine E_icmp_ne 146 dX11_parse_139 rfl (fun hc => ?_) (fun hc => ?_)
    · have hp139 := (hc : (if (h 103 18) ≥ (h 103 9) then (-1) else (h 111 (h 103 18))) ≠ 59)
      refine E_aload_n 1 0 dX11_parse_146 rfl rfl ?_
      refine E_gI 19 19 dX11_parse_147 FX11_136 ic_103 rfl ?_
      exact E_top (by first | exact (if_pos (by omega)).symm | exact (if_neg (by omega)).symm | (repeat first | rw [if_pos (by omega)] | rw [if_neg (by omega)])) hJ
    · have hp139 := (by omega : (if (h 103 18) ≥ (h 103 9) then (-1) else (h 111 (h 103 18))) = 59)
      refine E_iconst dX11_parse_142 (rg_of rfl) ?_
      refine E_goto 150 dX11_parse_143 rfl ?_
      exact E_top (by first | exact (if_pos (by omega)).symm | exact (if_neg (by omega)).symm | (repeat first | rw [if_pos (by omega)] | rw [if_neg (by omega)])) hJ
  refine E_if_ne 130 dX11_parse_105 rfl (fun hc => ?_) (fun hc => ?_)
  · have hp105 := (hc : (h 103 20) ≠ 0)
    refine E_iconst dX11_parse_130 (rg_of rfl) ?_
    exact E_top (if_neg (by omega)).symm hJ
  · have hp105 := (by omega : (h 103 20) = 0)
    refine E_aload_n 0 0 dX11_parse_108 rfl rfl ?_
    refine E_invVI [] dX11_parse_109 fX11_here lX11_128 ic_103 rfl (by decide) rfl rfl (Nat.le_of_ble_eq_true rfl) (sX11_here (h := h)  ⟨(v1_0 (by omega)), ?_⟩)
    refine E_bipush dX11_parse_112 (by decide) ?_
    refine E_icmp_eq 126 dX11_parse_114 rfl (fun hc => ?_) (fun hc => ?_)
    · have hp114 := (hc : (if (h 103 18) ≥ (h 103 9) then (-1) else (h 111 (h 103 18))) = 44)
      refine E_iconst dX11_parse_126 (rg_of rfl) ?_
      refine E_goto 131 dX11_parse_127 rfl ?_
      exact E_top (if_pos (by omega)).symm hJ
    · have hp114 := (by omega : (if (h 103 18) ≥ (h 103 9) then (-1) else (h 111 (h 103 18))) ≠ 44)
      refine E_aload_n 0 0 dX11_parse_117 rfl rfl ?_
      refine E_invVI [] dX11_parse_118 fX11_here lX11_128 ic_103 rfl (by decide) rfl rfl (Nat.le_of_ble_eq_true rfl) (sX11_here (h := h)  ⟨(v1_1 (by omega)), ?_⟩)
      refine E_bipush dX11_parse_121 (by decide) ?_
      refine E_icmp_ne 130 dX11_parse_123 rfl (fun hc => ?_) (fun hc => ?_)
      · have hp123 := (hc : (if (h 103 18) ≥ (h 103 9) then (-1) else (h 111 (h 103 18))) ≠ 59)
        refine E_iconst dX11_parse_130 (rg_of rfl) ?_
        exact E_top (if_neg (by omega)).symm hJ
      · have hp123 := (by omega : (if (h 103 18) ≥ (h 103 9) then (-1) else (h 111 (h 103 18))) = 59)
        refine E_iconst dX11_parse_126 (rg_of rfl) ?_
        refine E_goto 131 dX11_parse_127 rfl ?_
        exact E_top (if_pos (by omega)).symm hJ
theorem sX11_parse_73 {Q : Int → Hp → Prop} {h : Hp} {l1 l2 l4 k0 : Int}
    (hP : (((h 103 20) ≠ 0) →
     E 2 mX11_parse 101 [(0, vr 103), (1, vi l1), (2, vi l2)] [] h (qi Q)) ∧
    (((h 103 20) = 0) →
     (ix l2 40 ∧ rj (l2 + 1)) ∧
     E 2 mX11_parse 101 [(0, vr 103), (1, vi l1), (2, vi (l2 + 1))] [] (up (up h 117 l2 l4) 118 l2 k0) (qi Q))) :
    E 2 mX11_parse 73 [(0, vr 103), (1, vi l1), (2, vi l2), (4, vi l4)] [vi k0] h (qi Q) := by
  refine E_istore dX11_parse_73 (by decide) rfl ?_
  refine E_aload_n 1 0 dX11_parse_75 rfl rfl ?_
  refine E_gI 20 20 dX11_parse_76 FX11_132 ic_103 rfl ?_
  refine E_if_ne 101 dX11_parse_79 rfl (fun hc => ?_) (fun hc => ?_)
  · replace hP := hP.1 (hc)
    exact E_sub [1, 2, 3] rfl hP
  · replace hP := hP.2 (by omega)
    obtain ⟨⟨v3_0, v3_1⟩, hP⟩ := hP
    refine E_aload_n 1 0 dX11_parse_82 rfl rfl ?_
    refine E_gR 117 16 dX11_parse_83 FX11_49 ic_103 (by decide) ?_
    refine E_iload_n 3 2 dX11_parse_86 rfl rfl ?_
    refine E_iload 4 dX11_parse_87 rfl ?_
    refine E_iastore dX11_parse_89 ic_117 v3_0.1 v3_0.2 ?_
    refine E_aload_n 1 0 dX11_parse_90 rfl rfl ?_
    refine E_gR 118 17 dX11_parse_91 FX11_52 ic_103 (by decide) ?_
    refine E_iload_n 3 2 dX11_parse_94 rfl rfl ?_
    refine E_iload 0 dX11_parse_95 rfl ?_
    refine E_iastore dX11_parse_97 ic_118 v3_0.1 v3_0.2 ?_
    refine E_iinc 3 dX11_parse_98 rfl (rgI v3_1) (by decide) rfl ?_
    exact E_sub [2, 3, 0] rfl hP
theorem sX11_parse_57 {Q : Int → Hp → Prop} {h : Hp} {l1 l2 l4 : Int}
    (hP : (((h 103 20) = 0) →
     CI 1 mX11_wire [vr 103, vi l1] h (fun r4 h3 =>
      E 2 mX11_parse 73 [(0, vr 103), (1, vi l1), (2, vi l2), (4, vi l4)] [vi r4] h3 (qi Q))) ∧
    (((h 103 20) ≠ 0) →
     E 2 mX11_parse 73 [(0, vr 103), (1, vi l1), (2, vi l2), (4, vi l4)] [vi 0] h (qi Q))) :
    E 2 mX11_parse 57 [(0, vr 103), (1, vi l1), (2, vi l2), (4, vi l4)] [] h (qi Q) := by
  refine E_aload_n 0 0 dX11_parse_57 rfl rfl ?_
  refine E_gI 20 20 dX11_parse_58 FX11_132 ic_103 rfl ?_
  refine E_if_eq 68 dX11_parse_61 rfl (fun hc => ?_) (fun hc => ?_)
  · replace hP := hP.1 (hc)
    refine E_aload_n 0 0 dX11_parse_68 rfl rfl ?_
    refine E_iload_n 1 1 dX11_parse_69 rfl rfl ?_
    refine E_invVI [vi l1] dX11_parse_70 fX11_wire lX11_139 ic_103 rfl (by decide) rfl rfl (Nat.le_of_ble_eq_true rfl) (CI_mono hP (fun r4 h3 hP => ?_))
    exact hP
  · replace hP := hP.2 (by omega)
    refine E_iconst dX11_parse_64 (rg_of rfl) ?_
    refine E_goto 73 dX11_parse_65 rfl ?_
    exact hP
theorem sX11_parse_33 {Q : Int → Hp → Prop} {h : Hp} {l1 l2 l3 : Int}
    (hP : ((l3 = 0) →
     E 2 mX11_parse 174 [(0, vr 103), (1, vi l1), (2, vi l2)] [] h (qi Q)) ∧
    ((l3 ≠ 0) →
     CI 1 mX11_wire [vr 103, vi l1] h (fun r5 h4 =>
      (((h4 103 20) ≠ 0) →
       E 2 mX11_parse 57 [(0, vr 103), (1, vi l1), (2, vi l2), (4, vi r5)] [] h4 (qi Q)) ∧
      (((h4 103 20) = 0) →
       CV 1 mX11_sign [vr 103, vi 58] h4 (fun h9 =>
        E 2 mX11_parse 57 [(0, vr 103), (1, vi l1), (2, vi l2), (4, vi r5)] [] h9 (qi Q)))))) :
    E 2 mX11_parse 33 [(0, vr 103), (1, vi l1), (2, vi l2), (3, vi l3)] [] h (qi Q) := by
  refine E_iload_n 3 3 dX11_parse_33 rfl rfl ?_
  refine E_if_eq 174 dX11_parse_34 rfl (fun hc => ?_) (fun hc => ?_)
  · replace hP := hP.1 (hc)
    exact E_sub [0, 1, 2] rfl hP
  · replace hP := hP.2 (by omega)
    refine E_aload_n 0 0 dX11_parse_37 rfl rfl ?_
    refine E_iload_n 1 1 dX11_parse_38 rfl rfl ?_
    refine E_invVI [vi l1] dX11_parse_39 fX11_wire lX11_139 ic_103 rfl (by decide) rfl rfl (Nat.le_of_ble_eq_true rfl) (CI_mono hP (fun r5 h4 hP => ?_))
    refine E_istore dX11_parse_42 (by decide) rfl ?_
    refine E_aload_n 1 0 dX11_parse_44 rfl rfl ?_
    refine E_gI 20 20 dX11_parse_45 FX11_132 ic_103 rfl ?_
    refine E_if_ne 57 dX11_parse_48 rfl (fun hc => ?_) (fun hc => ?_)
    · replace hP := hP.1 (hc)
      exact E_sub [1, 2, 3, 0] rfl hP
    · replace hP := hP.2 (by omega)
      refine E_aload_n 1 0 dX11_parse_51 rfl rfl ?_
      refine E_bipush dX11_parse_52 (by decide) ?_
      refine E_invVV [vi 58] dX11_parse_54 fX11_sign lX11_143 ic_103 rfl (by decide) rfl rfl (Nat.le_of_ble_eq_true rfl) (CV_mono hP (fun h9 hP => ?_))
      exact E_sub [1, 2, 3, 0] rfl hP
theorem sX11_parse {Q : Int → Hp → Prop} {h : Hp} {l1 : Int}
    (hP : ((l1 ≥ 0 ∧ l1 ≤ 3) →
     E 2 mX11_parse 33 [(0, vr 103), (1, vi l1), (2, vi 0), (3, vi 1)] [] (up (up (up h 103 18 0) 103 19 0) 103 20 0) (qi Q)) ∧
    ((l1 < 0 ∨ l1 > 3) →
     Q (-1) (up h 103 9 0))) :
    CI 2 mX11_parse [vr 103, vi l1] h Q := by
  refine CI_of_E fX11_parse.1 rfl (Nat.le_of_ble_eq_true rfl) ?_
  show E 2 mX11_parse 0 [(0, vr 103), (1, vi l1)] [] h (qi Q)
  refine E_iload_n 1 1 dX11_parse_0 rfl rfl ?_
  refine E_invSI [vi l1] dX11_parse_1 fX11_isNet lX11_88 (by decide) rfl rfl (Nat.le_of_ble_eq_true rfl) (sX11_isNet (h := h) (l0 := l1) ?_)
  refine E_if_ne 14 dX11_parse_4 rfl (fun hc => ?_) (fun hc => ?_)
  · replace hP := hP.1 (by have := ite1' hc; omega)
    refine E_aload_n 0 0 dX11_parse_14 rfl rfl ?_
    refine E_iconst dX11_parse_15 (rg_of rfl) ?_
    refine E_pI 18 18 dX11_parse_16 PX11_125 ic_103 rfl ?_
    refine E_aload_n 0 0 dX11_parse_19 rfl rfl ?_
    refine E_iconst dX11_parse_20 (rg_of rfl) ?_
    refine E_pI 19 19 dX11_parse_21 PX11_136 ic_103 rfl ?_
    refine E_aload_n 0 0 dX11_parse_24 rfl rfl ?_
    refine E_iconst dX11_parse_25 (rg_of rfl) ?_
    refine E_pZ 20 20 dX11_parse_26 PX11_132 ic_103 rfl (Or.inl rfl) ?_
    refine E_iconst dX11_parse_29 (rg_of rfl) ?_
    refine E_istore_n dX11_parse_30 rfl (by decide) rfl ?_
    refine E_iconst dX11_parse_31 (rg_of rfl) ?_
    refine E_istore_n dX11_parse_32 rfl (by decide) rfl ?_
    exact E_sub [2, 3, 1, 0] rfl hP
  · replace hP := hP.2 (by have := ite0 hc; omega)
    refine E_aload_n 0 0 dX11_parse_7 rfl rfl ?_
    refine E_iconst dX11_parse_8 (rg_of rfl) ?_
    refine E_pI 9 9 dX11_parse_9 PX11_122 ic_103 rfl ?_
    refine E_iconst dX11_parse_12 (rg_of rfl) ?_
    exact E_retI dX11_parse_13 rfl hP
theorem dX11_setKey_0 : decode prog_13_method_26_code 0 = .ok (.iload_n 1, 1) := by decide +kernel
theorem dX11_setKey_1 : decode prog_13_method_26_code 1 = .ok (.iconst 0, 1) := by decide +kernel
theorem dX11_setKey_2 : decode prog_13_method_26_code 2 = .ok (.bipush 7, 2) := by decide +kernel
theorem dX11_setKey_4 : decode prog_13_method_26_code 4 = .ok (.invokestatic 80, 3) := by decide +kernel
theorem dX11_setKey_7 : decode prog_13_method_26_code 7 = .ok (.ifCond .ne 5, 3) := by decide +kernel
theorem dX11_setKey_10 : decode prog_13_method_26_code 10 = .ok (.iconst (-1), 1) := by decide +kernel
theorem dX11_setKey_11 : decode prog_13_method_26_code 11 = .ok (.ireturn, 1) := by decide +kernel
theorem dX11_setKey_12 : decode prog_13_method_26_code 12 = .ok (.iload_n 2, 1) := by decide +kernel
theorem dX11_setKey_13 : decode prog_13_method_26_code 13 = .ok (.iconst 0, 1) := by decide +kernel
theorem dX11_setKey_14 : decode prog_13_method_26_code 14 = .ok (.bipush 99, 2) := by decide +kernel
theorem dX11_setKey_16 : decode prog_13_method_26_code 16 = .ok (.invokestatic 80, 3) := by decide +kernel
theorem dX11_setKey_19 : decode prog_13_method_26_code 19 = .ok (.ifCond .ne 6, 3) := by decide +kernel
theorem dX11_setKey_22 : decode prog_13_method_26_code 22 = .ok (.bipush (-2), 2) := by decide +kernel
theorem dX11_setKey_24 : decode prog_13_method_26_code 24 = .ok (.ireturn, 1) := by decide +kernel
theorem dX11_setKey_25 : decode prog_13_method_26_code 25 = .ok (.aload_n 0, 1) := by decide +kernel
theorem dX11_setKey_26 : decode prog_13_method_26_code 26 = .ok (.getfield 22, 3) := by decide +kernel
theorem dX11_setKey_29 : decode prog_13_method_26_code 29 = .ok (.iload_n 1, 1) := by decide +kernel
theorem dX11_setKey_30 : decode prog_13_method_26_code 30 = .ok (.iaload, 1) := by decide +kernel
theorem dX11_setKey_31 : decode prog_13_method_26_code 31 = .ok (.istore_n 3, 1) := by decide +kernel
theorem dX11_setKey_32 : decode prog_13_method_26_code 32 = .ok (.aload_n 0, 1) := by decide +kernel
theorem dX11_setKey_33 : decode prog_13_method_26_code 33 = .ok (.getfield 22, 3) := by decide +kernel
theorem dX11_setKey_36 : decode prog_13_method_26_code 36 = .ok (.iload_n 1, 1) := by decide +kernel
theorem dX11_setKey_37 : decode prog_13_method_26_code 37 = .ok (.iload_n 2, 1) := by decide +kernel
theorem dX11_setKey_38 : decode prog_13_method_26_code 38 = .ok (.iastore, 1) := by decide +kernel
theorem dX11_setKey_39 : decode prog_13_method_26_code 39 = .ok (.iload_n 3, 1) := by decide +kernel
theorem dX11_setKey_40 : decode prog_13_method_26_code 40 = .ok (.ireturn, 1) := by decide +kernel
theorem sX11_setKey {Q : Int → Hp → Prop} {h : Hp} {l1 l2 : Int}
    (hP : ((l1 ≥ 0 ∧ l1 ≤ 7) →
     ((l2 ≥ 0 ∧ l2 ≤ 99) →
      (ix l1 8) ∧
      Q (h 108 l1) (up h 108 l1 l2)) ∧
     ((l2 < 0 ∨ l2 > 99) →
      Q (-2) h)) ∧
    ((l1 < 0 ∨ l1 > 7) →
     Q (-1) h)) :
    CI 1 mX11_setKey [vr 103, vi l1, vi l2] h Q := by
  refine CI_of_E fX11_setKey.1 rfl (Nat.le_of_ble_eq_true rfl) ?_
  show E 1 mX11_setKey 0 [(0, vr 103), (1, vi l1), (2, vi l2)] [] h (qi Q)
  refine E_iload_n 1 1 dX11_setKey_0 rfl rfl ?_
  refine E_iconst dX11_setKey_1 (rg_of rfl) ?_
  refine E_bipush dX11_setKey_2 (by decide) ?_
  refine E_invSI [vi l1, vi 0, vi 7] dX11_setKey_4 fX11_isIn lX11_80 (by decide) rfl rfl (Nat.le_of_ble_eq_true rfl) (sX11_isIn (h := h) (l0 := l1) (l1 := 0) (l2 := 7) ?_)
  refine E_if_ne 12 dX11_setKey_7 rfl (fun hc => ?_) (fun hc => ?_)
  · replace hP := hP.1 (by have := ite1' hc; omega)
    refine E_iload_n 2 2 dX11_setKey_12 rfl rfl ?_
    refine E_iconst dX11_setKey_13 (rg_of rfl) ?_
    refine E_bipush dX11_setKey_14 (by decide) ?_
    refine E_invSI [vi l2, vi 0, vi 99] dX11_setKey_16 fX11_isIn lX11_80 (by decide) rfl rfl (Nat.le_of_ble_eq_true rfl) (sX11_isIn (h := h) (l0 := l2) (l1 := 0) (l2 := 99) ?_)
    refine E_if_ne 25 dX11_setKey_19 rfl (fun hc => ?_) (fun hc => ?_)
    · replace hP := hP.1 (by have := ite1' hc; omega)
      obtain ⟨v3_0, hP⟩ := hP
      refine E_aload_n 0 0 dX11_setKey_25 rfl rfl ?_
      refine E_gR 108 4 dX11_setKey_26 FX11_22 ic_103 (by decide) ?_
      refine E_iload_n 1 1 dX11_setKey_29 rfl rfl ?_
      refine E_iaload dX11_setKey_30 ic_108 v3_0.1 v3_0.2 ?_
      refine E_istore_n dX11_setKey_31 rfl (by decide) rfl ?_
      refine E_aload_n 1 0 dX11_setKey_32 rfl rfl ?_
      refine E_gR 108 4 dX11_setKey_33 FX11_22 ic_103 (by decide) ?_
      refine E_iload_n 2 1 dX11_setKey_36 rfl rfl ?_
      refine E_iload_n 3 2 dX11_setKey_37 rfl rfl ?_
      refine E_iastore dX11_setKey_38 ic_108 v3_0.1 v3_0.2 ?_
      refine E_iload_n 0 3 dX11_setKey_39 rfl rfl ?_
      exact E_retI dX11_setKey_40 rfl hP
    · replace hP := hP.2 (by have := ite0 hc; omega)
      refine E_bipush dX11_setKey_22 (by decide) ?_
      exact E_retI dX11_setKey_24 rfl hP
  · replace hP := hP.2 (by have := ite0 hc; omega)
    refine E_iconst dX11_setKey_10 (rg_of rfl) ?_
    exact E_retI dX11_setKey_11 rfl hP
theorem dX11_run_0 : decode prog_13_method_27_code 0 = .ok (.iload_n 1, 1) := by decide +kernel
theorem dX11_run_1 : decode prog_13_method_27_code 1 = .ok (.invokestatic 88, 3) := by decide +kernel
theorem dX11_run_4 : decode prog_13_method_27_code 4 = .ok (.ifCond .ne 5, 3) := by decide +kernel
theorem dX11_run_7 : decode prog_13_method_27_code 7 = .ok (.iconst (-1), 1) := by decide +kernel
theorem dX11_run_8 : decode prog_13_method_27_code 8 = .ok (.ireturn, 1) := by decide +kernel
theorem dX11_run_9 : decode prog_13_method_27_code 9 = .ok (.aload_n 0, 1) := by decide +kernel
theorem dX11_run_10 : decode prog_13_method_27_code 10 = .ok (.aload_n 0, 1) := by decide +kernel
theorem dX11_run_11 : decode prog_13_method_27_code 11 = .ok (.getfield 9, 3) := by decide +kernel
theorem dX11_run_14 : decode prog_13_method_27_code 14 = .ok (.iload_n 1, 1) := by decide +kernel
theorem dX11_run_15 : decode prog_13_method_27_code 15 = .ok (.iaload, 1) := by decide +kernel
theorem dX11_run_16 : decode prog_13_method_27_code 16 = .ok (.putfield 146, 3) := by decide +kernel
theorem dX11_run_19 : decode prog_13_method_27_code 19 = .ok (.iconst 0, 1) := by decide +kernel
theorem dX11_run_20 : decode prog_13_method_27_code 20 = .ok (.istore_n 2, 1) := by decide +kernel
theorem dX11_run_21 : decode prog_13_method_27_code 21 = .ok (.iload_n 2, 1) := by decide +kernel
theorem dX11_run_22 : decode prog_13_method_27_code 22 = .ok (.aload_n 0, 1) := by decide +kernel
theorem dX11_run_23 : decode prog_13_method_27_code 23 = .ok (.getfield 146, 3) := by decide +kernel
theorem dX11_run_26 : decode prog_13_method_27_code 26 = .ok (.if_icmp .ge 28, 3) := by decide +kernel
theorem dX11_run_29 : decode prog_13_method_27_code 29 = .ok (.aload_n 0, 1) := by decide +kernel
theorem dX11_run_30 : decode prog_13_method_27_code 30 = .ok (.getfield 25, 3) := by decide +kernel
theorem dX11_run_33 : decode prog_13_method_27_code 33 = .ok (.iload_n 2, 1) := by decide +kernel
theorem dX11_run_34 : decode prog_13_method_27_code 34 = .ok (.aload_n 0, 1) := by decide +kernel
theorem dX11_run_35 : decode prog_13_method_27_code 35 = .ok (.getfield 22, 3) := by decide +kernel
theorem dX11_run_38 : decode prog_13_method_27_code 38 = .ok (.iload_n 2, 1) := by decide +kernel
theorem dX11_run_39 : decode prog_13_method_27_code 39 = .ok (.iaload, 1) := by decide +kernel
theorem dX11_run_40 : decode prog_13_method_27_code 40 = .ok (.iastore, 1) := by decide +kernel
theorem dX11_run_41 : decode prog_13_method_27_code 41 = .ok (.aload_n 0, 1) := by decide +kernel
theorem dX11_run_42 : decode prog_13_method_27_code 42 = .ok (.getfield 28, 3) := by decide +kernel
theorem dX11_run_45 : decode prog_13_method_27_code 45 = .ok (.iload_n 2, 1) := by decide +kernel
theorem dX11_run_46 : decode prog_13_method_27_code 46 = .ok (.iload_n 2, 1) := by decide +kernel
theorem dX11_run_47 : decode prog_13_method_27_code 47 = .ok (.iastore, 1) := by decide +kernel
theorem dX11_run_48 : decode prog_13_method_27_code 48 = .ok (.iinc 2 1, 3) := by decide +kernel
theorem dX11_run_51 : decode prog_13_method_27_code 51 = .ok (.goto (-30), 3) := by decide +kernel
theorem dX11_run_54 : decode prog_13_method_27_code 54 = .ok (.iconst 0, 1) := by decide +kernel
theorem dX11_run_55 : decode prog_13_method_27_code 55 = .ok (.istore_n 2, 1) := by decide +kernel
theorem dX11_run_56 : decode prog_13_method_27_code 56 = .ok (.iconst 0, 1) := by decide +kernel
theorem dX11_run_57 : decode prog_13_method_27_code 57 = .ok (.istore_n 3, 1) := by decide +kernel
theorem dX11_run_58 : decode prog_13_method_27_code 58 = .ok (.iload_n 3, 1) := by decide +kernel
theorem dX11_run_59 : decode prog_13_method_27_code 59 = .ok (.aload_n 0, 1) := by decide +kernel
theorem dX11_run_60 : decode prog_13_method_27_code 60 = .ok (.getfield 13, 3) := by decide +kernel
theorem dX11_run_63 : decode prog_13_method_27_code 63 = .ok (.iload_n 1, 1) := by decide +kernel
theorem dX11_run_64 : decode prog_13_method_27_code 64 = .ok (.iaload, 1) := by decide +kernel
theorem dX11_run_65 : decode prog_13_method_27_code 65 = .ok (.if_icmp .ge 122, 3) := by decide +kernel
theorem dX11_run_68 : decode prog_13_method_27_code 68 = .ok (.aload_n 0, 1) := by decide +kernel
theorem dX11_run_69 : decode prog_13_method_27_code 69 = .ok (.getfield 16, 3) := by decide +kernel
theorem dX11_run_72 : decode prog_13_method_27_code 72 = .ok (.bipush 40, 2) := by decide +kernel
theorem dX11_run_74 : decode prog_13_method_27_code 74 = .ok (.iload_n 1, 1) := by decide +kernel
theorem dX11_run_75 : decode prog_13_method_27_code 75 = .ok (.imul, 1) := by decide +kernel
theorem dX11_run_76 : decode prog_13_method_27_code 76 = .ok (.iload_n 3, 1) := by decide +kernel
theorem dX11_run_77 : decode prog_13_method_27_code 77 = .ok (.iadd, 1) := by decide +kernel
theorem dX11_run_78 : decode prog_13_method_27_code 78 = .ok (.iaload, 1) := by decide +kernel
theorem dX11_run_79 : decode prog_13_method_27_code 79 = .ok (.istore 4, 2) := by decide +kernel
theorem dX11_run_81 : decode prog_13_method_27_code 81 = .ok (.aload_n 0, 1) := by decide +kernel
theorem dX11_run_82 : decode prog_13_method_27_code 82 = .ok (.getfield 19, 3) := by decide +kernel
theorem dX11_run_85 : decode prog_13_method_27_code 85 = .ok (.bipush 40, 2) := by decide +kernel
theorem dX11_run_87 : decode prog_13_method_27_code 87 = .ok (.iload_n 1, 1) := by decide +kernel
theorem dX11_run_88 : decode prog_13_method_27_code 88 = .ok (.imul, 1) := by decide +kernel
theorem dX11_run_89 : decode prog_13_method_27_code 89 = .ok (.iload_n 3, 1) := by decide +kernel
theorem dX11_run_90 : decode prog_13_method_27_code 90 = .ok (.iadd, 1) := by decide +kernel
theorem dX11_run_91 : decode prog_13_method_27_code 91 = .ok (.iaload, 1) := by decide +kernel
theorem dX11_run_92 : decode prog_13_method_27_code 92 = .ok (.istore 5, 2) := by decide +kernel
theorem dX11_run_94 : decode prog_13_method_27_code 94 = .ok (.aload_n 0, 1) := by decide +kernel
theorem dX11_run_95 : decode prog_13_method_27_code 95 = .ok (.getfield 25, 3) := by decide +kernel
theorem dX11_run_98 : decode prog_13_method_27_code 98 = .ok (.iload 4, 2) := by decide +kernel
theorem dX11_run_100 : decode prog_13_method_27_code 100 = .ok (.iaload, 1) := by decide +kernel
theorem dX11_run_101 : decode prog_13_method_27_code 101 = .ok (.aload_n 0, 1) := by decide +kernel
theorem dX11_run_102 : decode prog_13_method_27_code 102 = .ok (.getfield 25, 3) := by decide +kernel
theorem dX11_run_105 : decode prog_13_method_27_code 105 = .ok (.iload 5, 2) := by decide +kernel
theorem dX11_run_107 : decode prog_13_method_27_code 107 = .ok (.iaload, 1) := by decide +kernel
theorem dX11_run_108 : decode prog_13_method_27_code 108 = .ok (.if_icmp .gt 6, 3) := by decide +kernel
theorem dX11_run_111 : decode prog_13_method_27_code 111 = .ok (.goto 70, 3) := by decide +kernel
theorem dX11_run_114 : decode prog_13_method_27_code 114 = .ok (.aload_n 0, 1) := by decide +kernel
theorem dX11_run_115 : decode prog_13_method_27_code 115 = .ok (.getfield 25, 3) := by decide +kernel
theorem dX11_run_118 : decode prog_13_method_27_code 118 = .ok (.iload 4, 2) := by decide +kernel
theorem dX11_run_120 : decode prog_13_method_27_code 120 = .ok (.iaload, 1) := by decide +kernel
theorem dX11_run_121 : decode prog_13_method_27_code 121 = .ok (.istore 6, 2) := by decide +kernel
theorem dX11_run_123 : decode prog_13_method_27_code 123 = .ok (.aload_n 0, 1) := by decide +kernel
theorem dX11_run_124 : decode prog_13_method_27_code 124 = .ok (.getfield 28, 3) := by decide +kernel
theorem dX11_run_127 : decode prog_13_method_27_code 127 = .ok (.iload 4, 2) := by decide +kernel
theorem dX11_run_129 : decode prog_13_method_27_code 129 = .ok (.iaload, 1) := by decide +kernel
theorem dX11_run_130 : decode prog_13_method_27_code 130 = .ok (.istore 7, 2) := by decide +kernel
theorem dX11_run_132 : decode prog_13_method_27_code 132 = .ok (.aload_n 0, 1) := by decide +kernel
theorem dX11_run_133 : decode prog_13_method_27_code 133 = .ok (.getfield 25, 3) := by decide +kernel
theorem dX11_run_136 : decode prog_13_method_27_code 136 = .ok (.iload 4, 2) := by decide +kernel
theorem dX11_run_138 : decode prog_13_method_27_code 138 = .ok (.aload_n 0, 1) := by decide +kernel
theorem dX11_run_139 : decode prog_13_method_27_code 139 = .ok (.getfield 25, 3) := by decide +kernel
theorem dX11_run_142 : decode prog_13_method_27_code 142 = .ok (.iload 5, 2) := by decide +kernel
theorem dX11_run_144 : decode prog_13_method_27_code 144 = .ok (.iaload, 1) := by decide +kernel
theorem dX11_run_145 : decode prog_13_method_27_code 145 = .ok (.iastore, 1) := by decide +kernel
theorem dX11_run_146 : decode prog_13_method_27_code 146 = .ok (.aload_n 0, 1) := by decide +kernel
theorem dX11_run_147 : decode prog_13_method_27_code 147 = .ok (.getfield 28, 3) := by decide +kernel
theorem dX11_run_150 : decode prog_13_method_27_code 150 = .ok (.iload 4, 2) := by decide +kernel
theorem dX11_run_152 : decode prog_13_method_27_code 152 = .ok (.aload_n 0, 1) := by decide +kernel
theorem dX11_run_153 : decode prog_13_method_27_code 153 = .ok (.getfield 28, 3) := by decide +kernel
theorem dX11_run_156 : decode prog_13_method_27_code 156 = .ok (.iload 5, 2) := by decide +kernel
theorem dX11_run_158 : decode prog_13_method_27_code 158 = .ok (.iaload, 1) := by decide +kernel
theorem dX11_run_159 : decode prog_13_method_27_code 159 = .ok (.iastore, 1) := by decide +kernel
theorem dX11_run_160 : decode prog_13_method_27_code 160 = .ok (.aload_n 0, 1) := by decide +kernel
theorem dX11_run_161 : decode prog_13_method_27_code 161 = .ok (.getfield 25, 3) := by decide +kernel
theorem dX11_run_164 : decode prog_13_method_27_code 164 = .ok (.iload 5, 2) := by decide +kernel
theorem dX11_run_166 : decode prog_13_method_27_code 166 = .ok (.iload 6, 2) := by decide +kernel
theorem dX11_run_168 : decode prog_13_method_27_code 168 = .ok (.iastore, 1) := by decide +kernel
theorem dX11_run_169 : decode prog_13_method_27_code 169 = .ok (.aload_n 0, 1) := by decide +kernel
theorem dX11_run_170 : decode prog_13_method_27_code 170 = .ok (.getfield 28, 3) := by decide +kernel
theorem dX11_run_173 : decode prog_13_method_27_code 173 = .ok (.iload 5, 2) := by decide +kernel
theorem dX11_run_175 : decode prog_13_method_27_code 175 = .ok (.iload 7, 2) := by decide +kernel
theorem dX11_run_177 : decode prog_13_method_27_code 177 = .ok (.iastore, 1) := by decide +kernel
theorem dX11_run_178 : decode prog_13_method_27_code 178 = .ok (.iinc 2 1, 3) := by decide +kernel
theorem dX11_run_181 : decode prog_13_method_27_code 181 = .ok (.iinc 3 1, 3) := by decide +kernel
theorem dX11_run_184 : decode prog_13_method_27_code 184 = .ok (.goto (-126), 3) := by decide +kernel
theorem dX11_run_187 : decode prog_13_method_27_code 187 = .ok (.iload_n 2, 1) := by decide +kernel
theorem dX11_run_188 : decode prog_13_method_27_code 188 = .ok (.ireturn, 1) := by decide +kernel
theorem sX11_run_58 {Q : Int → Hp → Prop} {h : Hp} {l1 l2 l3 : Int}
    (hP : (ix l1 4) ∧
    ((l3 ≥ (h 105 l1)) →
     Q l2 h) ∧
    ((l3 < (h 105 l1)) →
     (rj (40 * l1) ∧ rj ((40 * l1) + l3) ∧ ix ((40 * l1) + l3) 160 ∧ ix (h 106 ((40 * l1) + l3)) 8 ∧ ix (h 107 ((40 * l1) + l3)) 8) ∧
     (((h 109 (h 106 ((40 * l1) + l3))) > (h 109 (h 107 ((40 * l1) + l3)))) →
      (ix (h 106 ((40 * l1) + l3)) 8) ∧
      (∀ x5 : Int, x5 = (h 109 (h 106 ((40 * l1) + l3))) →
      (ix (h 106 ((40 * l1) + l3)) 8) ∧
      (∀ x7 : Int, x7 = (h 110 (h 106 ((40 * l1) + l3))) →
      (ix (h 107 ((40 * l1) + l3)) 8 ∧ ix (h 106 ((40 * l1) + l3)) 8 ∧ rj (l2 + 1) ∧ rj (l3 + 1)) ∧
      E 2 mX11_run 58 [(0, vr 103), (1, vi l1), (2, vi (l2 + 1)), (3, vi (l3 + 1))] [] (up (up (up (up h 109 (h 106 ((40 * l1) + l3)) (h 109 (h 107 ((40 * l1) + l3)))) 110 (h 106 ((40 * l1) + l3)) (h 110 (h 107 ((40 * l1) + l3)))) 109 (h 107 ((40 * l1) + l3)) x5) 110 (h 107 ((40 * l1) + l3)) x7) (qi Q)))) ∧
     (((h 109 (h 106 ((40 * l1) + l3))) ≤ (h 109 (h 107 ((40 * l1) + l3)))) →
      (rj (l3 + 1)) ∧
      E 2 mX11_run 58 [(0, vr 103), (1, vi l1), (2, vi l2), (3, vi (l3 + 1))] [] h (qi Q)))) :
    E 2 mX11_run 58 [(0, vr 103), (1, vi l1), (2, vi l2), (3, vi l3)] [] h (qi Q) := by
  obtain ⟨v1_0, hP⟩ := hP
  refine E_iload_n 3 3 dX11_run_58 rfl rfl ?_
  refine E_aload_n 0 0 dX11_run_59 rfl rfl ?_
  refine E_gR 105 1 dX11_run_60 FX11_13 ic_103 (by decide) ?_
  refine E_iload_n 1 1 dX11_run_63 rfl rfl ?_
  refine E_iaload dX11_run_64 ic_105 v1_0.1 v1_0.2 ?_
  refine E_icmp_ge 187 dX11_run_65 rfl (fun hc => ?_) (fun hc => ?_)
  · replace hP := hP.1 (hc)
    refine E_iload_n 2 2 dX11_run_187 rfl rfl ?_
    exact E_retI dX11_run_188 rfl hP
  · replace hP := hP.2 (by omega)
    obtain ⟨⟨v3_0, v3_1, v3_2, v3_3, v3_4⟩, hP⟩ := hP
    refine E_aload_n 0 0 dX11_run_68 rfl rfl ?_
    refine E_gR 106 2 dX11_run_69 FX11_16 ic_103 (by decide) ?_
    refine E_bipush dX11_run_72 (by decide) ?_
    refine E_iload_n 1 1 dX11_run_74 rfl rfl ?_
    refine E_imul dX11_run_75 (rgI v3_0) ?_
    refine E_iload_n 3 3 dX11_run_76 rfl rfl ?_
    refine E_iadd dX11_run_77 (rgI v3_1) ?_
    refine E_iaload dX11_run_78 ic_106 v3_2.1 v3_2.2 ?_
    refine E_istore dX11_run_79 (by decide) rfl ?_
    refine E_aload_n 1 0 dX11_run_81 rfl rfl ?_
    refine E_gR 107 3 dX11_run_82 FX11_19 ic_103 (by decide) ?_
    refine E_bipush dX11_run_85 (by decide) ?_
    refine E_iload_n 2 1 dX11_run_87 rfl rfl ?_
    refine E_imul dX11_run_88 (rgI v3_0) ?_
    refine E_iload_n 4 3 dX11_run_89 rfl rfl ?_
    refine E_iadd dX11_run_90 (rgI v3_1) ?_
    refine E_iaload dX11_run_91 ic_107 v3_2.1 v3_2.2 ?_
    refine E_istore dX11_run_92 (by decide) rfl ?_
    refine E_aload_n 2 0 dX11_run_94 rfl rfl ?_
    refine E_gR 109 5 dX11_run_95 FX11_25 ic_103 (by decide) ?_
    refine E_iload 1 dX11_run_98 rfl ?_
    refine E_iaload dX11_run_100 ic_109 v3_3.1 v3_3.2 ?_
    refine E_aload_n 2 0 dX11_run_101 rfl rfl ?_
    refine E_gR 109 5 dX11_run_102 FX11_25 ic_103 (by decide) ?_
    refine E_iload 0 dX11_run_105 rfl ?_
    refine E_iaload dX11_run_107 ic_109 v3_4.1 v3_4.2 ?_
    refine E_icmp_gt 114 dX11_run_108 rfl (fun hc => ?_) (fun hc => ?_)
    · replace hP := hP.1 (hc)
      obtain ⟨v4_0, hP⟩ := hP
      refine E_aload_n 2 0 dX11_run_114 rfl rfl ?_
      refine E_gR 109 5 dX11_run_115 FX11_25 ic_103 (by decide) ?_
      refine E_iload 1 dX11_run_118 rfl ?_
      refine E_iaload dX11_run_120 ic_109 v4_0.1 v4_0.2 ?_
      obtain ⟨x5, hx5⟩ : ∃ x : Int, x = (h 109 (h 106 ((40 * l1) + l3))) := ⟨_, rfl⟩
      refine E_top hx5.symm ?_
      replace hP := hP x5 hx5
      refine E_istore dX11_run_121 (by decide) rfl ?_
      obtain ⟨v6_0, hP⟩ := hP
      refine E_aload_n 3 0 dX11_run_123 rfl rfl ?_
      refine E_gR 110 6 dX11_run_124 FX11_28 ic_103 (by decide) ?_
      refine E_iload 2 dX11_run_127 rfl ?_
      refine E_iaload dX11_run_129 ic_110 v6_0.1 v6_0.2 ?_
      obtain ⟨x7, hx7⟩ : ∃ x : Int, x = (h 110 (h 106 ((40 * l1) + l3))) := ⟨_, rfl⟩
      refine E_top hx7.symm ?_
      replace hP := hP x7 hx7
      refine E_istore dX11_run_130 (by decide) rfl ?_
      obtain ⟨⟨v8_0, v8_1, v8_2, v8_3⟩, hP⟩ := hP
      refine E_aload_n 4 0 dX11_run_132 rfl rfl ?_
      refine E_gR 109 5 dX11_run_133 FX11_25 ic_103 (by decide) ?_
      refine E_iload 3 dX11_run_136 rfl ?_
      refine E_aload_n 4 0 dX11_run_138 rfl rfl ?_
      refine E_gR 109 5 dX11_run_139 FX11_25 ic_103 (by decide) ?_
      refine E_iload 2 dX11_run_142 rfl ?_
      refine E_iaload dX11_run_144 ic_109 v8_0.1 v8_0.2 ?_
      refine E_iastore dX11_run_145 ic_109 v8_1.1 v8_1.2 ?_
      refine E_aload_n 4 0 dX11_run_146 rfl rfl ?_
      refine E_gR 110 6 dX11_run_147 FX11_28 ic_103 (by decide) ?_
      refine E_iload 3 dX11_run_150 rfl ?_
      refine E_aload_n 4 0 dX11_run_152 rfl rfl ?_
      refine E_gR 110 6 dX11_run_153 FX11_28 ic_103 (by decide) ?_
      refine E_iload 2 dX11_run_156 rfl ?_
      refine E_iaload dX11_run_158 ic_110 v8_0.1 v8_0.2 ?_
      refine E_top (y := (h 110 (h 107 ((40 * l1) + l3)))) (by simp [up]) ?_
      refine E_iastore dX11_run_159 ic_110 v8_1.1 v8_1.2 ?_
      refine E_aload_n 4 0 dX11_run_160 rfl rfl ?_
      refine E_gR 109 5 dX11_run_161 FX11_25 ic_103 (by decide) ?_
      refine E_iload 2 dX11_run_164 rfl ?_
      refine E_iload 1 dX11_run_166 rfl ?_
      refine E_iastore dX11_run_168 ic_109 v8_0.1 v8_0.2 ?_
      refine E_aload_n 4 0 dX11_run_169 rfl rfl ?_
      refine E_gR 110 6 dX11_run_170 FX11_28 ic_103 (by decide) ?_
      refine E_iload 2 dX11_run_173 rfl ?_
      refine E_iload 0 dX11_run_175 rfl ?_
      refine E_iastore dX11_run_177 ic_110 v8_0.1 v8_0.2 ?_
      refine E_iinc 6 dX11_run_178 rfl (rgI v8_2) (by decide) rfl ?_
      refine E_iinc 7 dX11_run_181 rfl (rgI v8_3) (by decide) rfl ?_
      refine E_goto 58 dX11_run_184 rfl ?_
      exact E_sub [6, 7, 1, 0] rfl hP
    · replace hP := hP.2 (by omega)
      obtain ⟨v9_0, hP⟩ := hP
      refine E_goto 181 dX11_run_111 rfl ?_
      refine E_iinc 5 dX11_run_181 rfl (rgI v9_0) (by decide) rfl ?_
      refine E_goto 58 dX11_run_184 rfl ?_
      exact E_sub [3, 4, 5, 0] rfl hP
theorem sX11_run_21 {Q : Int → Hp → Prop} {h : Hp} {l1 l2 : Int}
    (hP : ((l2 ≥ (h 103 7)) →
     E 2 mX11_run 58 [(0, vr 103), (1, vi l1), (2, vi 0), (3, vi 0)] [] h (qi Q)) ∧
    ((l2 < (h 103 7)) →
     (ix l2 8 ∧ rj (l2 + 1)) ∧
     E 2 mX11_run 21 [(0, vr 103), (1, vi l1), (2, vi (l2 + 1))] [] (up (up h 109 l2 (h 108 l2)) 110 l2 l2) (qi Q))) :
    E 2 mX11_run 21 [(0, vr 103), (1, vi l1), (2, vi l2)] [] h (qi Q) := by
  refine E_iload_n 2 2 dX11_run_21 rfl rfl ?_
  refine E_aload_n 0 0 dX11_run_22 rfl rfl ?_
  refine E_gI 7 7 dX11_run_23 FX11_146 ic_103 rfl ?_
  refine E_icmp_ge 54 dX11_run_26 rfl (fun hc => ?_) (fun hc => ?_)
  · replace hP := hP.1 (hc)
    refine E_iconst dX11_run_54 (rg_of rfl) ?_
    refine E_istore_n dX11_run_55 rfl (by decide) rfl ?_
    refine E_iconst dX11_run_56 (rg_of rfl) ?_
    refine E_istore_n dX11_run_57 rfl (by decide) rfl ?_
    exact E_sub [2, 3, 1, 0] rfl hP
  · replace hP := hP.2 (by omega)
    obtain ⟨⟨v3_0, v3_1⟩, hP⟩ := hP
    refine E_aload_n 0 0 dX11_run_29 rfl rfl ?_
    refine E_gR 109 5 dX11_run_30 FX11_25 ic_103 (by decide) ?_
    refine E_iload_n 2 2 dX11_run_33 rfl rfl ?_
    refine E_aload_n 0 0 dX11_run_34 rfl rfl ?_
    refine E_gR 108 4 dX11_run_35 FX11_22 ic_103 (by decide) ?_
    refine E_iload_n 2 2 dX11_run_38 rfl rfl ?_
    refine E_iaload dX11_run_39 ic_108 v3_0.1 v3_0.2 ?_
    refine E_iastore dX11_run_40 ic_109 v3_0.1 v3_0.2 ?_
    refine E_aload_n 0 0 dX11_run_41 rfl rfl ?_
    refine E_gR 110 6 dX11_run_42 FX11_28 ic_103 (by decide) ?_
    refine E_iload_n 2 2 dX11_run_45 rfl rfl ?_
    refine E_iload_n 2 2 dX11_run_46 rfl rfl ?_
    refine E_iastore dX11_run_47 ic_110 v3_0.1 v3_0.2 ?_
    refine E_iinc 2 dX11_run_48 rfl (rgI v3_1) (by decide) rfl ?_
    refine E_goto 21 dX11_run_51 rfl ?_
    exact E_sub [1, 2, 0] rfl hP
theorem sX11_run {Q : Int → Hp → Prop} {h : Hp} {l1 : Int}
    (hP : ((l1 ≥ 0 ∧ l1 ≤ 3) →
     (ix l1 4) ∧
     E 2 mX11_run 21 [(0, vr 103), (1, vi l1), (2, vi 0)] [] (up h 103 7 (h 104 l1)) (qi Q)) ∧
    ((l1 < 0 ∨ l1 > 3) →
     Q (-1) h)) :
    CI 2 mX11_run [vr 103, vi l1] h Q := by
  refine CI_of_E fX11_run.1 rfl (Nat.le_of_ble_eq_true rfl) ?_
  show E 2 mX11_run 0 [(0, vr 103), (1, vi l1)] [] h (qi Q)
  refine E_iload_n 1 1 dX11_run_0 rfl rfl ?_
  refine E_invSI [vi l1] dX11_run_1 fX11_isNet lX11_88 (by decide) rfl rfl (Nat.le_of_ble_eq_true rfl) (sX11_isNet (h := h) (l0 := l1) ?_)
  refine E_if_ne 9 dX11_run_4 rfl (fun hc => ?_) (fun hc => ?_)
  · replace hP := hP.1 (by have := ite1' hc; omega)
    obtain ⟨v2_0, hP⟩ := hP
    refine E_aload_n 0 0 dX11_run_9 rfl rfl ?_
    refine E_aload_n 0 0 dX11_run_10 rfl rfl ?_
    refine E_gR 104 0 dX11_run_11 FX11_9 ic_103 (by decide) ?_
    refine E_iload_n 1 1 dX11_run_14 rfl rfl ?_
    refine E_iaload dX11_run_15 ic_104 v2_0.1 v2_0.2 ?_
    refine E_pI 7 7 dX11_run_16 PX11_146 ic_103 rfl ?_
    refine E_iconst dX11_run_19 (rg_of rfl) ?_
    refine E_istore_n dX11_run_20 rfl (by decide) rfl ?_
    exact E_sub [1, 2, 0] rfl hP
  · replace hP := hP.2 (by have := ite0 hc; omega)
    refine E_iconst dX11_run_7 (rg_of rfl) ?_
    exact E_retI dX11_run_8 rfl hP
theorem dX11_result_0 : decode prog_13_method_28_code 0 = .ok (.aload_n 0, 1) := by decide +kernel
theorem dX11_result_1 : decode prog_13_method_28_code 1 = .ok (.getfield 146, 3) := by decide +kernel
theorem dX11_result_4 : decode prog_13_method_28_code 4 = .ok (.ifCond .ne 8, 3) := by decide +kernel
theorem dX11_result_7 : decode prog_13_method_28_code 7 = .ok (.bipush (-5), 2) := by decide +kernel
theorem dX11_result_9 : decode prog_13_method_28_code 9 = .ok (.goto 27, 3) := by decide +kernel
theorem dX11_result_12 : decode prog_13_method_28_code 12 = .ok (.iload_n 1, 1) := by decide +kernel
theorem dX11_result_13 : decode prog_13_method_28_code 13 = .ok (.iconst 0, 1) := by decide +kernel
theorem dX11_result_14 : decode prog_13_method_28_code 14 = .ok (.aload_n 0, 1) := by decide +kernel
theorem dX11_result_15 : decode prog_13_method_28_code 15 = .ok (.getfield 146, 3) := by decide +kernel
theorem dX11_result_18 : decode prog_13_method_28_code 18 = .ok (.iconst 1, 1) := by decide +kernel
theorem dX11_result_19 : decode prog_13_method_28_code 19 = .ok (.isub, 1) := by decide +kernel
theorem dX11_result_20 : decode prog_13_method_28_code 20 = .ok (.invokestatic 80, 3) := by decide +kernel
theorem dX11_result_23 : decode prog_13_method_28_code 23 = .ok (.ifCond .eq 12, 3) := by decide +kernel
theorem dX11_result_26 : decode prog_13_method_28_code 26 = .ok (.aload_n 0, 1) := by decide +kernel
theorem dX11_result_27 : decode prog_13_method_28_code 27 = .ok (.getfield 25, 3) := by decide +kernel
theorem dX11_result_30 : decode prog_13_method_28_code 30 = .ok (.iload_n 1, 1) := by decide +kernel
theorem dX11_result_31 : decode prog_13_method_28_code 31 = .ok (.iaload, 1) := by decide +kernel
theorem dX11_result_32 : decode prog_13_method_28_code 32 = .ok (.goto 4, 3) := by decide +kernel
theorem dX11_result_35 : decode prog_13_method_28_code 35 = .ok (.iconst (-1), 1) := by decide +kernel
theorem dX11_result_36 : decode prog_13_method_28_code 36 = .ok (.ireturn, 1) := by decide +kernel
theorem sX11_result {Q : Int → Hp → Prop} {h : Hp} {l1 : Int}
    (hP : ((((h 103 7) ≠ 0) → (rj ((h 103 7) - 1))) ∧ (((h 103 7) ≠ 0 ∧ l1 ≥ 0 ∧ l1 ≤ ((h 103 7) - 1)) → (ix l1 8))) ∧
    Q (if (h 103 7) ≠ 0 then (if l1 < 0 ∨ l1 > ((h 103 7) - 1) then (-1) else (h 109 l1)) else (-5)) h) :
    CI 1 mX11_result [vr 103, vi l1] h Q := by
  refine CI_of_E fX11_result.1 rfl (Nat.le_of_ble_eq_true rfl) ?_
  show E 1 mX11_result 0 [(0, vr 103), (1, vi l1)] [] h (qi Q)
  obtain ⟨⟨v1_0, v1_1⟩, hP⟩ := hP
  refine E_aload_n 0 0 dX11_result_0 rfl rfl ?_
  refine E_gI 7 7 dX11_result_1 FX11_146 ic_103 rfl ?_
  have hJ : E 1 mX11_result 36 [(0, vr 103), (1, vi l1)] [vi (if (h 103 7) ≠ 0 then (if l1 < 0 ∨ l1 > ((h 103 7) - 1) then (-1) else (h 109 l1)) else (-5))] h (qi Q) := by
    exact E_retI dX11_result_36 rfl hP
  refine E_if_ne 12 dX11_result_4 rfl (fun hc => ?_) (fun hc => ?_)
  · have hp4 := (hc : (h 103 7) ≠ 0)
    refine E_iload_n 1 1 dX11_result_12 rfl rfl ?_
    refine E_iconst dX11_result_13 (rg_of rfl) ?_
    refine E_aload_n 0 0 dX11_result_14 rfl rfl ?_
    refine E_gI 7 7 dX11_result_15 FX11_146 ic_103 rfl ?_
    refine E_iconst dX11_result_18 (rg_of rfl) ?_
    refine E_isub dX11_result_19 (rgI (v1_0 (by omega))) ?_
    refine E_invSI [vi l1, vi 0, vi ((h 103 7) - 1)] dX11_result_20 fX11_isIn lX11_80 (by decide) rfl rfl (Nat.le_of_ble_eq_true rfl) (sX11_isIn (h := h) (l0 := l1) (l1 := 0) (l2 := ((h 103 7) - 1)) ?_)
    refine E_if_eq 35 dX11_result_23 rfl (fun hc => ?_) (fun hc => ?_)
    · have hp23 := (by have := ite0 hc; omega : l1 < 0 ∨ l1 > ((h 103 7) - 1))
      refine E_iconst dX11_result_35 (rg_of rfl) ?_
      exact E_top (by first | exact (if_pos (by omega)).symm | exact (if_neg (by omega)).symm | (repeat first | rw [if_pos (by omega)] | rw [if_neg (by omega)])) hJ
    · have hp23 := (by have := ite1 hc; omega : l1 ≥ 0 ∧ l1 ≤ ((h 103 7) - 1))
      refine E_aload_n 0 0 dX11_result_26 rfl rfl ?_
      refine E_gR 109 5 dX11_result_27 FX11_25 ic_103 (by decide) ?_
      refine E_iload_n 1 1 dX11_result_30 rfl rfl ?_
      refine E_iaload dX11_result_31 ic_109 (v1_1 (by omega)).1 (v1_1 (by omega)).2 ?_
      refine E_goto 36 dX11_result_32 rfl ?_
      exact E_top (by first | exact (if_pos (by omega)).symm | exact (if_neg (by omega)).symm | (repeat first | rw [if_pos (by omega)] | rw [if_neg (by omega)])) hJ
  · have hp4 := (by omega : (h 103 7) = 0)
    refine E_bipush dX11_result_7 (by decide) ?_
    refine E_goto 36 dX11_result_9 rfl ?_
    exact E_top (by first | exact (if_pos (by omega)).symm | exact (if_neg (by omega)).symm | (repeat first | rw [if_pos (by omega)] | rw [if_neg (by omega)])) hJ
theorem dX11_origin_0 : decode prog_13_method_29_code 0 = .ok (.aload_n 0, 1) := by decide +kernel
theorem dX11_origin_1 : decode prog_13_method_29_code 1 = .ok (.getfield 146, 3) := by decide +kernel
theorem dX11_origin_4 : decode prog_13_method_29_code 4 = .ok (.ifCond .ne 8, 3) := by decide +kernel
theorem dX11_origin_7 : decode prog_13_method_29_code 7 = .ok (.bipush (-5), 2) := by decide +kernel
theorem dX11_origin_9 : decode prog_13_method_29_code 9 = .ok (.goto 27, 3) := by decide +kernel
theorem dX11_origin_12 : decode prog_13_method_29_code 12 = .ok (.iload_n 1, 1) := by decide +kernel
theorem dX11_origin_13 : decode prog_13_method_29_code 13 = .ok (.iconst 0, 1) := by decide +kernel
theorem dX11_origin_14 : decode prog_13_method_29_code 14 = .ok (.aload_n 0, 1) := by decide +kernel
theorem dX11_origin_15 : decode prog_13_method_29_code 15 = .ok (.getfield 146, 3) := by decide +kernel
theorem dX11_origin_18 : decode prog_13_method_29_code 18 = .ok (.iconst 1, 1) := by decide +kernel
theorem dX11_origin_19 : decode prog_13_method_29_code 19 = .ok (.isub, 1) := by decide +kernel
theorem dX11_origin_20 : decode prog_13_method_29_code 20 = .ok (.invokestatic 80, 3) := by decide +kernel
theorem dX11_origin_23 : decode prog_13_method_29_code 23 = .ok (.ifCond .eq 12, 3) := by decide +kernel
theorem dX11_origin_26 : decode prog_13_method_29_code 26 = .ok (.aload_n 0, 1) := by decide +kernel
theorem dX11_origin_27 : decode prog_13_method_29_code 27 = .ok (.getfield 28, 3) := by decide +kernel
theorem dX11_origin_30 : decode prog_13_method_29_code 30 = .ok (.iload_n 1, 1) := by decide +kernel
theorem dX11_origin_31 : decode prog_13_method_29_code 31 = .ok (.iaload, 1) := by decide +kernel
theorem dX11_origin_32 : decode prog_13_method_29_code 32 = .ok (.goto 4, 3) := by decide +kernel
theorem dX11_origin_35 : decode prog_13_method_29_code 35 = .ok (.iconst (-1), 1) := by decide +kernel
theorem dX11_origin_36 : decode prog_13_method_29_code 36 = .ok (.ireturn, 1) := by decide +kernel
theorem sX11_origin {Q : Int → Hp → Prop} {h : Hp} {l1 : Int}
    (hP : ((((h 103 7) ≠ 0) → (rj ((h 103 7) - 1))) ∧ (((h 103 7) ≠ 0 ∧ l1 ≥ 0 ∧ l1 ≤ ((h 103 7) - 1)) → (ix l1 8))) ∧
    Q (if (h 103 7) ≠ 0 then (if l1 < 0 ∨ l1 > ((h 103 7) - 1) then (-1) else (h 110 l1)) else (-5)) h) :
    CI 1 mX11_origin [vr 103, vi l1] h Q := by
  refine CI_of_E fX11_origin.1 rfl (Nat.le_of_ble_eq_true rfl) ?_
  show E 1 mX11_origin 0 [(0, vr 103), (1, vi l1)] [] h (qi Q)
  obtain ⟨⟨v1_0, v1_1⟩, hP⟩ := hP
  refine E_aload_n 0 0 dX11_origin_0 rfl rfl ?_
  refine E_gI 7 7 dX11_origin_1 FX11_146 ic_103 rfl ?_
  have hJ : E 1 mX11_origin 36 [(0, vr 103), (1, vi l1)] [vi (if (h 103 7) ≠ 0 then (if l1 < 0 ∨ l1 > ((h 103 7) - 1) then (-1) else (h 110 l1)) else (-5))] h (qi Q) := by
    exact E_retI dX11_origin_36 rfl hP
  refine E_if_ne 12 dX11_origin_4 rfl (fun hc => ?_) (fun hc => ?_)
  · have hp4 := (hc : (h 103 7) ≠ 0)
    refine E_iload_n 1 1 dX11_origin_12 rfl rfl ?_
    refine E_iconst dX11_origin_13 (rg_of rfl) ?_
    refine E_aload_n 0 0 dX11_origin_14 rfl rfl ?_
    refine E_gI 7 7 dX11_origin_15 FX11_146 ic_103 rfl ?_
    refine E_iconst dX11_origin_18 (rg_of rfl) ?_
    refine E_isub dX11_origin_19 (rgI (v1_0 (by omega))) ?_
    refine E_invSI [vi l1, vi 0, vi ((h 103 7) - 1)] dX11_origin_20 fX11_isIn lX11_80 (by decide) rfl rfl (Nat.le_of_ble_eq_true rfl) (sX11_isIn (h := h) (l0 := l1) (l1 := 0) (l2 := ((h 103 7) - 1)) ?_)
    refine E_if_eq 35 dX11_origin_23 rfl (fun hc => ?_) (fun hc => ?_)
    · have hp23 := (by have := ite0 hc; omega : l1 < 0 ∨ l1 > ((h 103 7) - 1))
      refine E_iconst dX11_origin_35 (rg_of rfl) ?_
      exact E_top (by first | exact (if_pos (by omega)).symm | exact (if_neg (by omega)).symm | (repeat first | rw [if_pos (by omega)] | rw [if_neg (by omega)])) hJ
    · have hp23 := (by have := ite1 hc; omega : l1 ≥ 0 ∧ l1 ≤ ((h 103 7) - 1))
      refine E_aload_n 0 0 dX11_origin_26 rfl rfl ?_
      refine E_gR 110 6 dX11_origin_27 FX11_28 ic_103 (by decide) ?_
      refine E_iload_n 1 1 dX11_origin_30 rfl rfl ?_
      refine E_iaload dX11_origin_31 ic_110 (v1_1 (by omega)).1 (v1_1 (by omega)).2 ?_
      refine E_goto 36 dX11_origin_32 rfl ?_
      exact E_top (by first | exact (if_pos (by omega)).symm | exact (if_neg (by omega)).symm | (repeat first | rw [if_pos (by omega)] | rw [if_neg (by omega)])) hJ
  · have hp4 := (by omega : (h 103 7) = 0)
    refine E_bipush dX11_origin_7 (by decide) ?_
    refine E_goto 36 dX11_origin_9 rfl ?_
    exact E_top (by first | exact (if_pos (by omega)).symm | exact (if_neg (by omega)).symm | (repeat first | rw [if_pos (by omega)] | rw [if_neg (by omega)])) hJ
