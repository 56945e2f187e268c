theorem dX3_swapWiresBehind_0 : decode prog_5_method_19_code 0 = .ok (.iload_n 1, 1) := by decide +kernel
theorem dX3_swapWiresBehind_1 : decode prog_5_method_19_code 1 = .ok (.iconst 1, 1) := by decide +kernel
theorem dX3_swapWiresBehind_2 : decode prog_5_method_19_code 2 = .ok (.iadd, 1) := by decide +kernel
theorem dX3_swapWiresBehind_3 : decode prog_5_method_19_code 3 = .ok (.istore 4, 2) := by decide +kernel
theorem dX3_swapWiresBehind_5 : decode prog_5_method_19_code 5 = .ok (.iload 4, 2) := by decide +kernel
theorem dX3_swapWiresBehind_7 : decode prog_5_method_19_code 7 = .ok (.aload_n 0, 1) := by decide +kernel
theorem dX3_swapWiresBehind_8 : decode prog_5_method_19_code 8 = .ok (.getfield 15, 3) := by decide +kernel
theorem dX3_swapWiresBehind_11 : decode prog_5_method_19_code 11 = .ok (.if_icmp .ge 47, 3) := by decide +kernel
theorem dX3_swapWiresBehind_14 : decode prog_5_method_19_code 14 = .ok (.aload_n 0, 1) := by decide +kernel
theorem dX3_swapWiresBehind_15 : decode prog_5_method_19_code 15 = .ok (.getfield 18, 3) := by decide +kernel
theorem dX3_swapWiresBehind_18 : decode prog_5_method_19_code 18 = .ok (.iload 4, 2) := by decide +kernel
theorem dX3_swapWiresBehind_20 : decode prog_5_method_19_code 20 = .ok (.aload_n 0, 1) := by decide +kernel
theorem dX3_swapWiresBehind_21 : decode prog_5_method_19_code 21 = .ok (.getfield 18, 3) := by decide +kernel
theorem dX3_swapWiresBehind_24 : decode prog_5_method_19_code 24 = .ok (.iload 4, 2) := by decide +kernel
theorem dX3_swapWiresBehind_26 : decode prog_5_method_19_code 26 = .ok (.iaload, 1) := by decide +kernel
theorem dX3_swapWiresBehind_27 : decode prog_5_method_19_code 27 = .ok (.iload_n 2, 1) := by decide +kernel
theorem dX3_swapWiresBehind_28 : decode prog_5_method_19_code 28 = .ok (.iload_n 3, 1) := by decide +kernel
theorem dX3_swapWiresBehind_29 : decode prog_5_method_19_code 29 = .ok (.invokestatic 72, 3) := by decide +kernel
theorem dX3_swapWiresBehind_32 : decode prog_5_method_19_code 32 = .ok (.iastore, 1) := by decide +kernel
theorem dX3_swapWiresBehind_33 : decode prog_5_method_19_code 33 = .ok (.aload_n 0, 1) := by decide +kernel
theorem dX3_swapWiresBehind_34 : decode prog_5_method_19_code 34 = .ok (.getfield 22, 3) := by decide +kernel
theorem dX3_swapWiresBehind_37 : decode prog_5_method_19_code 37 = .ok (.iload 4, 2) := by decide +kernel
theorem dX3_swapWiresBehind_39 : decode prog_5_method_19_code 39 = .ok (.aload_n 0, 1) := by decide +kernel
theorem dX3_swapWiresBehind_40 : decode prog_5_method_19_code 40 = .ok (.getfield 22, 3) := by decide +kernel
theorem dX3_swapWiresBehind_43 : decode prog_5_method_19_code 43 = .ok (.iload 4, 2) := by decide +kernel
theorem dX3_swapWiresBehind_45 : decode prog_5_method_19_code 45 = .ok (.iaload, 1) := by decide +kernel
theorem dX3_swapWiresBehind_46 : decode prog_5_method_19_code 46 = .ok (.iload_n 2, 1) := by decide +kernel
theorem dX3_swapWiresBehind_47 : decode prog_5_method_19_code 47 = .ok (.iload_n 3, 1) := by decide +kernel
theorem dX3_swapWiresBehind_48 : decode prog_5_method_19_code 48 = .ok (.invokestatic 72, 3) := by decide +kernel
theorem dX3_swapWiresBehind_51 : decode prog_5_method_19_code 51 = .ok (.iastore, 1) := by decide +kernel
theorem dX3_swapWiresBehind_52 : decode prog_5_method_19_code 52 = .ok (.iinc 4 1, 3) := by decide +kernel
theorem dX3_swapWiresBehind_55 : decode prog_5_method_19_code 55 = .ok (.goto (-50), 3) := by decide +kernel
theorem dX3_swapWiresBehind_58 : decode prog_5_method_19_code 58 = .ok (.return_, 1) := by decide +kernel
theorem sX3_swapWiresBehind_5 {Q : Hp → Prop} {h : Hp} {a0 l2 l3 l4 : Int}
    (hP : (nA a0) ∧
    ((l4 ≥ (h a0 1)) →
     Q h) ∧
    ((l4 < (h a0 1)) →
     (nA a0 ∧ ix l4 40) ∧
     CI 0 mX3_swapped [vi (h (a0 + 1) l4), vi l2, vi l3] h (fun r5 h4 =>
      (nA a0 ∧ ix l4 40) ∧
      CI 0 mX3_swapped [vi ((up h4 (a0 + 1) l4 r5) (a0 + 2) l4), vi l2, vi l3] (up h4 (a0 + 1) l4 r5) (fun r8 h7 =>
       (nA a0 ∧ ix l4 40 ∧ rj (l4 + 1)) ∧
       E 1 mX3_swapWiresBehind 5 [(0, vr a0), (2, vi l2), (3, vi l3), (4, vi (l4 + 1))] [] (up h7 (a0 + 2) l4 r8) (qv Q))))) :
    E 1 mX3_swapWiresBehind 5 [(0, vr a0), (2, vi l2), (3, vi l3), (4, vi l4)] [] h (qv Q) := by
  obtain ⟨v1_0, hP⟩ := hP
  refine E_iload 3 dX3_swapWiresBehind_5 rfl ?_
  refine E_aload_n 0 0 dX3_swapWiresBehind_7 rfl rfl ?_
  refine E_gI 1 1 dX3_swapWiresBehind_8 FX3_15 (icN0 v1_0) rfl ?_
  refine E_icmp_ge 58 dX3_swapWiresBehind_11 rfl (fun hc => ?_) (fun hc => ?_)
  · replace hP := hP.1 (hc)
    exact E_retV dX3_swapWiresBehind_58 rfl hP
  · replace hP := hP.2 (by omega)
    obtain ⟨⟨v3_0, v3_1⟩, hP⟩ := hP
    refine E_aload_n 0 0 dX3_swapWiresBehind_14 rfl rfl ?_
    refine E_gR (a0 + 1) 2 dX3_swapWiresBehind_15 FX3_18 (icN0 v3_0) (rfN2 v3_0) ?_
    refine E_iload 3 dX3_swapWiresBehind_18 rfl ?_
    refine E_aload_n 0 0 dX3_swapWiresBehind_20 rfl rfl ?_
    refine E_gR (a0 + 1) 2 dX3_swapWiresBehind_21 FX3_18 (icN0 v3_0) (rfN2 v3_0) ?_
    refine E_iload 3 dX3_swapWiresBehind_24 rfl ?_
    refine E_iaload dX3_swapWiresBehind_26 (icN1 v3_0) v3_1.1 v3_1.2 ?_
    refine E_iload_n 1 2 dX3_swapWiresBehind_27 rfl rfl ?_
    refine E_iload_n 2 3 dX3_swapWiresBehind_28 rfl rfl ?_
    refine E_invSI [vi (h (a0 + 1) l4), vi l2, vi l3] dX3_swapWiresBehind_29 fX3_swapped lX3_72 (by decide) rfl rfl (Nat.le_of_ble_eq_true rfl) (CI_mono hP (fun r5 h4 hP => ?_))
    obtain ⟨⟨v6_0, v6_1⟩, hP⟩ := hP
    refine E_iastore dX3_swapWiresBehind_32 (icN1 v6_0) v6_1.1 v6_1.2 ?_
    refine E_aload_n 0 0 dX3_swapWiresBehind_33 rfl rfl ?_
    refine E_gR (a0 + 2) 3 dX3_swapWiresBehind_34 FX3_22 (icN0 v6_0) (rfN3 v6_0) ?_
    refine E_iload 3 dX3_swapWiresBehind_37 rfl ?_
    refine E_aload_n 0 0 dX3_swapWiresBehind_39 rfl rfl ?_
    refine E_gR (a0 + 2) 3 dX3_swapWiresBehind_40 FX3_22 (icN0 v6_0) (rfN3 v6_0) ?_
    refine E_iload 3 dX3_swapWiresBehind_43 rfl ?_
    refine E_iaload dX3_swapWiresBehind_45 (icN2 v6_0) v6_1.1 v6_1.2 ?_
    refine E_iload_n 1 2 dX3_swapWiresBehind_46 rfl rfl ?_
    refine E_iload_n 2 3 dX3_swapWiresBehind_47 rfl rfl ?_
    refine E_invSI [vi ((up h4 (a0 + 1) l4 r5) (a0 + 2) l4), vi l2, vi l3] dX3_swapWiresBehind_48 fX3_swapped lX3_72 (by decide) rfl rfl (Nat.le_of_ble_eq_true rfl) (CI_mono hP (fun r8 h7 hP => ?_))
    obtain ⟨⟨v9_0, v9_1, v9_2⟩, hP⟩ := hP
    refine E_iastore dX3_swapWiresBehind_51 (icN2 v9_0) v9_1.1 v9_1.2 ?_
    refine E_iinc 3 dX3_swapWiresBehind_52 rfl (rgI v9_2) (by decide) rfl ?_
    refine E_goto 5 dX3_swapWiresBehind_55 rfl ?_
    exact E_sub [1, 2, 3, 0] rfl hP
theorem sX3_swapWiresBehind {Q : Hp → Prop} {h : Hp} {a0 l1 l2 l3 : Int}
    (hP : (rj (l1 + 1)) ∧
    E 1 mX3_swapWiresBehind 5 [(0, vr a0), (2, vi l2), (3, vi l3), (4, vi (l1 + 1))] [] h (qv Q)) :
    CV 1 mX3_swapWiresBehind [vr a0, vi l1, vi l2, vi l3] h Q := by
  refine CV_of_E fX3_swapWiresBehind.1 rfl (Nat.le_of_ble_eq_true rfl) ?_
  show E 1 mX3_swapWiresBehind 0 [(0, vr a0), (1, vi l1), (2, vi l2), (3, vi l3)] [] h (qv Q)
  obtain ⟨v1_0, hP⟩ := hP
  refine E_iload_n 1 1 dX3_swapWiresBehind_0 rfl rfl ?_
  refine E_iconst dX3_swapWiresBehind_1 (rg_of rfl) ?_
  refine E_iadd dX3_swapWiresBehind_2 (rgI v1_0) ?_
  refine E_istore dX3_swapWiresBehind_3 (by decide) rfl ?_
  exact E_sub [1, 3, 4, 0] rfl hP
theorem dX3_turnAll_0 : decode prog_5_method_18_code 0 = .ok (.iconst 0, 1) := by decide +kernel
theorem dX3_turnAll_1 : decode prog_5_method_18_code 1 = .ok (.istore_n 1, 1) := by decide +kernel
theorem dX3_turnAll_2 : decode prog_5_method_18_code 2 = .ok (.iconst 0, 1) := by decide +kernel
theorem dX3_turnAll_3 : decode prog_5_method_18_code 3 = .ok (.istore_n 2, 1) := by decide +kernel
theorem dX3_turnAll_4 : decode prog_5_method_18_code 4 = .ok (.iload_n 2, 1) := by decide +kernel
theorem dX3_turnAll_5 : decode prog_5_method_18_code 5 = .ok (.aload_n 0, 1) := by decide +kernel
theorem dX3_turnAll_6 : decode prog_5_method_18_code 6 = .ok (.getfield 15, 3) := by decide +kernel
theorem dX3_turnAll_9 : decode prog_5_method_18_code 9 = .ok (.if_icmp .ge 56, 3) := by decide +kernel
theorem dX3_turnAll_12 : decode prog_5_method_18_code 12 = .ok (.aload_n 0, 1) := by decide +kernel
theorem dX3_turnAll_13 : decode prog_5_method_18_code 13 = .ok (.getfield 18, 3) := by decide +kernel
theorem dX3_turnAll_16 : decode prog_5_method_18_code 16 = .ok (.iload_n 2, 1) := by decide +kernel
theorem dX3_turnAll_17 : decode prog_5_method_18_code 17 = .ok (.iaload, 1) := by decide +kernel
theorem dX3_turnAll_18 : decode prog_5_method_18_code 18 = .ok (.istore_n 3, 1) := by decide +kernel
theorem dX3_turnAll_19 : decode prog_5_method_18_code 19 = .ok (.aload_n 0, 1) := by decide +kernel
theorem dX3_turnAll_20 : decode prog_5_method_18_code 20 = .ok (.getfield 22, 3) := by decide +kernel
theorem dX3_turnAll_23 : decode prog_5_method_18_code 23 = .ok (.iload_n 2, 1) := by decide +kernel
theorem dX3_turnAll_24 : decode prog_5_method_18_code 24 = .ok (.iaload, 1) := by decide +kernel
theorem dX3_turnAll_25 : decode prog_5_method_18_code 25 = .ok (.istore 4, 2) := by decide +kernel
theorem dX3_turnAll_27 : decode prog_5_method_18_code 27 = .ok (.iload_n 3, 1) := by decide +kernel
theorem dX3_turnAll_28 : decode prog_5_method_18_code 28 = .ok (.iload 4, 2) := by decide +kernel
theorem dX3_turnAll_30 : decode prog_5_method_18_code 30 = .ok (.if_icmp .le 29, 3) := by decide +kernel
theorem dX3_turnAll_33 : decode prog_5_method_18_code 33 = .ok (.aload_n 0, 1) := by decide +kernel
theorem dX3_turnAll_34 : decode prog_5_method_18_code 34 = .ok (.getfield 18, 3) := by decide +kernel
theorem dX3_turnAll_37 : decode prog_5_method_18_code 37 = .ok (.iload_n 2, 1) := by decide +kernel
theorem dX3_turnAll_38 : decode prog_5_method_18_code 38 = .ok (.iload 4, 2) := by decide +kernel
theorem dX3_turnAll_40 : decode prog_5_method_18_code 40 = .ok (.iastore, 1) := by decide +kernel
theorem dX3_turnAll_41 : decode prog_5_method_18_code 41 = .ok (.aload_n 0, 1) := by decide +kernel
theorem dX3_turnAll_42 : decode prog_5_method_18_code 42 = .ok (.getfield 22, 3) := by decide +kernel
theorem dX3_turnAll_45 : decode prog_5_method_18_code 45 = .ok (.iload_n 2, 1) := by decide +kernel
theorem dX3_turnAll_46 : decode prog_5_method_18_code 46 = .ok (.iload_n 3, 1) := by decide +kernel
theorem dX3_turnAll_47 : decode prog_5_method_18_code 47 = .ok (.iastore, 1) := by decide +kernel
theorem dX3_turnAll_48 : decode prog_5_method_18_code 48 = .ok (.aload_n 0, 1) := by decide +kernel
theorem dX3_turnAll_49 : decode prog_5_method_18_code 49 = .ok (.iload_n 2, 1) := by decide +kernel
theorem dX3_turnAll_50 : decode prog_5_method_18_code 50 = .ok (.iload_n 3, 1) := by decide +kernel
theorem dX3_turnAll_51 : decode prog_5_method_18_code 51 = .ok (.iload 4, 2) := by decide +kernel
theorem dX3_turnAll_53 : decode prog_5_method_18_code 53 = .ok (.invokevirtual 68, 3) := by decide +kernel
theorem dX3_turnAll_56 : decode prog_5_method_18_code 56 = .ok (.iinc 1 1, 3) := by decide +kernel
theorem dX3_turnAll_59 : decode prog_5_method_18_code 59 = .ok (.iinc 2 1, 3) := by decide +kernel
theorem dX3_turnAll_62 : decode prog_5_method_18_code 62 = .ok (.goto (-58), 3) := by decide +kernel
theorem dX3_turnAll_65 : decode prog_5_method_18_code 65 = .ok (.iload_n 1, 1) := by decide +kernel
theorem dX3_turnAll_66 : decode prog_5_method_18_code 66 = .ok (.ireturn, 1) := by decide +kernel
theorem sX3_turnAll_4 {Q : Int → Hp → Prop} {h : Hp} {a0 l1 l2 : Int}
    (hP : (nA a0) ∧
    ((l2 ≥ (h a0 1)) →
     Q l1 h) ∧
    ((l2 < (h a0 1)) →
     (nA a0 ∧ ix l2 40) ∧
     (((h (a0 + 1) l2) ≤ (h (a0 + 2) l2)) →
      (rj (l2 + 1)) ∧
      E 2 mX3_turnAll 4 [(0, vr a0), (1, vi l1), (2, vi (l2 + 1))] [] h (qi Q)) ∧
     (((h (a0 + 1) l2) > (h (a0 + 2) l2)) →
      (nA a0 ∧ ix l2 40) ∧
      CV 1 mX3_swapWiresBehind [vr a0, vi l2, vi (h (a0 + 1) l2), vi (h (a0 + 2) l2)] (up (up h (a0 + 1) l2 (h (a0 + 2) l2)) (a0 + 2) l2 (h (a0 + 1) l2)) (fun h6 =>
       (rj (l1 + 1) ∧ rj (l2 + 1)) ∧
       E 2 mX3_turnAll 4 [(0, vr a0), (1, vi (l1 + 1)), (2, vi (l2 + 1))] [] h6 (qi Q))))) :
    E 2 mX3_turnAll 4 [(0, vr a0), (1, vi l1), (2, vi l2)] [] h (qi Q) := by
  obtain ⟨v1_0, hP⟩ := hP
  refine E_iload_n 2 2 dX3_turnAll_4 rfl rfl ?_
  refine E_aload_n 0 0 dX3_turnAll_5 rfl rfl ?_
  refine E_gI 1 1 dX3_turnAll_6 FX3_15 (icN0 v1_0) rfl ?_
  refine E_icmp_ge 65 dX3_turnAll_9 rfl (fun hc => ?_) (fun hc => ?_)
  · replace hP := hP.1 (hc)
    refine E_iload_n 1 1 dX3_turnAll_65 rfl rfl ?_
    exact E_retI dX3_turnAll_66 rfl hP
  · replace hP := hP.2 (by omega)
    obtain ⟨⟨v3_0, v3_1⟩, hP⟩ := hP
    refine E_aload_n 0 0 dX3_turnAll_12 rfl rfl ?_
    refine E_gR (a0 + 1) 2 dX3_turnAll_13 FX3_18 (icN0 v3_0) (rfN2 v3_0) ?_
    refine E_iload_n 2 2 dX3_turnAll_16 rfl rfl ?_
    refine E_iaload dX3_turnAll_17 (icN1 v3_0) v3_1.1 v3_1.2 ?_
    refine E_istore_n dX3_turnAll_18 rfl (by decide) rfl ?_
    refine E_aload_n 1 0 dX3_turnAll_19 rfl rfl ?_
    refine E_gR (a0 + 2) 3 dX3_turnAll_20 FX3_22 (icN0 v3_0) (rfN3 v3_0) ?_
    refine E_iload_n 3 2 dX3_turnAll_23 rfl rfl ?_
    refine E_iaload dX3_turnAll_24 (icN2 v3_0) v3_1.1 v3_1.2 ?_
    refine E_istore dX3_turnAll_25 (by decide) rfl ?_
    refine E_iload_n 1 3 dX3_turnAll_27 rfl rfl ?_
    refine E_iload 0 dX3_turnAll_28 rfl ?_
    refine E_icmp_le 59 dX3_turnAll_30 rfl (fun hc => ?_) (fun hc => ?_)
    · replace hP := hP.1 (hc)
      obtain ⟨v4_0, hP⟩ := hP
      refine E_iinc 4 dX3_turnAll_59 rfl (rgI v4_0) (by decide) rfl ?_
      refine E_goto 4 dX3_turnAll_62 rfl ?_
      exact E_sub [3, 4, 0] rfl hP
    · replace hP := hP.2 (by omega)
      obtain ⟨⟨v5_0, v5_1⟩, hP⟩ := hP
      refine E_aload_n 2 0 dX3_turnAll_33 rfl rfl ?_
      refine E_gR (a0 + 1) 2 dX3_turnAll_34 FX3_18 (icN0 v5_0) (rfN2 v5_0) ?_
      refine E_iload_n 4 2 dX3_turnAll_37 rfl rfl ?_
      refine E_iload 0 dX3_turnAll_38 rfl ?_
      refine E_iastore dX3_turnAll_40 (icN1 v5_0) v5_1.1 v5_1.2 ?_
      refine E_aload_n 2 0 dX3_turnAll_41 rfl rfl ?_
      refine E_gR (a0 + 2) 3 dX3_turnAll_42 FX3_22 (icN0 v5_0) (rfN3 v5_0) ?_
      refine E_iload_n 4 2 dX3_turnAll_45 rfl rfl ?_
      refine E_iload_n 1 3 dX3_turnAll_46 rfl rfl ?_
      refine E_iastore dX3_turnAll_47 (icN2 v5_0) v5_1.1 v5_1.2 ?_
      refine E_aload_n 2 0 dX3_turnAll_48 rfl rfl ?_
      refine E_iload_n 4 2 dX3_turnAll_49 rfl rfl ?_
      refine E_iload_n 1 3 dX3_turnAll_50 rfl rfl ?_
      refine E_iload 0 dX3_turnAll_51 rfl ?_
      refine E_invVV [vi l2, vi (h (a0 + 1) l2), vi (h (a0 + 2) l2)] dX3_turnAll_53 fX3_swapWiresBehind lX3_68 (icN0 v5_0) rfl (by decide) rfl rfl (Nat.le_of_ble_eq_true rfl) (CV_mono hP (fun h6 hP => ?_))
      obtain ⟨⟨v7_0, v7_1⟩, hP⟩ := hP
      refine E_iinc 3 dX3_turnAll_56 rfl (rgI v7_0) (by decide) rfl ?_
      refine E_iinc 4 dX3_turnAll_59 rfl (rgI v7_1) (by decide) rfl ?_
      refine E_goto 4 dX3_turnAll_62 rfl ?_
      exact E_sub [4, 1, 0] rfl hP
theorem sX3_turnAll {Q : Int → Hp → Prop} {h : Hp} {a0 : Int}
    (hP : E 2 mX3_turnAll 4 [(0, vr a0), (1, vi 0), (2, vi 0)] [] h (qi Q)) :
    CI 2 mX3_turnAll [vr a0] h Q := by
  refine CI_of_E fX3_turnAll.1 rfl (Nat.le_of_ble_eq_true rfl) ?_
  show E 2 mX3_turnAll 0 [(0, vr a0)] [] h (qi Q)
  refine E_iconst dX3_turnAll_0 (rg_of rfl) ?_
  refine E_istore_n dX3_turnAll_1 rfl (by decide) rfl ?_
  refine E_iconst dX3_turnAll_2 (rg_of rfl) ?_
  refine E_istore_n dX3_turnAll_3 rfl (by decide) rfl ?_
  exact E_sub [2, 1, 0] rfl hP
theorem dX3_reflect_0 : decode prog_5_method_21_code 0 = .ok (.iconst 0, 1) := by decide +kernel
theorem dX3_reflect_1 : decode prog_5_method_21_code 1 = .ok (.istore_n 1, 1) := by decide +kernel
theorem dX3_reflect_2 : decode prog_5_method_21_code 2 = .ok (.iload_n 1, 1) := by decide +kernel
theorem dX3_reflect_3 : decode prog_5_method_21_code 3 = .ok (.aload_n 0, 1) := by decide +kernel
theorem dX3_reflect_4 : decode prog_5_method_21_code 4 = .ok (.getfield 15, 3) := by decide +kernel
theorem dX3_reflect_7 : decode prog_5_method_21_code 7 = .ok (.if_icmp .ge 49, 3) := by decide +kernel
theorem dX3_reflect_10 : decode prog_5_method_21_code 10 = .ok (.aload_n 0, 1) := by decide +kernel
theorem dX3_reflect_11 : decode prog_5_method_21_code 11 = .ok (.getfield 18, 3) := by decide +kernel
theorem dX3_reflect_14 : decode prog_5_method_21_code 14 = .ok (.iload_n 1, 1) := by decide +kernel
theorem dX3_reflect_15 : decode prog_5_method_21_code 15 = .ok (.iaload, 1) := by decide +kernel
theorem dX3_reflect_16 : decode prog_5_method_21_code 16 = .ok (.istore_n 2, 1) := by decide +kernel
theorem dX3_reflect_17 : decode prog_5_method_21_code 17 = .ok (.aload_n 0, 1) := by decide +kernel
theorem dX3_reflect_18 : decode prog_5_method_21_code 18 = .ok (.getfield 18, 3) := by decide +kernel
theorem dX3_reflect_21 : decode prog_5_method_21_code 21 = .ok (.iload_n 1, 1) := by decide +kernel
theorem dX3_reflect_22 : decode prog_5_method_21_code 22 = .ok (.aload_n 0, 1) := by decide +kernel
theorem dX3_reflect_23 : decode prog_5_method_21_code 23 = .ok (.getfield 9, 3) := by decide +kernel
theorem dX3_reflect_26 : decode prog_5_method_21_code 26 = .ok (.iconst 1, 1) := by decide +kernel
theorem dX3_reflect_27 : decode prog_5_method_21_code 27 = .ok (.isub, 1) := by decide +kernel
theorem dX3_reflect_28 : decode prog_5_method_21_code 28 = .ok (.aload_n 0, 1) := by decide +kernel
theorem dX3_reflect_29 : decode prog_5_method_21_code 29 = .ok (.getfield 22, 3) := by decide +kernel
theorem dX3_reflect_32 : decode prog_5_method_21_code 32 = .ok (.iload_n 1, 1) := by decide +kernel
theorem dX3_reflect_33 : decode prog_5_method_21_code 33 = .ok (.iaload, 1) := by decide +kernel
theorem dX3_reflect_34 : decode prog_5_method_21_code 34 = .ok (.isub, 1) := by decide +kernel
theorem dX3_reflect_35 : decode prog_5_method_21_code 35 = .ok (.iastore, 1) := by decide +kernel
theorem dX3_reflect_36 : decode prog_5_method_21_code 36 = .ok (.aload_n 0, 1) := by decide +kernel
theorem dX3_reflect_37 : decode prog_5_method_21_code 37 = .ok (.getfield 22, 3) := by decide +kernel
theorem dX3_reflect_40 : decode prog_5_method_21_code 40 = .ok (.iload_n 1, 1) := by decide +kernel
theorem dX3_reflect_41 : decode prog_5_method_21_code 41 = .ok (.aload_n 0, 1) := by decide +kernel
theorem dX3_reflect_42 : decode prog_5_method_21_code 42 = .ok (.getfield 9, 3) := by decide +kernel
theorem dX3_reflect_45 : decode prog_5_method_21_code 45 = .ok (.iconst 1, 1) := by decide +kernel
theorem dX3_reflect_46 : decode prog_5_method_21_code 46 = .ok (.isub, 1) := by decide +kernel
theorem dX3_reflect_47 : decode prog_5_method_21_code 47 = .ok (.iload_n 2, 1) := by decide +kernel
theorem dX3_reflect_48 : decode prog_5_method_21_code 48 = .ok (.isub, 1) := by decide +kernel
theorem dX3_reflect_49 : decode prog_5_method_21_code 49 = .ok (.iastore, 1) := by decide +kernel
theorem dX3_reflect_50 : decode prog_5_method_21_code 50 = .ok (.iinc 1 1, 3) := by decide +kernel
theorem dX3_reflect_53 : decode prog_5_method_21_code 53 = .ok (.goto (-51), 3) := by decide +kernel
theorem dX3_reflect_56 : decode prog_5_method_21_code 56 = .ok (.return_, 1) := by decide +kernel
theorem sX3_reflect_2 {Q : Hp → Prop} {h : Hp} {a0 l1 : Int}
    (hP : (nA a0) ∧
    ((l1 ≥ (h a0 1)) →
     Q h) ∧
    ((l1 < (h a0 1)) →
     (nA a0 ∧ ix l1 40 ∧ rj ((h a0 0) - 1) ∧ rj (((h a0 0) - 1) - (h (a0 + 2) l1)) ∧ rj (((up h (a0 + 1) l1 (((h a0 0) - 1) - (h (a0 + 2) l1))) a0 0) - 1) ∧ rj ((((up h (a0 + 1) l1 (((h a0 0) - 1) - (h (a0 + 2) l1))) a0 0) - 1) - (h (a0 + 1) l1)) ∧ rj (l1 + 1)) ∧
     E 0 mX3_reflect 2 [(0, vr a0), (1, vi (l1 + 1))] [] (up (up h (a0 + 1) l1 (((h a0 0) - 1) - (h (a0 + 2) l1))) (a0 + 2) l1 ((((up h (a0 + 1) l1 (((h a0 0) - 1) - (h (a0 + 2) l1))) a0 0) - 1) - (h (a0 + 1) l1))) (qv Q))) :
    E 0 mX3_reflect 2 [(0, vr a0), (1, vi l1)] [] h (qv Q) := by
  obtain ⟨v1_0, hP⟩ := hP
  refine E_iload_n 1 1 dX3_reflect_2 rfl rfl ?_
  refine E_aload_n 0 0 dX3_reflect_3 rfl rfl ?_
  refine E_gI 1 1 dX3_reflect_4 FX3_15 (icN0 v1_0) rfl ?_
  refine E_icmp_ge 56 dX3_reflect_7 rfl (fun hc => ?_) (fun hc => ?_)
  · replace hP := hP.1 (hc)
    exact E_retV dX3_reflect_56 rfl hP
  · replace hP := hP.2 (by omega)
    obtain ⟨⟨v3_0, v3_1, v3_2, v3_3, v3_4, v3_5, v3_6⟩, hP⟩ := hP
    refine E_aload_n 0 0 dX3_reflect_10 rfl rfl ?_
    refine E_gR (a0 + 1) 2 dX3_reflect_11 FX3_18 (icN0 v3_0) (rfN2 v3_0) ?_
    refine E_iload_n 1 1 dX3_reflect_14 rfl rfl ?_
    refine E_iaload dX3_reflect_15 (icN1 v3_0) v3_1.1 v3_1.2 ?_
    refine E_istore_n dX3_reflect_16 rfl (by decide) rfl ?_
    refine E_aload_n 1 0 dX3_reflect_17 rfl rfl ?_
    refine E_gR (a0 + 1) 2 dX3_reflect_18 FX3_18 (icN0 v3_0) (rfN2 v3_0) ?_
    refine E_iload_n 2 1 dX3_reflect_21 rfl rfl ?_
    refine E_aload_n 1 0 dX3_reflect_22 rfl rfl ?_
    refine E_gI 0 0 dX3_reflect_23 FX3_9 (icN0 v3_0) rfl ?_
    refine E_iconst dX3_reflect_26 (rg_of rfl) ?_
    refine E_isub dX3_reflect_27 (rgI v3_2) ?_
    refine E_aload_n 1 0 dX3_reflect_28 rfl rfl ?_
    refine E_gR (a0 + 2) 3 dX3_reflect_29 FX3_22 (icN0 v3_0) (rfN3 v3_0) ?_
    refine E_iload_n 2 1 dX3_reflect_32 rfl rfl ?_
    refine E_iaload dX3_reflect_33 (icN2 v3_0) v3_1.1 v3_1.2 ?_
    refine E_isub dX3_reflect_34 (rgI v3_3) ?_
    refine E_iastore dX3_reflect_35 (icN1 v3_0) v3_1.1 v3_1.2 ?_
    refine E_aload_n 1 0 dX3_reflect_36 rfl rfl ?_
    refine E_gR (a0 + 2) 3 dX3_reflect_37 FX3_22 (icN0 v3_0) (rfN3 v3_0) ?_
    refine E_iload_n 2 1 dX3_reflect_40 rfl rfl ?_
    refine E_aload_n 1 0 dX3_reflect_41 rfl rfl ?_
    refine E_gI 0 0 dX3_reflect_42 FX3_9 (icN0 v3_0) rfl ?_
    refine E_iconst dX3_reflect_45 (rg_of rfl) ?_
    refine E_isub dX3_reflect_46 (rgI v3_4) ?_
    refine E_iload_n 0 2 dX3_reflect_47 rfl rfl ?_
    refine E_isub dX3_reflect_48 (rgI v3_5) ?_
    refine E_iastore dX3_reflect_49 (icN2 v3_0) v3_1.1 v3_1.2 ?_
    refine E_iinc 2 dX3_reflect_50 rfl (rgI v3_6) (by decide) rfl ?_
    refine E_goto 2 dX3_reflect_53 rfl ?_
    exact E_sub [2, 0] rfl hP
theorem sX3_reflect {Q : Hp → Prop} {h : Hp} {a0 : Int}
    (hP : E 0 mX3_reflect 2 [(0, vr a0), (1, vi 0)] [] h (qv Q)) :
    CV 0 mX3_reflect [vr a0] h Q := by
  refine CV_of_E fX3_reflect.1 rfl (Nat.le_of_ble_eq_true rfl) ?_
  show E 0 mX3_reflect 0 [(0, vr a0)] [] h (qv Q)
  refine E_iconst dX3_reflect_0 (rg_of rfl) ?_
  refine E_istore_n dX3_reflect_1 rfl (by decide) rfl ?_
  exact E_sub [1, 0] rfl hP
theorem dX4_gather_0 : decode prog_6_method_2_code 0 = .ok (.aload_n 0, 1) := by decide +kernel
theorem dX4_gather_1 : decode prog_6_method_2_code 1 = .ok (.aload_n 1, 1) := by decide +kernel
theorem dX4_gather_2 : decode prog_6_method_2_code 2 = .ok (.getfield 26, 3) := by decide +kernel
theorem dX4_gather_5 : decode prog_6_method_2_code 5 = .ok (.putfield 19, 3) := by decide +kernel
theorem dX4_gather_8 : decode prog_6_method_2_code 8 = .ok (.aload_n 0, 1) := by decide +kernel
theorem dX4_gather_9 : decode prog_6_method_2_code 9 = .ok (.iconst 0, 1) := by decide +kernel
theorem dX4_gather_10 : decode prog_6_method_2_code 10 = .ok (.putfield 23, 3) := by decide +kernel
theorem dX4_gather_13 : decode prog_6_method_2_code 13 = .ok (.iconst 0, 1) := by decide +kernel
theorem dX4_gather_14 : decode prog_6_method_2_code 14 = .ok (.istore_n 2, 1) := by decide +kernel
theorem dX4_gather_15 : decode prog_6_method_2_code 15 = .ok (.iload_n 2, 1) := by decide +kernel
theorem dX4_gather_16 : decode prog_6_method_2_code 16 = .ok (.sipush 256, 3) := by decide +kernel
theorem dX4_gather_19 : decode prog_6_method_2_code 19 = .ok (.if_icmp .ge 16, 3) := by decide +kernel
theorem dX4_gather_22 : decode prog_6_method_2_code 22 = .ok (.aload_n 0, 1) := by decide +kernel
theorem dX4_gather_23 : decode prog_6_method_2_code 23 = .ok (.getfield 9, 3) := by decide +kernel
theorem dX4_gather_26 : decode prog_6_method_2_code 26 = .ok (.iload_n 2, 1) := by decide +kernel
theorem dX4_gather_27 : decode prog_6_method_2_code 27 = .ok (.iconst 0, 1) := by decide +kernel
theorem dX4_gather_28 : decode prog_6_method_2_code 28 = .ok (.bastore, 1) := by decide +kernel
theorem dX4_gather_29 : decode prog_6_method_2_code 29 = .ok (.iinc 2 1, 3) := by decide +kernel
theorem dX4_gather_32 : decode prog_6_method_2_code 32 = .ok (.goto (-17), 3) := by decide +kernel
theorem dX4_gather_35 : decode prog_6_method_2_code 35 = .ok (.iconst 0, 1) := by decide +kernel
theorem dX4_gather_36 : decode prog_6_method_2_code 36 = .ok (.istore_n 2, 1) := by decide +kernel
theorem dX4_gather_37 : decode prog_6_method_2_code 37 = .ok (.iload_n 2, 1) := by decide +kernel
theorem dX4_gather_38 : decode prog_6_method_2_code 38 = .ok (.iconst 1, 1) := by decide +kernel
theorem dX4_gather_39 : decode prog_6_method_2_code 39 = .ok (.aload_n 0, 1) := by decide +kernel
theorem dX4_gather_40 : decode prog_6_method_2_code 40 = .ok (.getfield 19, 3) := by decide +kernel
theorem dX4_gather_43 : decode prog_6_method_2_code 43 = .ok (.ishl, 1) := by decide +kernel
theorem dX4_gather_44 : decode prog_6_method_2_code 44 = .ok (.if_icmp .ge 51, 3) := by decide +kernel
theorem dX4_gather_47 : decode prog_6_method_2_code 47 = .ok (.aload_n 1, 1) := by decide +kernel
theorem dX4_gather_48 : decode prog_6_method_2_code 48 = .ok (.iload_n 2, 1) := by decide +kernel
theorem dX4_gather_49 : decode prog_6_method_2_code 49 = .ok (.invokevirtual 29, 3) := by decide +kernel
theorem dX4_gather_52 : decode prog_6_method_2_code 52 = .ok (.istore_n 3, 1) := by decide +kernel
theorem dX4_gather_53 : decode prog_6_method_2_code 53 = .ok (.aload_n 0, 1) := by decide +kernel
theorem dX4_gather_54 : decode prog_6_method_2_code 54 = .ok (.getfield 9, 3) := by decide +kernel
theorem dX4_gather_57 : decode prog_6_method_2_code 57 = .ok (.iload_n 3, 1) := by decide +kernel
theorem dX4_gather_58 : decode prog_6_method_2_code 58 = .ok (.baload, 1) := by decide +kernel
theorem dX4_gather_59 : decode prog_6_method_2_code 59 = .ok (.ifCond .ne 30, 3) := by decide +kernel
theorem dX4_gather_62 : decode prog_6_method_2_code 62 = .ok (.aload_n 0, 1) := by decide +kernel
theorem dX4_gather_63 : decode prog_6_method_2_code 63 = .ok (.getfield 9, 3) := by decide +kernel
theorem dX4_gather_66 : decode prog_6_method_2_code 66 = .ok (.iload_n 3, 1) := by decide +kernel
theorem dX4_gather_67 : decode prog_6_method_2_code 67 = .ok (.iconst 1, 1) := by decide +kernel
theorem dX4_gather_68 : decode prog_6_method_2_code 68 = .ok (.bastore, 1) := by decide +kernel
theorem dX4_gather_69 : decode prog_6_method_2_code 69 = .ok (.aload_n 0, 1) := by decide +kernel
theorem dX4_gather_70 : decode prog_6_method_2_code 70 = .ok (.getfield 15, 3) := by decide +kernel
theorem dX4_gather_73 : decode prog_6_method_2_code 73 = .ok (.aload_n 0, 1) := by decide +kernel
theorem dX4_gather_74 : decode prog_6_method_2_code 74 = .ok (.getfield 23, 3) := by decide +kernel
theorem dX4_gather_77 : decode prog_6_method_2_code 77 = .ok (.iload_n 3, 1) := by decide +kernel
theorem dX4_gather_78 : decode prog_6_method_2_code 78 = .ok (.iastore, 1) := by decide +kernel
theorem dX4_gather_79 : decode prog_6_method_2_code 79 = .ok (.aload_n 0, 1) := by decide +kernel
theorem dX4_gather_80 : decode prog_6_method_2_code 80 = .ok (.dup, 1) := by decide +kernel
theorem dX4_gather_81 : decode prog_6_method_2_code 81 = .ok (.getfield 23, 3) := by decide +kernel
theorem dX4_gather_84 : decode prog_6_method_2_code 84 = .ok (.iconst 1, 1) := by decide +kernel
theorem dX4_gather_85 : decode prog_6_method_2_code 85 = .ok (.iadd, 1) := by decide +kernel
theorem dX4_gather_86 : decode prog_6_method_2_code 86 = .ok (.putfield 23, 3) := by decide +kernel
theorem dX4_gather_89 : decode prog_6_method_2_code 89 = .ok (.iinc 2 1, 3) := by decide +kernel
theorem dX4_gather_92 : decode prog_6_method_2_code 92 = .ok (.goto (-55), 3) := by decide +kernel
theorem dX4_gather_95 : decode prog_6_method_2_code 95 = .ok (.return_, 1) := by decide +kernel
theorem sX4_gather_37 {Q : Hp → Prop} {h : Hp} {o0 l2 : Int}
    (hP : (oA o0) ∧
    ((l2 ≥ (j_ishl 1 (h o0 2))) →
     Q h) ∧
    ((l2 < (j_ishl 1 (h o0 2))) →
     CI 1 mX7_outputFor [vr 83, vi l2] h (fun r5 h4 =>
      (oA o0 ∧ ix r5 256) ∧
      (((h4 (o0 + 1) r5) ≠ 0) →
       (rj (l2 + 1)) ∧
       E 2 mX4_gather 37 [(0, vr o0), (1, vr 83), (2, vi (l2 + 1))] [] h4 (qv Q)) ∧
      (((h4 (o0 + 1) r5) = 0) →
       (oA o0 ∧ ix r5 256 ∧ ix ((up h4 (o0 + 1) r5 1) o0 3) 256 ∧ rj (((up (up h4 (o0 + 1) r5 1) (o0 + 2) ((up h4 (o0 + 1) r5 1) o0 3) r5) o0 3) + 1) ∧ rj (l2 + 1)) ∧
       E 2 mX4_gather 37 [(0, vr o0), (1, vr 83), (2, vi (l2 + 1))] [] (up (up (up h4 (o0 + 1) r5 1) (o0 + 2) ((up h4 (o0 + 1) r5 1) o0 3) r5) o0 3 (((up (up h4 (o0 + 1) r5 1) (o0 + 2) ((up h4 (o0 + 1) r5 1) o0 3) r5) o0 3) + 1)) (qv Q))))) :
    E 2 mX4_gather 37 [(0, vr o0), (1, vr 83), (2, vi l2)] [] h (qv Q) := by
  obtain ⟨v1_0, hP⟩ := hP
  refine E_iload_n 2 2 dX4_gather_37 rfl rfl ?_
  refine E_iconst dX4_gather_38 (rg_of rfl) ?_
  refine E_aload_n 0 0 dX4_gather_39 rfl rfl ?_
  refine E_gI 2 2 dX4_gather_40 FX4_19 (icO0 v1_0) rfl ?_
  refine E_ishl dX4_gather_43 ?_
  refine E_icmp_ge 95 dX4_gather_44 rfl (fun hc => ?_) (fun hc => ?_)
  · replace hP := hP.1 (hc)
    exact E_retV dX4_gather_95 rfl hP
  · replace hP := hP.2 (by omega)
    refine E_aload_n 1 1 dX4_gather_47 rfl rfl ?_
    refine E_iload_n 2 2 dX4_gather_48 rfl rfl ?_
    refine E_invVI [vi l2] dX4_gather_49 fX7_outputFor lX4_29 ic_83 rfl (by decide) rfl rfl (Nat.le_of_ble_eq_true rfl) (CI_mono hP (fun r5 h4 hP => ?_))
    obtain ⟨⟨v6_0, v6_1⟩, hP⟩ := hP
    refine E_istore_n dX4_gather_52 rfl (by decide) rfl ?_
    refine E_aload_n 1 0 dX4_gather_53 rfl rfl ?_
    refine E_gR (o0 + 1) 0 dX4_gather_54 FX4_9 (icO0 v6_0) (rfO0 v6_0) ?_
    refine E_iload_n 0 3 dX4_gather_57 rfl rfl ?_
    refine E_baload dX4_gather_58 (icO1 v6_0) v6_1.1 v6_1.2 ?_
    refine E_if_ne 89 dX4_gather_59 rfl (fun hc => ?_) (fun hc => ?_)
    · replace hP := hP.1 (hc)
      obtain ⟨v7_0, hP⟩ := hP
      refine E_iinc 3 dX4_gather_89 rfl (rgI v7_0) (by decide) rfl ?_
      refine E_goto 37 dX4_gather_92 rfl ?_
      exact E_sub [2, 3, 0] rfl hP
    · replace hP := hP.2 (by omega)
      obtain ⟨⟨v8_0, v8_1, v8_2, v8_3, v8_4⟩, hP⟩ := hP
      refine E_aload_n 1 0 dX4_gather_62 rfl rfl ?_
      refine E_gR (o0 + 1) 0 dX4_gather_63 FX4_9 (icO0 v8_0) (rfO0 v8_0) ?_
      refine E_iload_n 0 3 dX4_gather_66 rfl rfl ?_
      refine E_iconst dX4_gather_67 (rg_of rfl) ?_
      refine E_bastore dX4_gather_68 (icO1 v8_0) v8_1.1 v8_1.2 (Or.inr rfl) ?_
      refine E_aload_n 1 0 dX4_gather_69 rfl rfl ?_
      refine E_gR (o0 + 2) 1 dX4_gather_70 FX4_15 (icO0 v8_0) (rfO1 v8_0) ?_
      refine E_aload_n 1 0 dX4_gather_73 rfl rfl ?_
      refine E_gI 3 3 dX4_gather_74 FX4_23 (icO0 v8_0) rfl ?_
      refine E_iload_n 0 3 dX4_gather_77 rfl rfl ?_
      refine E_iastore dX4_gather_78 (icO2 v8_0) v8_2.1 v8_2.2 ?_
      refine E_aload_n 1 0 dX4_gather_79 rfl rfl ?_
      refine E_dup dX4_gather_80 rfl ?_
      refine E_gI 3 3 dX4_gather_81 FX4_23 (icO0 v8_0) rfl ?_
      refine E_iconst dX4_gather_84 (rg_of rfl) ?_
      refine E_iadd dX4_gather_85 (rgI v8_3) ?_
      refine E_pI 3 3 dX4_gather_86 PX4_23 (icO0 v8_0) rfl ?_
      refine E_iinc 3 dX4_gather_89 rfl (rgI v8_4) (by decide) rfl ?_
      refine E_goto 37 dX4_gather_92 rfl ?_
      exact E_sub [2, 3, 0] rfl hP
theorem sX4_gather_15 {Q : Hp → Prop} {h : Hp} {o0 l2 : Int}
    (hP : ((l2 ≥ 256) →
     E 2 mX4_gather 37 [(0, vr o0), (1, vr 83), (2, vi 0)] [] h (qv Q)) ∧
    ((l2 < 256) →
     (oA o0 ∧ ix l2 256 ∧ rj (l2 + 1)) ∧
     E 2 mX4_gather 15 [(0, vr o0), (1, vr 83), (2, vi (l2 + 1))] [] (up h (o0 + 1) l2 0) (qv Q))) :
    E 2 mX4_gather 15 [(0, vr o0), (1, vr 83), (2, vi l2)] [] h (qv Q) := by
  refine E_iload_n 2 2 dX4_gather_15 rfl rfl ?_
  refine E_sipush dX4_gather_16 (by decide) ?_
  refine E_icmp_ge 35 dX4_gather_19 rfl (fun hc => ?_) (fun hc => ?_)
  · replace hP := hP.1 (hc)
    refine E_iconst dX4_gather_35 (rg_of rfl) ?_
    refine E_istore_n dX4_gather_36 rfl (by decide) rfl ?_
    exact E_sub [1, 2, 0] rfl hP
  · replace hP := hP.2 (by omega)
    obtain ⟨⟨v3_0, v3_1, v3_2⟩, hP⟩ := hP
    refine E_aload_n 0 0 dX4_gather_22 rfl rfl ?_
    refine E_gR (o0 + 1) 0 dX4_gather_23 FX4_9 (icO0 v3_0) (rfO0 v3_0) ?_
    refine E_iload_n 2 2 dX4_gather_26 rfl rfl ?_
    refine E_iconst dX4_gather_27 (rg_of rfl) ?_
    refine E_bastore dX4_gather_28 (icO1 v3_0) v3_1.1 v3_1.2 (Or.inl rfl) ?_
    refine E_iinc 2 dX4_gather_29 rfl (rgI v3_2) (by decide) rfl ?_
    refine E_goto 15 dX4_gather_32 rfl ?_
    exact E_sub [1, 2, 0] rfl hP
theorem sX4_gather {Q : Hp → Prop} {h : Hp} {o0 : Int}
    (hP : (oA o0) ∧
    E 2 mX4_gather 15 [(0, vr o0), (1, vr 83), (2, vi 0)] [] (up (up h o0 2 (h 83 1)) o0 3 0) (qv Q)) :
    CV 2 mX4_gather [vr o0, vr 83] h Q := by
  refine CV_of_E fX4_gather.1 rfl (Nat.le_of_ble_eq_true rfl) ?_
  show E 2 mX4_gather 0 [(0, vr o0), (1, vr 83)] [] h (qv Q)
  obtain ⟨v1_0, hP⟩ := hP
  refine E_aload_n 0 0 dX4_gather_0 rfl rfl ?_
  refine E_aload_n 1 1 dX4_gather_1 rfl rfl ?_
  refine E_gI 1 1 dX4_gather_2 FX4_26 ic_83 rfl ?_
  refine E_pI 2 2 dX4_gather_5 PX4_19 (icO0 v1_0) rfl ?_
  refine E_aload_n 0 0 dX4_gather_8 rfl rfl ?_
  refine E_iconst dX4_gather_9 (rg_of rfl) ?_
  refine E_pI 3 3 dX4_gather_10 PX4_23 (icO0 v1_0) rfl ?_
  refine E_iconst dX4_gather_13 (rg_of rfl) ?_
  refine E_istore_n dX4_gather_14 rfl (by decide) rfl ?_
  exact E_sub [1, 2, 0] rfl hP
theorem dX4_equalTo_0 : decode prog_6_method_3_code 0 = .ok (.iconst 0, 1) := by decide +kernel
theorem dX4_equalTo_1 : decode prog_6_method_3_code 1 = .ok (.istore_n 2, 1) := by decide +kernel
theorem dX4_equalTo_2 : decode prog_6_method_3_code 2 = .ok (.iload_n 2, 1) := by decide +kernel
theorem dX4_equalTo_3 : decode prog_6_method_3_code 3 = .ok (.sipush 256, 3) := by decide +kernel
theorem dX4_equalTo_6 : decode prog_6_method_3_code 6 = .ok (.if_icmp .ge 26, 3) := by decide +kernel
theorem dX4_equalTo_9 : decode prog_6_method_3_code 9 = .ok (.aload_n 0, 1) := by decide +kernel
theorem dX4_equalTo_10 : decode prog_6_method_3_code 10 = .ok (.getfield 9, 3) := by decide +kernel
theorem dX4_equalTo_13 : decode prog_6_method_3_code 13 = .ok (.iload_n 2, 1) := by decide +kernel
theorem dX4_equalTo_14 : decode prog_6_method_3_code 14 = .ok (.baload, 1) := by decide +kernel
theorem dX4_equalTo_15 : decode prog_6_method_3_code 15 = .ok (.aload_n 1, 1) := by decide +kernel
theorem dX4_equalTo_16 : decode prog_6_method_3_code 16 = .ok (.getfield 9, 3) := by decide +kernel
theorem dX4_equalTo_19 : decode prog_6_method_3_code 19 = .ok (.iload_n 2, 1) := by decide +kernel
theorem dX4_equalTo_20 : decode prog_6_method_3_code 20 = .ok (.baload, 1) := by decide +kernel
theorem dX4_equalTo_21 : decode prog_6_method_3_code 21 = .ok (.if_icmp .eq 5, 3) := by decide +kernel
theorem dX4_equalTo_24 : decode prog_6_method_3_code 24 = .ok (.iconst 0, 1) := by decide +kernel
theorem dX4_equalTo_25 : decode prog_6_method_3_code 25 = .ok (.ireturn, 1) := by decide +kernel
theorem dX4_equalTo_26 : decode prog_6_method_3_code 26 = .ok (.iinc 2 1, 3) := by decide +kernel
theorem dX4_equalTo_29 : decode prog_6_method_3_code 29 = .ok (.goto (-27), 3) := by decide +kernel
theorem dX4_equalTo_32 : decode prog_6_method_3_code 32 = .ok (.iconst 1, 1) := by decide +kernel
theorem dX4_equalTo_33 : decode prog_6_method_3_code 33 = .ok (.ireturn, 1) := by decide +kernel
theorem sX4_equalTo_2 {Q : Int → Hp → Prop} {h : Hp} {o0 o1 l2 : Int}
    (hP : ((l2 ≥ 256) →
     Q 1 h) ∧
    ((l2 < 256) →
     (oA o0 ∧ ix l2 256 ∧ oA o1) ∧
     (((h (o0 + 1) l2) = (h (o1 + 1) l2)) →
      (rj (l2 + 1)) ∧
      E 0 mX4_equalTo 2 [(0, vr o0), (1, vr o1), (2, vi (l2 + 1))] [] h (qi Q)) ∧
     (((h (o0 + 1) l2) ≠ (h (o1 + 1) l2)) →
      Q 0 h))) :
    E 0 mX4_equalTo 2 [(0, vr o0), (1, vr o1), (2, vi l2)] [] h (qi Q) := by
  refine E_iload_n 2 2 dX4_equalTo_2 rfl rfl ?_
  refine E_sipush dX4_equalTo_3 (by decide) ?_
  refine E_icmp_ge 32 dX4_equalTo_6 rfl (fun hc => ?_) (fun hc => ?_)
  · replace hP := hP.1 (hc)
    refine E_iconst dX4_equalTo_32 (rg_of rfl) ?_
    exact E_retZ dX4_equalTo_33 rfl (Or.inr rfl) hP
  · replace hP := hP.2 (by omega)
    obtain ⟨⟨v3_0, v3_1, v3_2⟩, hP⟩ := hP
    refine E_aload_n 0 0 dX4_equalTo_9 rfl rfl ?_
    refine E_gR (o0 + 1) 0 dX4_equalTo_10 FX4_9 (icO0 v3_0) (rfO0 v3_0) ?_
    refine E_iload_n 2 2 dX4_equalTo_13 rfl rfl ?_
    refine E_baload dX4_equalTo_14 (icO1 v3_0) v3_1.1 v3_1.2 ?_
    refine E_aload_n 1 1 dX4_equalTo_15 rfl rfl ?_
    refine E_gR (o1 + 1) 0 dX4_equalTo_16 FX4_9 (icO0 v3_2) (rfO0 v3_2) ?_
    refine E_iload_n 2 2 dX4_equalTo_19 rfl rfl ?_
    refine E_baload dX4_equalTo_20 (icO1 v3_2) v3_1.1 v3_1.2 ?_
    refine E_icmp_eq 26 dX4_equalTo_21 rfl (fun hc => ?_) (fun hc => ?_)
    · replace hP := hP.1 (hc)
      obtain ⟨v4_0, hP⟩ := hP
      refine E_iinc 2 dX4_equalTo_26 rfl (rgI v4_0) (by decide) rfl ?_
      refine E_goto 2 dX4_equalTo_29 rfl ?_
      exact E_sub [1, 2, 0] rfl hP
    · replace hP := hP.2 (by omega)
      refine E_iconst dX4_equalTo_24 (rg_of rfl) ?_
      exact E_retZ dX4_equalTo_25 rfl (Or.inl rfl) hP
theorem sX4_equalTo {Q : Int → Hp → Prop} {h : Hp} {o0 o1 : Int}
    (hP : E 0 mX4_equalTo 2 [(0, vr o0), (1, vr o1), (2, vi 0)] [] h (qi Q)) :
    CI 0 mX4_equalTo [vr o0, vr o1] h Q := by
  refine CI_of_E fX4_equalTo.1 rfl (Nat.le_of_ble_eq_true rfl) ?_
  show E 0 mX4_equalTo 0 [(0, vr o0), (1, vr o1)] [] h (qi Q)
  refine E_iconst dX4_equalTo_0 (rg_of rfl) ?_
  refine E_istore_n dX4_equalTo_1 rfl (by decide) rfl ?_
  exact E_sub [1, 2, 0] rfl hP
theorem dX5_link_0 : decode prog_7_method_3_code 0 = .ok (.aload_n 0, 1) := by decide +kernel
theorem dX5_link_1 : decode prog_7_method_3_code 1 = .ok (.getfield 9, 3) := by decide +kernel
theorem dX5_link_4 : decode prog_7_method_3_code 4 = .ok (.iload_n 1, 1) := by decide +kernel
theorem dX5_link_5 : decode prog_7_method_3_code 5 = .ok (.iaload, 1) := by decide +kernel
theorem dX5_link_6 : decode prog_7_method_3_code 6 = .ok (.iconst (-1), 1) := by decide +kernel
theorem dX5_link_7 : decode prog_7_method_3_code 7 = .ok (.if_icmp .ne 27, 3) := by decide +kernel
theorem dX5_link_10 : decode prog_7_method_3_code 10 = .ok (.aload_n 0, 1) := by decide +kernel
theorem dX5_link_11 : decode prog_7_method_3_code 11 = .ok (.getfield 15, 3) := by decide +kernel
theorem dX5_link_14 : decode prog_7_method_3_code 14 = .ok (.iload_n 2, 1) := by decide +kernel
theorem dX5_link_15 : decode prog_7_method_3_code 15 = .ok (.iaload, 1) := by decide +kernel
theorem dX5_link_16 : decode prog_7_method_3_code 16 = .ok (.iconst (-1), 1) := by decide +kernel
theorem dX5_link_17 : decode prog_7_method_3_code 17 = .ok (.if_icmp .ne 17, 3) := by decide +kernel
theorem dX5_link_20 : decode prog_7_method_3_code 20 = .ok (.aload_n 0, 1) := by decide +kernel
theorem dX5_link_21 : decode prog_7_method_3_code 21 = .ok (.getfield 9, 3) := by decide +kernel
theorem dX5_link_24 : decode prog_7_method_3_code 24 = .ok (.iload_n 1, 1) := by decide +kernel
theorem dX5_link_25 : decode prog_7_method_3_code 25 = .ok (.iload_n 2, 1) := by decide +kernel
theorem dX5_link_26 : decode prog_7_method_3_code 26 = .ok (.iastore, 1) := by decide +kernel
theorem dX5_link_27 : decode prog_7_method_3_code 27 = .ok (.aload_n 0, 1) := by decide +kernel
theorem dX5_link_28 : decode prog_7_method_3_code 28 = .ok (.getfield 15, 3) := by decide +kernel
theorem dX5_link_31 : decode prog_7_method_3_code 31 = .ok (.iload_n 2, 1) := by decide +kernel
theorem dX5_link_32 : decode prog_7_method_3_code 32 = .ok (.iload_n 1, 1) := by decide +kernel
theorem dX5_link_33 : decode prog_7_method_3_code 33 = .ok (.iastore, 1) := by decide +kernel
theorem dX5_link_34 : decode prog_7_method_3_code 34 = .ok (.aload_n 0, 1) := by decide +kernel
theorem dX5_link_35 : decode prog_7_method_3_code 35 = .ok (.getfield 9, 3) := by decide +kernel
theorem dX5_link_38 : decode prog_7_method_3_code 38 = .ok (.iload_n 1, 1) := by decide +kernel
theorem dX5_link_39 : decode prog_7_method_3_code 39 = .ok (.iaload, 1) := by decide +kernel
theorem dX5_link_40 : decode prog_7_method_3_code 40 = .ok (.iload_n 2, 1) := by decide +kernel
theorem dX5_link_41 : decode prog_7_method_3_code 41 = .ok (.if_icmp .ne 7, 3) := by decide +kernel
theorem dX5_link_44 : decode prog_7_method_3_code 44 = .ok (.iconst 1, 1) := by decide +kernel
theorem dX5_link_45 : decode prog_7_method_3_code 45 = .ok (.goto 4, 3) := by decide +kernel
theorem dX5_link_48 : decode prog_7_method_3_code 48 = .ok (.iconst 0, 1) := by decide +kernel
theorem dX5_link_49 : decode prog_7_method_3_code 49 = .ok (.ireturn, 1) := by decide +kernel
theorem sX5_link {Q : Int → Hp → Prop} {h : Hp} {l1 l2 : Int}
    (hP : (ix l1 8) ∧
    (((h 101 l1) ≠ (-1)) →
     (ix l1 8) ∧
     Q (if (h 101 l1) = l2 then (1 : Int) else 0) h) ∧
    (((h 101 l1) = (-1)) →
     (ix l2 8) ∧
     (((h 102 l2) ≠ (-1)) →
      (ix l1 8) ∧
      Q (if (h 101 l1) = l2 then (1 : Int) else 0) h) ∧
     (((h 102 l2) = (-1)) →
      (ix l1 8 ∧ ix l2 8) ∧
      Q (if l2 = l2 then (1 : Int) else 0) (up (up h 101 l1 l2) 102 l2 l1)))) :
    CI 0 mX5_link [vr 100, vi l1, vi l2] h Q := by
  refine CI_of_E fX5_link.1 rfl (Nat.le_of_ble_eq_true rfl) ?_
  show E 0 mX5_link 0 [(0, vr 100), (1, vi l1), (2, vi l2)] [] h (qi Q)
  obtain ⟨v1_0, hP⟩ := hP
  refine E_aload_n 0 0 dX5_link_0 rfl rfl ?_
  refine E_gR 101 0 dX5_link_1 FX5_9 ic_100 (by decide) ?_
  refine E_iload_n 1 1 dX5_link_4 rfl rfl ?_
  refine E_iaload dX5_link_5 ic_101 v1_0.1 v1_0.2 ?_
  refine E_iconst dX5_link_6 (rg_of rfl) ?_
  refine E_icmp_ne 34 dX5_link_7 rfl (fun hc => ?_) (fun hc => ?_)
  · replace hP := hP.1 (hc)
    obtain ⟨v2_0, hP⟩ := hP
    refine E_aload_n 0 0 dX5_link_34 rfl rfl ?_
    refine E_gR 101 0 dX5_link_35 FX5_9 ic_100 (by decide) ?_
    refine E_iload_n 1 1 dX5_link_38 rfl rfl ?_
    refine E_iaload dX5_link_39 ic_101 v2_0.1 v2_0.2 ?_
    refine E_iload_n 2 2 dX5_link_40 rfl rfl ?_
    have hJ : E 0 mX5_link 49 [(0, vr 100), (1, vi l1), (2, vi l2)] [vi (if (h 101 l1) = l2 then (1 : Int) else 0)] h (qi Q) := by
      exact E_retZ dX5_link_49 rfl (b01 _) hP
    refine E_icmp_ne 48 dX5_link_41 rfl (fun hc => ?_) (fun hc => ?_)
    · have hp41 := (hc : (h 101 l1) ≠ l2)
      refine E_iconst dX5_link_48 (rg_of rfl) ?_
      exact E_top (if_neg (by omega)).symm hJ
    · have hp41 := (by omega : (h 101 l1) = l2)
      refine E_iconst dX5_link_44 (rg_of rfl) ?_
      refine E_goto 49 dX5_link_45 rfl ?_
      exact E_top (if_pos (by omega)).symm hJ
  · replace hP := hP.2 (by omega)
    obtain ⟨v4_0, hP⟩ := hP
    refine E_aload_n 0 0 dX5_link_10 rfl rfl ?_
    refine E_gR 102 1 dX5_link_11 FX5_15 ic_100 (by decide) ?_
    refine E_iload_n 2 2 dX5_link_14 rfl rfl ?_
    refine E_iaload dX5_link_15 ic_102 v4_0.1 v4_0.2 ?_
    refine E_iconst dX5_link_16 (rg_of rfl) ?_
    refine E_icmp_ne 34 dX5_link_17 rfl (fun hc => ?_) (fun hc => ?_)
    · replace hP := hP.1 (hc)
      obtain ⟨v5_0, hP⟩ := hP
      refine E_aload_n 0 0 dX5_link_34 rfl rfl ?_
      refine E_gR 101 0 dX5_link_35 FX5_9 ic_100 (by decide) ?_
      refine E_iload_n 1 1 dX5_link_38 rfl rfl ?_
      refine E_iaload dX5_link_39 ic_101 v5_0.1 v5_0.2 ?_
      refine E_iload_n 2 2 dX5_link_40 rfl rfl ?_
      have hJ : E 0 mX5_link 49 [(0, vr 100), (1, vi l1), (2, vi l2)] [vi (if (h 101 l1) = l2 then (1 : Int) else 0)] h (qi Q) := by
        exact E_retZ dX5_link_49 rfl (b01 _) hP
      refine E_icmp_ne 48 dX5_link_41 rfl (fun hc => ?_) (fun hc => ?_)
      · have hp41 := (hc : (h 101 l1) ≠ l2)
        refine E_iconst dX5_link_48 (rg_of rfl) ?_
        exact E_top (if_neg (by omega)).symm hJ
      · have hp41 := (by omega : (h 101 l1) = l2)
        refine E_iconst dX5_link_44 (rg_of rfl) ?_
        refine E_goto 49 dX5_link_45 rfl ?_
        exact E_top (if_pos (by omega)).symm hJ
    · replace hP := hP.2 (by omega)
      obtain ⟨⟨v7_0, v7_1⟩, hP⟩ := hP
      refine E_aload_n 0 0 dX5_link_20 rfl rfl ?_
      refine E_gR 101 0 dX5_link_21 FX5_9 ic_100 (by decide) ?_
      refine E_iload_n 1 1 dX5_link_24 rfl rfl ?_
      refine E_iload_n 2 2 dX5_link_25 rfl rfl ?_
      refine E_iastore dX5_link_26 ic_101 v7_0.1 v7_0.2 ?_
      refine E_aload_n 0 0 dX5_link_27 rfl rfl ?_
      refine E_gR 102 1 dX5_link_28 FX5_15 ic_100 (by decide) ?_
      refine E_iload_n 2 2 dX5_link_31 rfl rfl ?_
      refine E_iload_n 1 1 dX5_link_32 rfl rfl ?_
      refine E_iastore dX5_link_33 ic_102 v7_1.1 v7_1.2 ?_
      refine E_aload_n 0 0 dX5_link_34 rfl rfl ?_
      refine E_gR 101 0 dX5_link_35 FX5_9 ic_100 (by decide) ?_
      refine E_iload_n 1 1 dX5_link_38 rfl rfl ?_
      refine E_iaload dX5_link_39 ic_101 v7_0.1 v7_0.2 ?_
      refine E_top (y := l2) (by simp [up]) ?_
      refine E_iload_n 2 2 dX5_link_40 rfl rfl ?_
      have hJ : E 0 mX5_link 49 [(0, vr 100), (1, vi l1), (2, vi l2)] [vi (if l2 = l2 then (1 : Int) else 0)] (up (up h 101 l1 l2) 102 l2 l1) (qi Q) := by
        exact E_retZ dX5_link_49 rfl (b01 _) hP
      refine E_icmp_ne 48 dX5_link_41 rfl (fun hc => ?_) (fun hc => ?_)
      · have hp41 := (hc : l2 ≠ l2)
        refine E_iconst dX5_link_48 (rg_of rfl) ?_
        exact E_top (if_neg (by omega)).symm hJ
      · have hp41 := (by omega : l2 = l2)
        refine E_iconst dX5_link_44 (rg_of rfl) ?_
        refine E_goto 49 dX5_link_45 rfl ?_
        exact E_top (if_pos (by omega)).symm hJ
theorem dX5_makes_0 : decode prog_7_method_2_code 0 = .ok (.aload_n 1, 1) := by decide +kernel
theorem dX5_makes_1 : decode prog_7_method_2_code 1 = .ok (.getfield 18, 3) := by decide +kernel
theorem dX5_makes_4 : decode prog_7_method_2_code 4 = .ok (.aload_n 2, 1) := by decide +kernel
theorem dX5_makes_5 : decode prog_7_method_2_code 5 = .ok (.getfield 18, 3) := by decide +kernel
theorem dX5_makes_8 : decode prog_7_method_2_code 8 = .ok (.if_icmp .eq 5, 3) := by decide +kernel
theorem dX5_makes_11 : decode prog_7_method_2_code 11 = .ok (.iconst 0, 1) := by decide +kernel
theorem dX5_makes_12 : decode prog_7_method_2_code 12 = .ok (.ireturn, 1) := by decide +kernel
theorem dX5_makes_13 : decode prog_7_method_2_code 13 = .ok (.aload_n 0, 1) := by decide +kernel
theorem dX5_makes_14 : decode prog_7_method_2_code 14 = .ok (.getfield 9, 3) := by decide +kernel
theorem dX5_makes_17 : decode prog_7_method_2_code 17 = .ok (.iconst (-1), 1) := by decide +kernel
theorem dX5_makes_18 : decode prog_7_method_2_code 18 = .ok (.invokestatic 24, 3) := by decide +kernel
theorem dX5_makes_21 : decode prog_7_method_2_code 21 = .ok (.aload_n 0, 1) := by decide +kernel
theorem dX5_makes_22 : decode prog_7_method_2_code 22 = .ok (.getfield 15, 3) := by decide +kernel
theorem dX5_makes_25 : decode prog_7_method_2_code 25 = .ok (.iconst (-1), 1) := by decide +kernel
theorem dX5_makes_26 : decode prog_7_method_2_code 26 = .ok (.invokestatic 24, 3) := by decide +kernel
theorem dX5_makes_29 : decode prog_7_method_2_code 29 = .ok (.iconst 0, 1) := by decide +kernel
theorem dX5_makes_30 : decode prog_7_method_2_code 30 = .ok (.istore_n 3, 1) := by decide +kernel
theorem dX5_makes_31 : decode prog_7_method_2_code 31 = .ok (.iload_n 3, 1) := by decide +kernel
theorem dX5_makes_32 : decode prog_7_method_2_code 32 = .ok (.aload_n 1, 1) := by decide +kernel
theorem dX5_makes_33 : decode prog_7_method_2_code 33 = .ok (.getfield 18, 3) := by decide +kernel
theorem dX5_makes_36 : decode prog_7_method_2_code 36 = .ok (.if_icmp .ge 49, 3) := by decide +kernel
theorem dX5_makes_39 : decode prog_7_method_2_code 39 = .ok (.aload_n 0, 1) := by decide +kernel
theorem dX5_makes_40 : decode prog_7_method_2_code 40 = .ok (.aload_n 1, 1) := by decide +kernel
theorem dX5_makes_41 : decode prog_7_method_2_code 41 = .ok (.getfield 30, 3) := by decide +kernel
theorem dX5_makes_44 : decode prog_7_method_2_code 44 = .ok (.iload_n 3, 1) := by decide +kernel
theorem dX5_makes_45 : decode prog_7_method_2_code 45 = .ok (.iaload, 1) := by decide +kernel
theorem dX5_makes_46 : decode prog_7_method_2_code 46 = .ok (.aload_n 2, 1) := by decide +kernel
theorem dX5_makes_47 : decode prog_7_method_2_code 47 = .ok (.getfield 30, 3) := by decide +kernel
theorem dX5_makes_50 : decode prog_7_method_2_code 50 = .ok (.iload_n 3, 1) := by decide +kernel
theorem dX5_makes_51 : decode prog_7_method_2_code 51 = .ok (.iaload, 1) := by decide +kernel
theorem dX5_makes_52 : decode prog_7_method_2_code 52 = .ok (.invokevirtual 33, 3) := by decide +kernel
theorem dX5_makes_55 : decode prog_7_method_2_code 55 = .ok (.ifCond .eq 22, 3) := by decide +kernel
theorem dX5_makes_58 : decode prog_7_method_2_code 58 = .ok (.aload_n 0, 1) := by decide +kernel
theorem dX5_makes_59 : decode prog_7_method_2_code 59 = .ok (.aload_n 1, 1) := by decide +kernel
theorem dX5_makes_60 : decode prog_7_method_2_code 60 = .ok (.getfield 37, 3) := by decide +kernel
theorem dX5_makes_63 : decode prog_7_method_2_code 63 = .ok (.iload_n 3, 1) := by decide +kernel
theorem dX5_makes_64 : decode prog_7_method_2_code 64 = .ok (.iaload, 1) := by decide +kernel
theorem dX5_makes_65 : decode prog_7_method_2_code 65 = .ok (.aload_n 2, 1) := by decide +kernel
theorem dX5_makes_66 : decode prog_7_method_2_code 66 = .ok (.getfield 37, 3) := by decide +kernel
theorem dX5_makes_69 : decode prog_7_method_2_code 69 = .ok (.iload_n 3, 1) := by decide +kernel
theorem dX5_makes_70 : decode prog_7_method_2_code 70 = .ok (.iaload, 1) := by decide +kernel
theorem dX5_makes_71 : decode prog_7_method_2_code 71 = .ok (.invokevirtual 33, 3) := by decide +kernel
theorem dX5_makes_74 : decode prog_7_method_2_code 74 = .ok (.ifCond .ne 5, 3) := by decide +kernel
theorem dX5_makes_77 : decode prog_7_method_2_code 77 = .ok (.iconst 0, 1) := by decide +kernel
theorem dX5_makes_78 : decode prog_7_method_2_code 78 = .ok (.ireturn, 1) := by decide +kernel
theorem dX5_makes_79 : decode prog_7_method_2_code 79 = .ok (.iinc 3 1, 3) := by decide +kernel
theorem dX5_makes_82 : decode prog_7_method_2_code 82 = .ok (.goto (-51), 3) := by decide +kernel
theorem dX5_makes_85 : decode prog_7_method_2_code 85 = .ok (.iconst 1, 1) := by decide +kernel
theorem dX5_makes_86 : decode prog_7_method_2_code 86 = .ok (.ireturn, 1) := by decide +kernel
theorem sX5_makes_31 {Q : Int → Hp → Prop} {h : Hp} {a1 a2 l3 : Int}
    (hP : (nA a1) ∧
    ((l3 ≥ (h a1 1)) →
     Q 1 h) ∧
    ((l3 < (h a1 1)) →
     (nA a1 ∧ ix l3 40 ∧ nA a2) ∧
     CI 0 mX5_link [vr 100, vi (h (a1 + 1) l3), vi (h (a2 + 1) l3)] h (fun r5 h4 =>
      ((r5 = 0) →
       Q 0 h4) ∧
      ((r5 ≠ 0) →
       (nA a1 ∧ ix l3 40 ∧ nA a2) ∧
       CI 0 mX5_link [vr 100, vi (h4 (a1 + 2) l3), vi (h4 (a2 + 2) l3)] h4 (fun r10 h9 =>
        ((r10 ≠ 0) →
         (rj (l3 + 1)) ∧
         E 1 mX5_makes 31 [(0, vr 100), (1, vr a1), (2, vr a2), (3, vi (l3 + 1))] [] h9 (qi Q)) ∧
        ((r10 = 0) →
         Q 0 h9)))))) :
    E 1 mX5_makes 31 [(0, vr 100), (1, vr a1), (2, vr a2), (3, vi l3)] [] h (qi Q) := by
  obtain ⟨v1_0, hP⟩ := hP
  refine E_iload_n 3 3 dX5_makes_31 rfl rfl ?_
  refine E_aload_n 1 1 dX5_makes_32 rfl rfl ?_
  refine E_gI 1 1 dX5_makes_33 FX5_18 (icN0 v1_0) rfl ?_
  refine E_icmp_ge 85 dX5_makes_36 rfl (fun hc => ?_) (fun hc => ?_)
  · replace hP := hP.1 (hc)
    refine E_iconst dX5_makes_85 (rg_of rfl) ?_
    exact E_retZ dX5_makes_86 rfl (Or.inr rfl) hP
  · replace hP := hP.2 (by omega)
    obtain ⟨⟨v3_0, v3_1, v3_2⟩, hP⟩ := hP
    refine E_aload_n 0 0 dX5_makes_39 rfl rfl ?_
    refine E_aload_n 1 1 dX5_makes_40 rfl rfl ?_
    refine E_gR (a1 + 1) 2 dX5_makes_41 FX5_30 (icN0 v3_0) (rfN2 v3_0) ?_
    refine E_iload_n 3 3 dX5_makes_44 rfl rfl ?_
    refine E_iaload dX5_makes_45 (icN1 v3_0) v3_1.1 v3_1.2 ?_
    refine E_aload_n 2 2 dX5_makes_46 rfl rfl ?_
    refine E_gR (a2 + 1) 2 dX5_makes_47 FX5_30 (icN0 v3_2) (rfN2 v3_2) ?_
    refine E_iload_n 3 3 dX5_makes_50 rfl rfl ?_
    refine E_iaload dX5_makes_51 (icN1 v3_2) v3_1.1 v3_1.2 ?_
    refine E_invVI [vi (h (a1 + 1) l3), vi (h (a2 + 1) l3)] dX5_makes_52 fX5_link lX5_33 ic_100 rfl (by decide) rfl rfl (Nat.le_of_ble_eq_true rfl) (CI_mono hP (fun r5 h4 hP => ?_))
    refine E_if_eq 77 dX5_makes_55 rfl (fun hc => ?_) (fun hc => ?_)
    · replace hP := hP.1 (hc)
      refine E_iconst dX5_makes_77 (rg_of rfl) ?_
      exact E_retZ dX5_makes_78 rfl (Or.inl rfl) hP
    · replace hP := hP.2 (by omega)
      obtain ⟨⟨v8_0, v8_1, v8_2⟩, hP⟩ := hP
      refine E_aload_n 0 0 dX5_makes_58 rfl rfl ?_
      refine E_aload_n 1 1 dX5_makes_59 rfl rfl ?_
      refine E_gR (a1 + 2) 3 dX5_makes_60 FX5_37 (icN0 v8_0) (rfN3 v8_0) ?_
      refine E_iload_n 3 3 dX5_makes_63 rfl rfl ?_
      refine E_iaload dX5_makes_64 (icN2 v8_0) v8_1.1 v8_1.2 ?_
      refine E_aload_n 2 2 dX5_makes_65 rfl rfl ?_
      refine E_gR (a2 + 2) 3 dX5_makes_66 FX5_37 (icN0 v8_2) (rfN3 v8_2) ?_
      refine E_iload_n 3 3 dX5_makes_69 rfl rfl ?_
      refine E_iaload dX5_makes_70 (icN2 v8_2) v8_1.1 v8_1.2 ?_
      refine E_invVI [vi (h4 (a1 + 2) l3), vi (h4 (a2 + 2) l3)] dX5_makes_71 fX5_link lX5_33 ic_100 rfl (by decide) rfl rfl (Nat.le_of_ble_eq_true rfl) (CI_mono hP (fun r10 h9 hP => ?_))
      refine E_if_ne 79 dX5_makes_74 rfl (fun hc => ?_) (fun hc => ?_)
      · replace hP := hP.1 (hc)
        obtain ⟨v12_0, hP⟩ := hP
        refine E_iinc 3 dX5_makes_79 rfl (rgI v12_0) (by decide) rfl ?_
        refine E_goto 31 dX5_makes_82 rfl ?_
        exact E_sub [1, 2, 3, 0] rfl hP
      · replace hP := hP.2 (by omega)
        refine E_iconst dX5_makes_77 (rg_of rfl) ?_
        exact E_retZ dX5_makes_78 rfl (Or.inl rfl) hP
theorem sX5_makes {Q : Int → Hp → Prop} {h : Hp} {a1 a2 : Int}
    (hP : (nA a1 ∧ nA a2) ∧
    (((h a1 1) = (h a2 1)) →
     CV 0 mJ7_fill_53178 [vr 101, vi (-1)] h (fun h3 =>
      CV 0 mJ7_fill_53178 [vr 102, vi (-1)] h3 (fun h5 =>
       E 1 mX5_makes 31 [(0, vr 100), (1, vr a1), (2, vr a2), (3, vi 0)] [] h5 (qi Q)))) ∧
    (((h a1 1) ≠ (h a2 1)) →
     Q 0 h)) :
    CI 1 mX5_makes [vr 100, vr a1, vr a2] h Q := by
  refine CI_of_E fX5_makes.1 rfl (Nat.le_of_ble_eq_true rfl) ?_
  show E 1 mX5_makes 0 [(0, vr 100), (1, vr a1), (2, vr a2)] [] h (qi Q)
  obtain ⟨⟨v1_0, v1_1⟩, hP⟩ := hP
  refine E_aload_n 1 1 dX5_makes_0 rfl rfl ?_
  refine E_gI 1 1 dX5_makes_1 FX5_18 (icN0 v1_0) rfl ?_
  refine E_aload_n 2 2 dX5_makes_4 rfl rfl ?_
  refine E_gI 1 1 dX5_makes_5 FX5_18 (icN0 v1_1) rfl ?_
  refine E_icmp_eq 13 dX5_makes_8 rfl (fun hc => ?_) (fun hc => ?_)
  · replace hP := hP.1 (hc)
    refine E_aload_n 0 0 dX5_makes_13 rfl rfl ?_
    refine E_gR 101 0 dX5_makes_14 FX5_9 ic_100 (by decide) ?_
    refine E_iconst dX5_makes_17 (rg_of rfl) ?_
    refine E_invSV [vr 101, vi (-1)] dX5_makes_18 fJ7_fill_53178 lX5_24 (by decide) rfl rfl (Nat.le_of_ble_eq_true rfl) (CV_mono hP (fun h3 hP => ?_))
    refine E_aload_n 0 0 dX5_makes_21 rfl rfl ?_
    refine E_gR 102 1 dX5_makes_22 FX5_15 ic_100 (by decide) ?_
    refine E_iconst dX5_makes_25 (rg_of rfl) ?_
    refine E_invSV [vr 102, vi (-1)] dX5_makes_26 fJ7_fill_53178 lX5_24 (by decide) rfl rfl (Nat.le_of_ble_eq_true rfl) (CV_mono hP (fun h5 hP => ?_))
    refine E_iconst dX5_makes_29 (rg_of rfl) ?_
    refine E_istore_n dX5_makes_30 rfl (by decide) rfl ?_
    exact E_sub [1, 2, 3, 0] rfl hP
  · replace hP := hP.2 (by omega)
    refine E_iconst dX5_makes_11 (rg_of rfl) ?_
    exact E_retZ dX5_makes_12 rfl (Or.inl rfl) hP
theorem dX5_movesInto_0 : decode prog_7_method_6_code 0 = .ok (.iconst 0, 1) := by decide +kernel
theorem dX5_movesInto_1 : decode prog_7_method_6_code 1 = .ok (.istore_n 3, 1) := by decide +kernel
theorem dX5_movesInto_2 : decode prog_7_method_6_code 2 = .ok (.iload_n 3, 1) := by decide +kernel
theorem dX5_movesInto_3 : decode prog_7_method_6_code 3 = .ok (.aload_n 0, 1) := by decide +kernel
theorem dX5_movesInto_4 : decode prog_7_method_6_code 4 = .ok (.getfield 53, 3) := by decide +kernel
theorem dX5_movesInto_7 : decode prog_7_method_6_code 7 = .ok (.if_icmp .ge 63, 3) := by decide +kernel
theorem dX5_movesInto_10 : decode prog_7_method_6_code 10 = .ok (.iconst 0, 1) := by decide +kernel
theorem dX5_movesInto_11 : decode prog_7_method_6_code 11 = .ok (.istore 4, 2) := by decide +kernel
theorem dX5_movesInto_13 : decode prog_7_method_6_code 13 = .ok (.iconst 0, 1) := by decide +kernel
theorem dX5_movesInto_14 : decode prog_7_method_6_code 14 = .ok (.istore 5, 2) := by decide +kernel
theorem dX5_movesInto_16 : decode prog_7_method_6_code 16 = .ok (.iload 5, 2) := by decide +kernel
theorem dX5_movesInto_18 : decode prog_7_method_6_code 18 = .ok (.aload_n 0, 1) := by decide +kernel
theorem dX5_movesInto_19 : decode prog_7_method_6_code 19 = .ok (.getfield 44, 3) := by decide +kernel
theorem dX5_movesInto_22 : decode prog_7_method_6_code 22 = .ok (.if_icmp .ge 30, 3) := by decide +kernel
theorem dX5_movesInto_25 : decode prog_7_method_6_code 25 = .ok (.iload 4, 2) := by decide +kernel
theorem dX5_movesInto_27 : decode prog_7_method_6_code 27 = .ok (.aload_n 0, 1) := by decide +kernel
theorem dX5_movesInto_28 : decode prog_7_method_6_code 28 = .ok (.getfield 54, 3) := by decide +kernel
theorem dX5_movesInto_31 : decode prog_7_method_6_code 31 = .ok (.iload_n 3, 1) := by decide +kernel
theorem dX5_movesInto_32 : decode prog_7_method_6_code 32 = .ok (.iaload, 1) := by decide +kernel
theorem dX5_movesInto_33 : decode prog_7_method_6_code 33 = .ok (.iload 5, 2) := by decide +kernel
theorem dX5_movesInto_35 : decode prog_7_method_6_code 35 = .ok (.ishr, 1) := by decide +kernel
theorem dX5_movesInto_36 : decode prog_7_method_6_code 36 = .ok (.iconst 1, 1) := by decide +kernel
theorem dX5_movesInto_37 : decode prog_7_method_6_code 37 = .ok (.iand, 1) := by decide +kernel
theorem dX5_movesInto_38 : decode prog_7_method_6_code 38 = .ok (.aload_n 2, 1) := by decide +kernel
theorem dX5_movesInto_39 : decode prog_7_method_6_code 39 = .ok (.iload 5, 2) := by decide +kernel
theorem dX5_movesInto_41 : decode prog_7_method_6_code 41 = .ok (.iaload, 1) := by decide +kernel
theorem dX5_movesInto_42 : decode prog_7_method_6_code 42 = .ok (.ishl, 1) := by decide +kernel
theorem dX5_movesInto_43 : decode prog_7_method_6_code 43 = .ok (.ior, 1) := by decide +kernel
theorem dX5_movesInto_44 : decode prog_7_method_6_code 44 = .ok (.istore 4, 2) := by decide +kernel
theorem dX5_movesInto_46 : decode prog_7_method_6_code 46 = .ok (.iinc 5 1, 3) := by decide +kernel
theorem dX5_movesInto_49 : decode prog_7_method_6_code 49 = .ok (.goto (-33), 3) := by decide +kernel
theorem dX5_movesInto_52 : decode prog_7_method_6_code 52 = .ok (.aload_n 1, 1) := by decide +kernel
theorem dX5_movesInto_53 : decode prog_7_method_6_code 53 = .ok (.getfield 57, 3) := by decide +kernel
theorem dX5_movesInto_56 : decode prog_7_method_6_code 56 = .ok (.iload 4, 2) := by decide +kernel
theorem dX5_movesInto_58 : decode prog_7_method_6_code 58 = .ok (.baload, 1) := by decide +kernel
theorem dX5_movesInto_59 : decode prog_7_method_6_code 59 = .ok (.ifCond .ne 5, 3) := by decide +kernel
theorem dX5_movesInto_62 : decode prog_7_method_6_code 62 = .ok (.iconst 0, 1) := by decide +kernel
theorem dX5_movesInto_63 : decode prog_7_method_6_code 63 = .ok (.ireturn, 1) := by decide +kernel
theorem dX5_movesInto_64 : decode prog_7_method_6_code 64 = .ok (.iinc 3 1, 3) := by decide +kernel
theorem dX5_movesInto_67 : decode prog_7_method_6_code 67 = .ok (.goto (-65), 3) := by decide +kernel
theorem dX5_movesInto_70 : decode prog_7_method_6_code 70 = .ok (.iconst 1, 1) := by decide +kernel
theorem dX5_movesInto_71 : decode prog_7_method_6_code 71 = .ok (.ireturn, 1) := by decide +kernel
theorem sX5_movesInto_16 {Q : Int → Hp → Prop} {h : Hp} {o0 o1 l3 l4 l5 : Int}
    (hP : (oA o0) ∧
    ((l5 ≥ (h o0 2)) →
     (oA o1 ∧ ix l4 256) ∧
     (((h (o1 + 1) l4) ≠ 0) →
      (rj (l3 + 1)) ∧
      E 0 mX5_movesInto 2 [(0, vr o0), (1, vr o1), (2, vr 101), (3, vi (l3 + 1))] [] h (qi Q)) ∧
     (((h (o1 + 1) l4) = 0) →
      Q 0 h)) ∧
    ((l5 < (h o0 2)) →
     (oA o0 ∧ ix l3 256 ∧ ix l5 8) ∧
     (∀ x6 : Int, x6 = (j_ior l4 (j_ishl (j_iand (j_ishr (h (o0 + 2) l3) l5) 1) (h 101 l5))) →
     (rj (l5 + 1)) ∧
     E 0 mX5_movesInto 16 [(0, vr o0), (1, vr o1), (2, vr 101), (3, vi l3), (4, vi x6), (5, vi (l5 + 1))] [] h (qi Q)))) :
    E 0 mX5_movesInto 16 [(0, vr o0), (1, vr o1), (2, vr 101), (3, vi l3), (4, vi l4), (5, vi l5)] [] h (qi Q) := by
  obtain ⟨v1_0, hP⟩ := hP
  refine E_iload 5 dX5_movesInto_16 rfl ?_
  refine E_aload_n 0 0 dX5_movesInto_18 rfl rfl ?_
  refine E_gI 2 2 dX5_movesInto_19 FX5_44 (icO0 v1_0) rfl ?_
  refine E_icmp_ge 52 dX5_movesInto_22 rfl (fun hc => ?_) (fun hc => ?_)
  · replace hP := hP.1 (hc)
    obtain ⟨⟨v2_0, v2_1⟩, hP⟩ := hP
    refine E_aload_n 1 1 dX5_movesInto_52 rfl rfl ?_
    refine E_gR (o1 + 1) 0 dX5_movesInto_53 FX5_57 (icO0 v2_0) (rfO0 v2_0) ?_
    refine E_iload 4 dX5_movesInto_56 rfl ?_
    refine E_baload dX5_movesInto_58 (icO1 v2_0) v2_1.1 v2_1.2 ?_
    refine E_if_ne 64 dX5_movesInto_59 rfl (fun hc => ?_) (fun hc => ?_)
    · replace hP := hP.1 (hc)
      obtain ⟨v3_0, hP⟩ := hP
      refine E_iinc 3 dX5_movesInto_64 rfl (rgI v3_0) (by decide) rfl ?_
      refine E_goto 2 dX5_movesInto_67 rfl ?_
      exact E_sub [1, 2, 3, 0] rfl hP
    · replace hP := hP.2 (by omega)
      refine E_iconst dX5_movesInto_62 (rg_of rfl) ?_
      exact E_retZ dX5_movesInto_63 rfl (Or.inl rfl) hP
  · replace hP := hP.2 (by omega)
    obtain ⟨⟨v5_0, v5_1, v5_2⟩, hP⟩ := hP
    refine E_iload 4 dX5_movesInto_25 rfl ?_
    refine E_aload_n 0 0 dX5_movesInto_27 rfl rfl ?_
    refine E_gR (o0 + 2) 1 dX5_movesInto_28 FX5_54 (icO0 v5_0) (rfO1 v5_0) ?_
    refine E_iload_n 3 3 dX5_movesInto_31 rfl rfl ?_
    refine E_iaload dX5_movesInto_32 (icO2 v5_0) v5_1.1 v5_1.2 ?_
    refine E_iload 5 dX5_movesInto_33 rfl ?_
    refine E_ishr dX5_movesInto_35 ?_
    refine E_iconst dX5_movesInto_36 (rg_of rfl) ?_
    refine E_iand dX5_movesInto_37 ?_
    refine E_aload_n 2 2 dX5_movesInto_38 rfl rfl ?_
    refine E_iload 5 dX5_movesInto_39 rfl ?_
    refine E_iaload dX5_movesInto_41 ic_101 v5_2.1 v5_2.2 ?_
    refine E_ishl dX5_movesInto_42 ?_
    refine E_ior dX5_movesInto_43 ?_
    obtain ⟨x6, hx6⟩ : ∃ x : Int, x = (j_ior l4 (j_ishl (j_iand (j_ishr (h (o0 + 2) l3) l5) 1) (h 101 l5))) := ⟨_, rfl⟩
    refine E_top hx6.symm ?_
    replace hP := hP x6 hx6
    refine E_istore dX5_movesInto_44 (by decide) rfl ?_
    obtain ⟨v7_0, hP⟩ := hP
    refine E_iinc 5 dX5_movesInto_46 rfl (rgI v7_0) (by decide) rfl ?_
    refine E_goto 16 dX5_movesInto_49 rfl ?_
    exact E_sub [2, 3, 4, 5, 1, 0] rfl hP
theorem sX5_movesInto_2 {Q : Int → Hp → Prop} {h : Hp} {o0 o1 l3 : Int}
    (hP : (oA o0) ∧
    ((l3 ≥ (h o0 3)) →
     Q 1 h) ∧
    ((l3 < (h o0 3)) →
     E 0 mX5_movesInto 16 [(0, vr o0), (1, vr o1), (2, vr 101), (3, vi l3), (4, vi 0), (5, vi 0)] [] h (qi Q))) :
    E 0 mX5_movesInto 2 [(0, vr o0), (1, vr o1), (2, vr 101), (3, vi l3)] [] h (qi Q) := by
  obtain ⟨v1_0, hP⟩ := hP
  refine E_iload_n 3 3 dX5_movesInto_2 rfl rfl ?_
  refine E_aload_n 0 0 dX5_movesInto_3 rfl rfl ?_
  refine E_gI 3 3 dX5_movesInto_4 FX5_53 (icO0 v1_0) rfl ?_
  refine E_icmp_ge 70 dX5_movesInto_7 rfl (fun hc => ?_) (fun hc => ?_)
  · replace hP := hP.1 (hc)
    refine E_iconst dX5_movesInto_70 (rg_of rfl) ?_
    exact E_retZ dX5_movesInto_71 rfl (Or.inr rfl) hP
  · replace hP := hP.2 (by omega)
    refine E_iconst dX5_movesInto_10 (rg_of rfl) ?_
    refine E_istore dX5_movesInto_11 (by decide) rfl ?_
    refine E_iconst dX5_movesInto_13 (rg_of rfl) ?_
    refine E_istore dX5_movesInto_14 (by decide) rfl ?_
    exact E_sub [2, 3, 4, 5, 1, 0] rfl hP
theorem sX5_movesInto {Q : Int → Hp → Prop} {h : Hp} {o0 o1 : Int}
    (hP : E 0 mX5_movesInto 2 [(0, vr o0), (1, vr o1), (2, vr 101), (3, vi 0)] [] h (qi Q)) :
    CI 0 mX5_movesInto [vr o0, vr o1, vr 101] h Q := by
  refine CI_of_E fX5_movesInto.1 rfl (Nat.le_of_ble_eq_true rfl) ?_
  show E 0 mX5_movesInto 0 [(0, vr o0), (1, vr o1), (2, vr 101)] [] h (qi Q)
  refine E_iconst dX5_movesInto_0 (rg_of rfl) ?_
  refine E_istore_n dX5_movesInto_1 rfl (by decide) rfl ?_
  exact E_sub [1, 2, 3, 0] rfl hP
theorem dX5_search_0 : decode prog_7_method_5_code 0 = .ok (.iload_n 3, 1) := by decide +kernel
theorem dX5_search_1 : decode prog_7_method_5_code 1 = .ok (.aload_n 0, 1) := by decide +kernel
theorem dX5_search_2 : decode prog_7_method_5_code 2 = .ok (.getfield 44, 3) := by decide +kernel
theorem dX5_search_5 : decode prog_7_method_5_code 5 = .ok (.if_icmp .ge 9, 3) := by decide +kernel
theorem dX5_search_8 : decode prog_7_method_5_code 8 = .ok (.iload_n 3, 1) := by decide +kernel
theorem dX5_search_9 : decode prog_7_method_5_code 9 = .ok (.aload_n 2, 1) := by decide +kernel
theorem dX5_search_10 : decode prog_7_method_5_code 10 = .ok (.arraylength, 1) := by decide +kernel
theorem dX5_search_11 : decode prog_7_method_5_code 11 = .ok (.if_icmp .lt 10, 3) := by decide +kernel
theorem dX5_search_14 : decode prog_7_method_5_code 14 = .ok (.aload_n 0, 1) := by decide +kernel
theorem dX5_search_15 : decode prog_7_method_5_code 15 = .ok (.aload_n 1, 1) := by decide +kernel
theorem dX5_search_16 : decode prog_7_method_5_code 16 = .ok (.aload_n 2, 1) := by decide +kernel
theorem dX5_search_17 : decode prog_7_method_5_code 17 = .ok (.invokestatic 49, 3) := by decide +kernel
theorem dX5_search_20 : decode prog_7_method_5_code 20 = .ok (.ireturn, 1) := by decide +kernel
theorem dX5_search_21 : decode prog_7_method_5_code 21 = .ok (.iconst 0, 1) := by decide +kernel
theorem dX5_search_22 : decode prog_7_method_5_code 22 = .ok (.istore 5, 2) := by decide +kernel
theorem dX5_search_24 : decode prog_7_method_5_code 24 = .ok (.iload 5, 2) := by decide +kernel
theorem dX5_search_26 : decode prog_7_method_5_code 26 = .ok (.aload_n 0, 1) := by decide +kernel
theorem dX5_search_27 : decode prog_7_method_5_code 27 = .ok (.getfield 44, 3) := by decide +kernel
theorem dX5_search_30 : decode prog_7_method_5_code 30 = .ok (.if_icmp .ge 45, 3) := by decide +kernel
theorem dX5_search_33 : decode prog_7_method_5_code 33 = .ok (.iload 4, 2) := by decide +kernel
theorem dX5_search_35 : decode prog_7_method_5_code 35 = .ok (.iload 5, 2) := by decide +kernel
theorem dX5_search_37 : decode prog_7_method_5_code 37 = .ok (.ishr, 1) := by decide +kernel
theorem dX5_search_38 : decode prog_7_method_5_code 38 = .ok (.iconst 1, 1) := by decide +kernel
theorem dX5_search_39 : decode prog_7_method_5_code 39 = .ok (.iand, 1) := by decide +kernel
theorem dX5_search_40 : decode prog_7_method_5_code 40 = .ok (.ifCond .ne 29, 3) := by decide +kernel
theorem dX5_search_43 : decode prog_7_method_5_code 43 = .ok (.aload_n 2, 1) := by decide +kernel
theorem dX5_search_44 : decode prog_7_method_5_code 44 = .ok (.iload_n 3, 1) := by decide +kernel
theorem dX5_search_45 : decode prog_7_method_5_code 45 = .ok (.iload 5, 2) := by decide +kernel
theorem dX5_search_47 : decode prog_7_method_5_code 47 = .ok (.iastore, 1) := by decide +kernel
theorem dX5_search_48 : decode prog_7_method_5_code 48 = .ok (.aload_n 0, 1) := by decide +kernel
theorem dX5_search_49 : decode prog_7_method_5_code 49 = .ok (.aload_n 1, 1) := by decide +kernel
theorem dX5_search_50 : decode prog_7_method_5_code 50 = .ok (.aload_n 2, 1) := by decide +kernel
theorem dX5_search_51 : decode prog_7_method_5_code 51 = .ok (.iload_n 3, 1) := by decide +kernel
theorem dX5_search_52 : decode prog_7_method_5_code 52 = .ok (.iconst 1, 1) := by decide +kernel
theorem dX5_search_53 : decode prog_7_method_5_code 53 = .ok (.iadd, 1) := by decide +kernel
theorem dX5_search_54 : decode prog_7_method_5_code 54 = .ok (.iload 4, 2) := by decide +kernel
theorem dX5_search_56 : decode prog_7_method_5_code 56 = .ok (.iconst 1, 1) := by decide +kernel
theorem dX5_search_57 : decode prog_7_method_5_code 57 = .ok (.iload 5, 2) := by decide +kernel
theorem dX5_search_59 : decode prog_7_method_5_code 59 = .ok (.ishl, 1) := by decide +kernel
theorem dX5_search_60 : decode prog_7_method_5_code 60 = .ok (.ior, 1) := by decide +kernel
theorem dX5_search_61 : decode prog_7_method_5_code 61 = .ok (.invokestatic 40, 3) := by decide +kernel
theorem dX5_search_64 : decode prog_7_method_5_code 64 = .ok (.ifCond .eq 5, 3) := by decide +kernel
theorem dX5_search_67 : decode prog_7_method_5_code 67 = .ok (.iconst 1, 1) := by decide +kernel
theorem dX5_search_68 : decode prog_7_method_5_code 68 = .ok (.ireturn, 1) := by decide +kernel
theorem dX5_search_69 : decode prog_7_method_5_code 69 = .ok (.iinc 5 1, 3) := by decide +kernel
theorem dX5_search_72 : decode prog_7_method_5_code 72 = .ok (.goto (-48), 3) := by decide +kernel
theorem dX5_search_75 : decode prog_7_method_5_code 75 = .ok (.iconst 0, 1) := by decide +kernel
theorem dX5_search_76 : decode prog_7_method_5_code 76 = .ok (.ireturn, 1) := by decide +kernel
theorem sX5_search_24 {d dd : Nat} (hd0 : 0 < d) (hdd : dd < d) {Q : Int → Hp → Prop} {h : Hp} {o0 o1 l3 l4 l5 : Int}
    (hP : (oA o0) ∧
    ((l5 ≥ (h o0 2)) →
     Q 0 h) ∧
    ((l5 < (h o0 2)) →
     (((j_iand (j_ishr l4 l5) 1) ≠ 0) →
      (rj (l5 + 1)) ∧
      E d mX5_search 24 [(0, vr o0), (1, vr o1), (2, vr 101), (3, vi l3), (4, vi l4), (5, vi (l5 + 1))] [] h (qi Q)) ∧
     (((j_iand (j_ishr l4 l5) 1) = 0) →
      (ix l3 8 ∧ rj (l3 + 1)) ∧
      CI dd mX5_search [vr o0, vr o1, vr 101, vi (l3 + 1), vi (j_ior l4 (j_ishl 1 l5))] (up h 101 l3 l5) (fun r7 h6 =>
       ((r7 = 0) →
        (rj (l5 + 1)) ∧
        E d mX5_search 24 [(0, vr o0), (1, vr o1), (2, vr 101), (3, vi l3), (4, vi l4), (5, vi (l5 + 1))] [] h6 (qi Q)) ∧
       ((r7 ≠ 0) →
        Q 1 h6))))) :
    E d mX5_search 24 [(0, vr o0), (1, vr o1), (2, vr 101), (3, vi l3), (4, vi l4), (5, vi l5)] [] h (qi Q) := by
  obtain ⟨v1_0, hP⟩ := hP
  refine E_iload 5 dX5_search_24 rfl ?_
  refine E_aload_n 0 0 dX5_search_26 rfl rfl ?_
  refine E_gI 2 2 dX5_search_27 FX5_44 (icO0 v1_0) rfl ?_
  refine E_icmp_ge 75 dX5_search_30 rfl (fun hc => ?_) (fun hc => ?_)
  · replace hP := hP.1 (hc)
    refine E_iconst dX5_search_75 (rg_of rfl) ?_
    exact E_retZ dX5_search_76 rfl (Or.inl rfl) hP
  · replace hP := hP.2 (by omega)
    refine E_iload 4 dX5_search_33 rfl ?_
    refine E_iload 5 dX5_search_35 rfl ?_
    refine E_ishr dX5_search_37 ?_
    refine E_iconst dX5_search_38 (rg_of rfl) ?_
    refine E_iand dX5_search_39 ?_
    refine E_if_ne 69 dX5_search_40 rfl (fun hc => ?_) (fun hc => ?_)
    · replace hP := hP.1 (hc)
      obtain ⟨v4_0, hP⟩ := hP
      refine E_iinc 5 dX5_search_69 rfl (rgI v4_0) (by decide) rfl ?_
      refine E_goto 24 dX5_search_72 rfl ?_
      exact E_sub [1, 2, 3, 4, 5, 0] rfl hP
    · replace hP := hP.2 (by omega)
      obtain ⟨⟨v5_0, v5_1⟩, hP⟩ := hP
      refine E_aload_n 2 2 dX5_search_43 rfl rfl ?_
      refine E_iload_n 3 3 dX5_search_44 rfl rfl ?_
      refine E_iload 5 dX5_search_45 rfl ?_
      refine E_iastore dX5_search_47 ic_101 v5_0.1 v5_0.2 ?_
      refine E_aload_n 0 0 dX5_search_48 rfl rfl ?_
      refine E_aload_n 1 1 dX5_search_49 rfl rfl ?_
      refine E_aload_n 2 2 dX5_search_50 rfl rfl ?_
      refine E_iload_n 3 3 dX5_search_51 rfl rfl ?_
      refine E_iconst dX5_search_52 (rg_of rfl) ?_
      refine E_iadd dX5_search_53 (rgI v5_1) ?_
      refine E_iload 4 dX5_search_54 rfl ?_
      refine E_iconst dX5_search_56 (rg_of rfl) ?_
      refine E_iload 5 dX5_search_57 rfl ?_
      refine E_ishl dX5_search_59 ?_
      refine E_ior dX5_search_60 ?_
      refine E_invSI [vr o0, vr o1, vr 101, vi (l3 + 1), vi (j_ior l4 (j_ishl 1 l5))] dX5_search_61 fX5_search lX5_40 hdd rfl rfl (Nat.le_of_ble_eq_true rfl) (CI_mono hP (fun r7 h6 hP => ?_))
      refine E_if_eq 69 dX5_search_64 rfl (fun hc => ?_) (fun hc => ?_)
      · replace hP := hP.1 (hc)
        obtain ⟨v9_0, hP⟩ := hP
        refine E_iinc 5 dX5_search_69 rfl (rgI v9_0) (by decide) rfl ?_
        refine E_goto 24 dX5_search_72 rfl ?_
        exact E_sub [1, 2, 3, 4, 5, 0] rfl hP
      · replace hP := hP.2 (by omega)
        refine E_iconst dX5_search_67 (rg_of rfl) ?_
        exact E_retZ dX5_search_68 rfl (Or.inr rfl) hP
theorem sX5_search {d dd : Nat} (hd0 : 0 < d) (hdd : dd < d) {Q : Int → Hp → Prop} {h : Hp} {o0 o1 l3 l4 : Int}
    (hP : (oA o0) ∧
    ((l3 ≥ (h o0 2)) →
     CI 0 mX5_movesInto [vr o0, vr o1, vr 101] h (fun r4 h3 =>
      ((r4 = 0 ∨ r4 = 1)) ∧
      Q r4 h3)) ∧
    ((l3 < (h o0 2)) →
     ((l3 < 8) →
      E d mX5_search 24 [(0, vr o0), (1, vr o1), (2, vr 101), (3, vi l3), (4, vi l4), (5, vi 0)] [] h (qi Q)) ∧
     ((l3 ≥ 8) →
      CI 0 mX5_movesInto [vr o0, vr o1, vr 101] h (fun r10 h9 =>
       ((r10 = 0 ∨ r10 = 1)) ∧
       Q r10 h9)))) :
    CI d mX5_search [vr o0, vr o1, vr 101, vi l3, vi l4] h Q := by
  refine CI_of_E fX5_search.1 rfl (Nat.le_of_ble_eq_true rfl) ?_
  show E d mX5_search 0 [(0, vr o0), (1, vr o1), (2, vr 101), (3, vi l3), (4, vi l4)] [] h (qi Q)
  obtain ⟨v1_0, hP⟩ := hP
  refine E_iload_n 3 3 dX5_search_0 rfl rfl ?_
  refine E_aload_n 0 0 dX5_search_1 rfl rfl ?_
  refine E_gI 2 2 dX5_search_2 FX5_44 (icO0 v1_0) rfl ?_
  refine E_icmp_ge 14 dX5_search_5 rfl (fun hc => ?_) (fun hc => ?_)
  · replace hP := hP.1 (hc)
    refine E_aload_n 0 0 dX5_search_14 rfl rfl ?_
    refine E_aload_n 1 1 dX5_search_15 rfl rfl ?_
    refine E_aload_n 2 2 dX5_search_16 rfl rfl ?_
    refine E_invSI [vr o0, vr o1, vr 101] dX5_search_17 fX5_movesInto lX5_49 hd0 rfl rfl (Nat.le_of_ble_eq_true rfl) (CI_mono hP (fun r4 h3 hP => ?_))
    obtain ⟨v5_0, hP⟩ := hP
    exact E_retZ dX5_search_20 rfl v5_0 hP
  · replace hP := hP.2 (by omega)
    refine E_iload_n 3 3 dX5_search_8 rfl rfl ?_
    refine E_aload_n 2 2 dX5_search_9 rfl rfl ?_
    refine E_len 8 dX5_search_10 ic_101 (by decide) rfl ?_
    refine E_icmp_lt 21 dX5_search_11 rfl (fun hc => ?_) (fun hc => ?_)
    · replace hP := hP.1 (hc)
      refine E_iconst dX5_search_21 (rg_of rfl) ?_
      refine E_istore dX5_search_22 (by decide) rfl ?_
      exact E_sub [1, 2, 3, 4, 5, 0] rfl hP
    · replace hP := hP.2 (by omega)
      refine E_aload_n 0 0 dX5_search_14 rfl rfl ?_
      refine E_aload_n 1 1 dX5_search_15 rfl rfl ?_
      refine E_aload_n 2 2 dX5_search_16 rfl rfl ?_
      refine E_invSI [vr o0, vr o1, vr 101] dX5_search_17 fX5_movesInto lX5_49 hd0 rfl rfl (Nat.le_of_ble_eq_true rfl) (CI_mono hP (fun r10 h9 hP => ?_))
      obtain ⟨v11_0, hP⟩ := hP
      exact E_retZ dX5_search_20 rfl v11_0 hP
theorem dX5_putsInto_0 : decode prog_7_method_4_code 0 = .ok (.aload_n 1, 1) := by decide +kernel
theorem dX5_putsInto_1 : decode prog_7_method_4_code 1 = .ok (.aload_n 2, 1) := by decide +kernel
theorem dX5_putsInto_2 : decode prog_7_method_4_code 2 = .ok (.aload_n 0, 1) := by decide +kernel
theorem dX5_putsInto_3 : decode prog_7_method_4_code 3 = .ok (.getfield 9, 3) := by decide +kernel
theorem dX5_putsInto_6 : decode prog_7_method_4_code 6 = .ok (.iconst 0, 1) := by decide +kernel
theorem dX5_putsInto_7 : decode prog_7_method_4_code 7 = .ok (.iconst 0, 1) := by decide +kernel
theorem dX5_putsInto_8 : decode prog_7_method_4_code 8 = .ok (.invokestatic 40, 3) := by decide +kernel
theorem dX5_putsInto_11 : decode prog_7_method_4_code 11 = .ok (.ireturn, 1) := by decide +kernel
theorem sX5_putsInto {Q : Int → Hp → Prop} {h : Hp} {o1 o2 : Int}
    (hP : CI 12 mX5_search [vr o1, vr o2, vr 101, vi 0, vi 0] h (fun r3 h2 =>
     ((r3 = 0 ∨ r3 = 1)) ∧
     Q r3 h2)) :
    CI 13 mX5_putsInto [vr 100, vr o1, vr o2] h Q := by
  refine CI_of_E fX5_putsInto.1 rfl (Nat.le_of_ble_eq_true rfl) ?_
  show E 13 mX5_putsInto 0 [(0, vr 100), (1, vr o1), (2, vr o2)] [] h (qi Q)
  refine E_aload_n 1 1 dX5_putsInto_0 rfl rfl ?_
  refine E_aload_n 2 2 dX5_putsInto_1 rfl rfl ?_
  refine E_aload_n 0 0 dX5_putsInto_2 rfl rfl ?_
  refine E_gR 101 0 dX5_putsInto_3 FX5_9 ic_100 (by decide) ?_
  refine E_iconst dX5_putsInto_6 (rg_of rfl) ?_
  refine E_iconst dX5_putsInto_7 (rg_of rfl) ?_
  refine E_invSI [vr o1, vr o2, vr 101, vi 0, vi 0] dX5_putsInto_8 fX5_search lX5_40 (by decide) rfl rfl (Nat.le_of_ble_eq_true rfl) (CI_mono hP (fun r3 h2 hP => ?_))
  obtain ⟨v4_0, hP⟩ := hP
  exact E_retZ dX5_putsInto_11 rfl v4_0 hP
theorem dX6_allows_0 : decode prog_8_method_2_code 0 = .ok (.iload_n 0, 1) := by decide +kernel
theorem dX6_allows_1 : decode prog_8_method_2_code 1 = .ok (.tableswitch 112 0 5 #[39, 41, 41, 72, 87, 87], 39) := by decide +kernel
theorem dX6_allows_40 : decode prog_8_method_2_code 40 = .ok (.iconst 1, 1) := by decide +kernel
theorem dX6_allows_41 : decode prog_8_method_2_code 41 = .ok (.ireturn, 1) := by decide +kernel
theorem dX6_allows_42 : decode prog_8_method_2_code 42 = .ok (.iload_n 1, 1) := by decide +kernel
theorem dX6_allows_43 : decode prog_8_method_2_code 43 = .ok (.ifCond .lt 28, 3) := by decide +kernel
theorem dX6_allows_46 : decode prog_8_method_2_code 46 = .ok (.iload_n 1, 1) := by decide +kernel
theorem dX6_allows_47 : decode prog_8_method_2_code 47 = .ok (.bipush 8, 2) := by decide +kernel
theorem dX6_allows_49 : decode prog_8_method_2_code 49 = .ok (.if_icmp .ge 22, 3) := by decide +kernel
theorem dX6_allows_52 : decode prog_8_method_2_code 52 = .ok (.iload_n 2, 1) := by decide +kernel
theorem dX6_allows_53 : decode prog_8_method_2_code 53 = .ok (.ifCond .lt 18, 3) := by decide +kernel
theorem dX6_allows_56 : decode prog_8_method_2_code 56 = .ok (.iload_n 2, 1) := by decide +kernel
theorem dX6_allows_57 : decode prog_8_method_2_code 57 = .ok (.bipush 8, 2) := by decide +kernel
theorem dX6_allows_59 : decode prog_8_method_2_code 59 = .ok (.if_icmp .ge 12, 3) := by decide +kernel
theorem dX6_allows_62 : decode prog_8_method_2_code 62 = .ok (.iload_n 1, 1) := by decide +kernel
theorem dX6_allows_63 : decode prog_8_method_2_code 63 = .ok (.iload_n 2, 1) := by decide +kernel
theorem dX6_allows_64 : decode prog_8_method_2_code 64 = .ok (.if_icmp .eq 7, 3) := by decide +kernel
theorem dX6_allows_67 : decode prog_8_method_2_code 67 = .ok (.iconst 1, 1) := by decide +kernel
theorem dX6_allows_68 : decode prog_8_method_2_code 68 = .ok (.goto 4, 3) := by decide +kernel
theorem dX6_allows_71 : decode prog_8_method_2_code 71 = .ok (.iconst 0, 1) := by decide +kernel
theorem dX6_allows_72 : decode prog_8_method_2_code 72 = .ok (.ireturn, 1) := by decide +kernel
theorem dX6_allows_73 : decode prog_8_method_2_code 73 = .ok (.iload_n 1, 1) := by decide +kernel
theorem dX6_allows_74 : decode prog_8_method_2_code 74 = .ok (.ifCond .eq 8, 3) := by decide +kernel
theorem dX6_allows_77 : decode prog_8_method_2_code 77 = .ok (.iload_n 1, 1) := by decide +kernel
theorem dX6_allows_78 : decode prog_8_method_2_code 78 = .ok (.iconst 1, 1) := by decide +kernel
theorem dX6_allows_79 : decode prog_8_method_2_code 79 = .ok (.if_icmp .ne 7, 3) := by decide +kernel
theorem dX6_allows_82 : decode prog_8_method_2_code 82 = .ok (.iconst 1, 1) := by decide +kernel
theorem dX6_allows_83 : decode prog_8_method_2_code 83 = .ok (.goto 4, 3) := by decide +kernel
theorem dX6_allows_86 : decode prog_8_method_2_code 86 = .ok (.iconst 0, 1) := by decide +kernel
theorem dX6_allows_87 : decode prog_8_method_2_code 87 = .ok (.ireturn, 1) := by decide +kernel
theorem dX6_allows_88 : decode prog_8_method_2_code 88 = .ok (.iload_n 1, 1) := by decide +kernel
theorem dX6_allows_89 : decode prog_8_method_2_code 89 = .ok (.ifCond .eq 8, 3) := by decide +kernel
theorem dX6_allows_92 : decode prog_8_method_2_code 92 = .ok (.iload_n 1, 1) := by decide +kernel
theorem dX6_allows_93 : decode prog_8_method_2_code 93 = .ok (.iconst 1, 1) := by decide +kernel
theorem dX6_allows_94 : decode prog_8_method_2_code 94 = .ok (.if_icmp .ne 17, 3) := by decide +kernel
theorem dX6_allows_97 : decode prog_8_method_2_code 97 = .ok (.iload_n 2, 1) := by decide +kernel
theorem dX6_allows_98 : decode prog_8_method_2_code 98 = .ok (.ifCond .lt 13, 3) := by decide +kernel
theorem dX6_allows_101 : decode prog_8_method_2_code 101 = .ok (.iload_n 2, 1) := by decide +kernel
theorem dX6_allows_102 : decode prog_8_method_2_code 102 = .ok (.bipush 9, 2) := by decide +kernel
theorem dX6_allows_104 : decode prog_8_method_2_code 104 = .ok (.if_icmp .gt 7, 3) := by decide +kernel
theorem dX6_allows_107 : decode prog_8_method_2_code 107 = .ok (.iconst 1, 1) := by decide +kernel
theorem dX6_allows_108 : decode prog_8_method_2_code 108 = .ok (.goto 4, 3) := by decide +kernel
theorem dX6_allows_111 : decode prog_8_method_2_code 111 = .ok (.iconst 0, 1) := by decide +kernel
theorem dX6_allows_112 : decode prog_8_method_2_code 112 = .ok (.ireturn, 1) := by decide +kernel
theorem dX6_allows_113 : decode prog_8_method_2_code 113 = .ok (.iconst 0, 1) := by decide +kernel
theorem dX6_allows_114 : decode prog_8_method_2_code 114 = .ok (.ireturn, 1) := by decide +kernel
theorem sX6_allows {Q : Int → Hp → Prop} {h : Hp} {l0 l1 l2 : Int}
    (hP : (l0 = 0 →
     Q 1 h) ∧
    (l0 = 1 →
     Q (if l1 ≥ 0 ∧ l1 < 8 ∧ l2 ≥ 0 ∧ l2 < 8 ∧ l1 ≠ l2 then (1 : Int) else 0) h) ∧
    (l0 = 2 →
     Q (if l1 ≥ 0 ∧ l1 < 8 ∧ l2 ≥ 0 ∧ l2 < 8 ∧ l1 ≠ l2 then (1 : Int) else 0) h) ∧
    (l0 = 3 →
     Q (if l1 = 0 ∨ l1 = 1 then (1 : Int) else 0) h) ∧
    (l0 = 4 →
     Q (if (l1 = 0 ∧ l2 ≥ 0 ∧ l2 ≤ 9) ∨ (l1 ≠ 0 ∧ l1 = 1 ∧ l2 ≥ 0 ∧ l2 ≤ 9) then (1 : Int) else 0) h) ∧
    (l0 = 5 →
     Q (if (l1 = 0 ∧ l2 ≥ 0 ∧ l2 ≤ 9) ∨ (l1 ≠ 0 ∧ l1 = 1 ∧ l2 ≥ 0 ∧ l2 ≤ 9) then (1 : Int) else 0) h) ∧
    (l0 < 0 ∨ 5 < l0 →
     Q 0 h)) :
    CI 0 mX6_allows [vi l0, vi l1, vi l2] h Q := by
  refine CI_of_E fX6_allows.1 rfl (Nat.le_of_ble_eq_true rfl) ?_
  show E 0 mX6_allows 0 [(0, vi l0), (1, vi l1), (2, vi l2)] [] h (qi Q)
  refine E_iload_n 0 0 dX6_allows_0 rfl rfl ?_
  rcases (by omega : l0 = 0 ∨ l0 = 1 ∨ l0 = 2 ∨ l0 = 3 ∨ l0 = 4 ∨ l0 = 5 ∨ (l0 < 0 ∨ 5 < l0)) with hx | hx | hx | hx | hx | hx | hx
  · replace hP := hP.1 hx
    refine E_tableIn 40 dX6_allows_1 (by omega) (by omega) (by rw [hx]; rfl) rfl ?_
    refine E_iconst dX6_allows_40 (rg_of rfl) ?_
    exact E_retZ dX6_allows_41 rfl (Or.inr rfl) hP
  · replace hP := hP.2.1 hx
    refine E_tableIn 42 dX6_allows_1 (by omega) (by omega) (by rw [hx]; rfl) rfl ?_
    refine E_iload_n 1 1 dX6_allows_42 rfl rfl ?_
    have hJ : E 0 mX6_allows 72 [(0, vi l0), (1, vi l1), (2, vi l2)] [vi (if l1 ≥ 0 ∧ l1 < 8 ∧ l2 ≥ 0 ∧ l2 < 8 ∧ l1 ≠ l2 then (1 : Int) else 0)] h (qi Q) := by
      exact E_retZ dX6_allows_72 rfl (b01 _) hP
    refine E_if_lt 71 dX6_allows_43 rfl (fun hc => ?_) (fun hc => ?_)
    · have hp43 := (hc : l1 < 0)
      refine E_iconst dX6_allows_71 (rg_of rfl) ?_
      exact E_top (if_neg (by omega)).symm hJ
    · have hp43 := (by omega : l1 ≥ 0)
      refine E_iload_n 1 1 dX6_allows_46 rfl rfl ?_
      refine E_bipush dX6_allows_47 (by decide) ?_
      refine E_icmp_ge 71 dX6_allows_49 rfl (fun hc => ?_) (fun hc => ?_)
      · have hp49 := (hc : l1 ≥ 8)
        refine E_iconst dX6_allows_71 (rg_of rfl) ?_
        exact E_top (if_neg (by omega)).symm hJ
      · have hp49 := (by omega : l1 < 8)
        refine E_iload_n 2 2 dX6_allows_52 rfl rfl ?_
        refine E_if_lt 71 dX6_allows_53 rfl (fun hc => ?_) (fun hc => ?_)
        · have hp53 := (hc : l2 < 0)
          refine E_iconst dX6_allows_71 (rg_of rfl) ?_
          exact E_top (if_neg (by omega)).symm hJ
        · have hp53 := (by omega : l2 ≥ 0)
          refine E_iload_n 2 2 dX6_allows_56 rfl rfl ?_
          refine E_bipush dX6_allows_57 (by decide) ?_
          refine E_icmp_ge 71 dX6_allows_59 rfl (fun hc => ?_) (fun hc => ?_)
          · have hp59 := (hc : l2 ≥ 8)
            refine E_iconst dX6_allows_71 (rg_of rfl) ?_
            exact E_top (if_neg (by omega)).symm hJ
          · have hp59 := (by omega : l2 < 8)
            refine E_iload_n 1 1 dX6_allows_62 rfl rfl ?_
            refine E_iload_n 2 2 dX6_allows_63 rfl rfl ?_
            refine E_icmp_eq 71 dX6_allows_64 rfl (fun hc => ?_) (fun hc => ?_)
            · have hp64 := (hc : l1 = l2)
              refine E_iconst dX6_allows_71 (rg_of rfl) ?_
              exact E_top (if_neg (by omega)).symm hJ
            · have hp64 := (by omega : l1 ≠ l2)
              refine E_iconst dX6_allows_67 (rg_of rfl) ?_
              refine E_goto 72 dX6_allows_68 rfl ?_
              exact E_top (if_pos (by omega)).symm hJ
  · replace hP := hP.2.2.1 hx
    refine E_tableIn 42 dX6_allows_1 (by omega) (by omega) (by rw [hx]; rfl) rfl ?_
    refine E_iload_n 1 1 dX6_allows_42 rfl rfl ?_
    have hJ : E 0 mX6_allows 72 [(0, vi l0), (1, vi l1), (2, vi l2)] [vi (if l1 ≥ 0 ∧ l1 < 8 ∧ l2 ≥ 0 ∧ l2 < 8 ∧ l1 ≠ l2 then (1 : Int) else 0)] h (qi Q) := by
      exact E_retZ dX6_allows_72 rfl (b01 _) hP
    refine E_if_lt 71 dX6_allows_43 rfl (fun hc => ?_) (fun hc => ?_)
    · have hp43 := (hc : l1 < 0)
      refine E_iconst dX6_allows_71 (rg_of rfl) ?_
      exact E_top (if_neg (by omega)).symm hJ
    · have hp43 := (by omega : l1 ≥ 0)
      refine E_iload_n 1 1 dX6_allows_46 rfl rfl ?_
      refine E_bipush dX6_allows_47 (by decide) ?_
      refine E_icmp_ge 71 dX6_allows_49 rfl (fun hc => ?_) (fun hc => ?_)
      · have hp49 := (hc : l1 ≥ 8)
        refine E_iconst dX6_allows_71 (rg_of rfl) ?_
        exact E_top (if_neg (by omega)).symm hJ
      · have hp49 := (by omega : l1 < 8)
        refine E_iload_n 2 2 dX6_allows_52 rfl rfl ?_
        refine E_if_lt 71 dX6_allows_53 rfl (fun hc => ?_) (fun hc => ?_)
        · have hp53 := (hc : l2 < 0)
          refine E_iconst dX6_allows_71 (rg_of rfl) ?_
          exact E_top (if_neg (by omega)).symm hJ
        · have hp53 := (by omega : l2 ≥ 0)
          refine E_iload_n 2 2 dX6_allows_56 rfl rfl ?_
          refine E_bipush dX6_allows_57 (by decide) ?_
          refine E_icmp_ge 71 dX6_allows_59 rfl (fun hc => ?_) (fun hc => ?_)
          · have hp59 := (hc : l2 ≥ 8)
            refine E_iconst dX6_allows_71 (rg_of rfl) ?_
            exact E_top (if_neg (by omega)).symm hJ
          · have hp59 := (by omega : l2 < 8)
            refine E_iload_n 1 1 dX6_allows_62 rfl rfl ?_
            refine E_iload_n 2 2 dX6_allows_63 rfl rfl ?_
            refine E_icmp_eq 71 dX6_allows_64 rfl (fun hc => ?_) (fun hc => ?_)
            · have hp64 := (hc : l1 = l2)
              refine E_iconst dX6_allows_71 (rg_of rfl) ?_
              exact E_top (if_neg (by omega)).symm hJ
            · have hp64 := (by omega : l1 ≠ l2)
              refine E_iconst dX6_allows_67 (rg_of rfl) ?_
              refine E_goto 72 dX6_allows_68 rfl ?_
              exact E_top (if_pos (by omega)).symm hJ
  · replace hP := hP.2.2.2.1 hx
    refine E_tableIn 73 dX6_allows_1 (by omega) (by omega) (by rw [hx]; rfl) rfl ?_
    refine E_iload_n 1 1 dX6_allows_73 rfl rfl ?_
    have hJ : E 0 mX6_allows 87 [(0, vi l0), (1, vi l1), (2, vi l2)] [vi (if l1 = 0 ∨ l1 = 1 then (1 : Int) else 0)] h (qi Q) := by
      exact E_retZ dX6_allows_87 rfl (b01 _) hP
    refine E_if_eq 82 dX6_allows_74 rfl (fun hc => ?_) (fun hc => ?_)
    · have hp74 := (hc : l1 = 0)
      refine E_iconst dX6_allows_82 (rg_of rfl) ?_
      refine E_goto 87 dX6_allows_83 rfl ?_
      exact E_top (if_pos (by omega)).symm hJ
    · have hp74 := (by omega : l1 ≠ 0)
      refine E_iload_n 1 1 dX6_allows_77 rfl rfl ?_
      refine E_iconst dX6_allows_78 (rg_of rfl) ?_
      refine E_icmp_ne 86 dX6_allows_79 rfl (fun hc => ?_) (fun hc => ?_)
      · have hp79 := (hc : l1 ≠ 1)
        refine E_iconst dX6_allows_86 (rg_of rfl) ?_
        exact E_top (if_neg (by omega)).symm hJ
      · have hp79 := (by omega : l1 = 1)
        refine E_iconst dX6_allows_82 (rg_of rfl) ?_
        refine E_goto 87 dX6_allows_83 rfl ?_
        exact E_top (if_pos (by omega)).symm hJ
  · replace hP := hP.2.2.2.2.1 hx
    refine E_tableIn 88 dX6_allows_1 (by omega) (by omega) (by rw [hx]; rfl) rfl ?_
    refine E_iload_n 1 1 dX6_allows_88 rfl rfl ?_
    have hJ : E 0 mX6_allows 112 [(0, vi l0), (1, vi l1), (2, vi l2)] [vi (if (l1 = 0 ∧ l2 ≥ 0 ∧ l2 ≤ 9) ∨ (l1 ≠ 0 ∧ l1 = 1 ∧ l2 ≥ 0 ∧ l2 ≤ 9) then (1 : Int) else 0)] h (qi Q) := by
      exact E_retZ dX6_allows_112 rfl (b01 _) hP
    refine E_if_eq 97 dX6_allows_89 rfl (fun hc => ?_) (fun hc => ?_)
    · have hp89 := (hc : l1 = 0)
      refine E_iload_n 2 2 dX6_allows_97 rfl rfl ?_
      refine E_if_lt 111 dX6_allows_98 rfl (fun hc => ?_) (fun hc => ?_)
      · have hp98 := (hc : l2 < 0)
        refine E_iconst dX6_allows_111 (rg_of rfl) ?_
        exact E_top (if_neg (by omega)).symm hJ
      · have hp98 := (by omega : l2 ≥ 0)
        refine E_iload_n 2 2 dX6_allows_101 rfl rfl ?_
        refine E_bipush dX6_allows_102 (by decide) ?_
        refine E_icmp_gt 111 dX6_allows_104 rfl (fun hc => ?_) (fun hc => ?_)
        · have hp104 := (hc : l2 > 9)
          refine E_iconst dX6_allows_111 (rg_of rfl) ?_
          exact E_top (if_neg (by omega)).symm hJ
        · have hp104 := (by omega : l2 ≤ 9)
          refine E_iconst dX6_allows_107 (rg_of rfl) ?_
          refine E_goto 112 dX6_allows_108 rfl ?_
          exact E_top (if_pos (by omega)).symm hJ
    · have hp89 := (by omega : l1 ≠ 0)
      refine E_iload_n 1 1 dX6_allows_92 rfl rfl ?_
      refine E_iconst dX6_allows_93 (rg_of rfl) ?_
      refine E_icmp_ne 111 dX6_allows_94 rfl (fun hc => ?_) (fun hc => ?_)
      · have hp94 := (hc : l1 ≠ 1)
        refine E_iconst dX6_allows_111 (rg_of rfl) ?_
        exact E_top (if_neg (by omega)).symm hJ
      · have hp94 := (by omega : l1 = 1)
        refine E_iload_n 2 2 dX6_allows_97 rfl rfl ?_
        refine E_if_lt 111 dX6_allows_98 rfl (fun hc => ?_) (fun hc => ?_)
        · have hp98 := (hc : l2 < 0)
          refine E_iconst dX6_allows_111 (rg_of rfl) ?_
          exact E_top (if_neg (by omega)).symm hJ
        · have hp98 := (by omega : l2 ≥ 0)
          refine E_iload_n 2 2 dX6_allows_101 rfl rfl ?_
          refine E_bipush dX6_allows_102 (by decide) ?_
          refine E_icmp_gt 111 dX6_allows_104 rfl (fun hc => ?_) (fun hc => ?_)
          · have hp104 := (hc : l2 > 9)
            refine E_iconst dX6_allows_111 (rg_of rfl) ?_
            exact E_top (if_neg (by omega)).symm hJ
          · have hp104 := (by omega : l2 ≤ 9)
            refine E_iconst dX6_allows_107 (rg_of rfl) ?_
            refine E_goto 112 dX6_allows_108 rfl ?_
            exact E_top (if_pos (by omega)).symm hJ
  · replace hP := hP.2.2.2.2.2.1 hx
    refine E_tableIn 88 dX6_allows_1 (by omega) (by omega) (by rw [hx]; rfl) rfl ?_
    refine E_iload_n 1 1 dX6_allows_88 rfl rfl ?_
    have hJ : E 0 mX6_allows 112 [(0, vi l0), (1, vi l1), (2, vi l2)] [vi (if (l1 = 0 ∧ l2 ≥ 0 ∧ l2 ≤ 9) ∨ (l1 ≠ 0 ∧ l1 = 1 ∧ l2 ≥ 0 ∧ l2 ≤ 9) then (1 : Int) else 0)] h (qi Q) := by
      exact E_retZ dX6_allows_112 rfl (b01 _) hP
    refine E_if_eq 97 dX6_allows_89 rfl (fun hc => ?_) (fun hc => ?_)
    · have hp89 := (hc : l1 = 0)
      refine E_iload_n 2 2 dX6_allows_97 rfl rfl ?_
      refine E_if_lt 111 dX6_allows_98 rfl (fun hc => ?_) (fun hc => ?_)
      · have hp98 := (hc : l2 < 0)
        refine E_iconst dX6_allows_111 (rg_of rfl) ?_
        exact E_top (if_neg (by omega)).symm hJ
      · have hp98 := (by omega : l2 ≥ 0)
        refine E_iload_n 2 2 dX6_allows_101 rfl rfl ?_
        refine E_bipush dX6_allows_102 (by decide) ?_
        refine E_icmp_gt 111 dX6_allows_104 rfl (fun hc => ?_) (fun hc => ?_)
        · have hp104 := (hc : l2 > 9)
          refine E_iconst dX6_allows_111 (rg_of rfl) ?_
          exact E_top (if_neg (by omega)).symm hJ
        · have hp104 := (by omega : l2 ≤ 9)
          refine E_iconst dX6_allows_107 (rg_of rfl) ?_
          refine E_goto 112 dX6_allows_108 rfl ?_
          exact E_top (if_pos (by omega)).symm hJ
    · have hp89 := (by omega : l1 ≠ 0)
      refine E_iload_n 1 1 dX6_allows_92 rfl rfl ?_
      refine E_iconst dX6_allows_93 (rg_of rfl) ?_
      refine E_icmp_ne 111 dX6_allows_94 rfl (fun hc => ?_) (fun hc => ?_)
      · have hp94 := (hc : l1 ≠ 1)
        refine E_iconst dX6_allows_111 (rg_of rfl) ?_
        exact E_top (if_neg (by omega)).symm hJ
      · have hp94 := (by omega : l1 = 1)
        refine E_iload_n 2 2 dX6_allows_97 rfl rfl ?_
        refine E_if_lt 111 dX6_allows_98 rfl (fun hc => ?_) (fun hc => ?_)
        · have hp98 := (hc : l2 < 0)
          refine E_iconst dX6_allows_111 (rg_of rfl) ?_
          exact E_top (if_neg (by omega)).symm hJ
        · have hp98 := (by omega : l2 ≥ 0)
          refine E_iload_n 2 2 dX6_allows_101 rfl rfl ?_
          refine E_bipush dX6_allows_102 (by decide) ?_
          refine E_icmp_gt 111 dX6_allows_104 rfl (fun hc => ?_) (fun hc => ?_)
          · have hp104 := (hc : l2 > 9)
            refine E_iconst dX6_allows_111 (rg_of rfl) ?_
            exact E_top (if_neg (by omega)).symm hJ
          · have hp104 := (by omega : l2 ≤ 9)
            refine E_iconst dX6_allows_107 (rg_of rfl) ?_
            refine E_goto 112 dX6_allows_108 rfl ?_
            exact E_top (if_pos (by omega)).symm hJ
  · replace hP := hP.2.2.2.2.2.2 hx
    refine E_tableOut 113 dX6_allows_1 hx rfl ?_
    refine E_iconst dX6_allows_113 (rg_of rfl) ?_
    exact E_retZ dX6_allows_114 rfl (Or.inl rfl) hP
theorem dX6_isTaken_0 : decode prog_8_method_3_code 0 = .ok (.aload_n 0, 1) := by decide +kernel
theorem dX6_isTaken_1 : decode prog_8_method_3_code 1 = .ok (.getfield 11, 3) := by decide +kernel
theorem dX6_isTaken_4 : decode prog_8_method_3_code 4 = .ok (.iconst (-1), 1) := by decide +kernel
theorem dX6_isTaken_5 : decode prog_8_method_3_code 5 = .ok (.if_icmp .eq 7, 3) := by decide +kernel
theorem dX6_isTaken_8 : decode prog_8_method_3_code 8 = .ok (.iconst 1, 1) := by decide +kernel
theorem dX6_isTaken_9 : decode prog_8_method_3_code 9 = .ok (.goto 4, 3) := by decide +kernel
theorem dX6_isTaken_12 : decode prog_8_method_3_code 12 = .ok (.iconst 0, 1) := by decide +kernel
theorem dX6_isTaken_13 : decode prog_8_method_3_code 13 = .ok (.ireturn, 1) := by decide +kernel
theorem sX6_isTaken {Q : Int → Hp → Prop} {h : Hp} {b0 : Int}
    (hP : (sA b0) ∧
    Q (if (h b0 0) ≠ (-1) then (1 : Int) else 0) h) :
    CI 0 mX6_isTaken [vr b0] h Q := by
  refine CI_of_E fX6_isTaken.1 rfl (Nat.le_of_ble_eq_true rfl) ?_
  show E 0 mX6_isTaken 0 [(0, vr b0)] [] h (qi Q)
  obtain ⟨v1_0, hP⟩ := hP
  refine E_aload_n 0 0 dX6_isTaken_0 rfl rfl ?_
  refine E_gI 0 0 dX6_isTaken_1 FX6_11 (icS v1_0) rfl ?_
  refine E_iconst dX6_isTaken_4 (rg_of rfl) ?_
  have hJ : E 0 mX6_isTaken 13 [(0, vr b0)] [vi (if (h b0 0) ≠ (-1) then (1 : Int) else 0)] h (qi Q) := by
    exact E_retZ dX6_isTaken_13 rfl (b01 _) hP
  refine E_icmp_eq 12 dX6_isTaken_5 rfl (fun hc => ?_) (fun hc => ?_)
  · have hp5 := (hc : (h b0 0) = (-1))
    refine E_iconst dX6_isTaken_12 (rg_of rfl) ?_
    exact E_top (if_neg (by omega)).symm hJ
  · have hp5 := (by omega : (h b0 0) ≠ (-1))
    refine E_iconst dX6_isTaken_8 (rg_of rfl) ?_
    refine E_goto 13 dX6_isTaken_9 rfl ?_
    exact E_top (if_pos (by omega)).symm hJ
theorem dX6_hold_0 : decode prog_8_method_4_code 0 = .ok (.aload_n 0, 1) := by decide +kernel
theorem dX6_hold_1 : decode prog_8_method_4_code 1 = .ok (.iload_n 1, 1) := by decide +kernel
theorem dX6_hold_2 : decode prog_8_method_4_code 2 = .ok (.putfield 11, 3) := by decide +kernel
theorem dX6_hold_5 : decode prog_8_method_4_code 5 = .ok (.aload_n 0, 1) := by decide +kernel
theorem dX6_hold_6 : decode prog_8_method_4_code 6 = .ok (.iload_n 2, 1) := by decide +kernel
theorem dX6_hold_7 : decode prog_8_method_4_code 7 = .ok (.putfield 15, 3) := by decide +kernel
theorem dX6_hold_10 : decode prog_8_method_4_code 10 = .ok (.aload_n 0, 1) := by decide +kernel
theorem dX6_hold_11 : decode prog_8_method_4_code 11 = .ok (.iload_n 3, 1) := by decide +kernel
theorem dX6_hold_12 : decode prog_8_method_4_code 12 = .ok (.putfield 18, 3) := by decide +kernel
theorem dX6_hold_15 : decode prog_8_method_4_code 15 = .ok (.return_, 1) := by decide +kernel
theorem sX6_hold {Q : Hp → Prop} {h : Hp} {b0 l1 l2 l3 : Int}
    (hP : (sA b0) ∧
    Q (up (up (up h b0 0 l1) b0 1 l2) b0 2 l3)) :
    CV 0 mX6_hold [vr b0, vi l1, vi l2, vi l3] h Q := by
  refine CV_of_E fX6_hold.1 rfl (Nat.le_of_ble_eq_true rfl) ?_
  show E 0 mX6_hold 0 [(0, vr b0), (1, vi l1), (2, vi l2), (3, vi l3)] [] h (qv Q)
  obtain ⟨v1_0, hP⟩ := hP
  refine E_aload_n 0 0 dX6_hold_0 rfl rfl ?_
  refine E_iload_n 1 1 dX6_hold_1 rfl rfl ?_
  refine E_pI 0 0 dX6_hold_2 PX6_11 (icS v1_0) rfl ?_
  refine E_aload_n 0 0 dX6_hold_5 rfl rfl ?_
  refine E_iload_n 2 2 dX6_hold_6 rfl rfl ?_
  refine E_pI 1 1 dX6_hold_7 PX6_15 (icS v1_0) rfl ?_
  refine E_aload_n 0 0 dX6_hold_10 rfl rfl ?_
  refine E_iload_n 3 3 dX6_hold_11 rfl rfl ?_
  refine E_pI 2 2 dX6_hold_12 PX6_18 (icS v1_0) rfl ?_
  exact E_retV dX6_hold_15 rfl hP
theorem dX6_release_0 : decode prog_8_method_5_code 0 = .ok (.aload_n 0, 1) := by decide +kernel
theorem dX6_release_1 : decode prog_8_method_5_code 1 = .ok (.iconst (-1), 1) := by decide +kernel
theorem dX6_release_2 : decode prog_8_method_5_code 2 = .ok (.putfield 11, 3) := by decide +kernel
theorem dX6_release_5 : decode prog_8_method_5_code 5 = .ok (.return_, 1) := by decide +kernel
theorem sX6_release {Q : Hp → Prop} {h : Hp} {b0 : Int}
    (hP : (sA b0) ∧
    Q (up h b0 0 (-1))) :
    CV 0 mX6_release [vr b0] h Q := by
  refine CV_of_E fX6_release.1 rfl (Nat.le_of_ble_eq_true rfl) ?_
  show E 0 mX6_release 0 [(0, vr b0)] [] h (qv Q)
  obtain ⟨v1_0, hP⟩ := hP
  refine E_aload_n 0 0 dX6_release_0 rfl rfl ?_
  refine E_iconst dX6_release_1 (rg_of rfl) ?_
  refine E_pI 0 0 dX6_release_2 PX6_11 (icS v1_0) rfl ?_
  exact E_retV dX6_release_5 rfl hP
theorem dX6_isOfKind_0 : decode prog_8_method_6_code 0 = .ok (.aload_n 0, 1) := by decide +kernel
theorem dX6_isOfKind_1 : decode prog_8_method_6_code 1 = .ok (.getfield 11, 3) := by decide +kernel
theorem dX6_isOfKind_4 : decode prog_8_method_6_code 4 = .ok (.istore_n 2, 1) := by decide +kernel
theorem dX6_isOfKind_5 : decode prog_8_method_6_code 5 = .ok (.iconst 0, 1) := by decide +kernel
theorem dX6_isOfKind_6 : decode prog_8_method_6_code 6 = .ok (.istore_n 3, 1) := by decide +kernel
theorem dX6_isOfKind_7 : decode prog_8_method_6_code 7 = .ok (.iload_n 3, 1) := by decide +kernel
theorem dX6_isOfKind_8 : decode prog_8_method_6_code 8 = .ok (.bipush 6, 2) := by decide +kernel
theorem dX6_isOfKind_10 : decode prog_8_method_6_code 10 = .ok (.if_icmp .ge 32, 3) := by decide +kernel
theorem dX6_isOfKind_13 : decode prog_8_method_6_code 13 = .ok (.iload_n 2, 1) := by decide +kernel
theorem dX6_isOfKind_14 : decode prog_8_method_6_code 14 = .ok (.ifCond .lt 28, 3) := by decide +kernel
theorem dX6_isOfKind_17 : decode prog_8_method_6_code 17 = .ok (.iload_n 2, 1) := by decide +kernel
theorem dX6_isOfKind_18 : decode prog_8_method_6_code 18 = .ok (.bipush 6, 2) := by decide +kernel
theorem dX6_isOfKind_20 : decode prog_8_method_6_code 20 = .ok (.if_icmp .ge 22, 3) := by decide +kernel
theorem dX6_isOfKind_23 : decode prog_8_method_6_code 23 = .ok (.iload_n 2, 1) := by decide +kernel
theorem dX6_isOfKind_24 : decode prog_8_method_6_code 24 = .ok (.iload_n 1, 1) := by decide +kernel
theorem dX6_isOfKind_25 : decode prog_8_method_6_code 25 = .ok (.if_icmp .ne 5, 3) := by decide +kernel
theorem dX6_isOfKind_28 : decode prog_8_method_6_code 28 = .ok (.iconst 1, 1) := by decide +kernel
theorem dX6_isOfKind_29 : decode prog_8_method_6_code 29 = .ok (.ireturn, 1) := by decide +kernel
theorem dX6_isOfKind_30 : decode prog_8_method_6_code 30 = .ok (.getstatic 21, 3) := by decide +kernel
theorem dX6_isOfKind_33 : decode prog_8_method_6_code 33 = .ok (.iload_n 2, 1) := by decide +kernel
theorem dX6_isOfKind_34 : decode prog_8_method_6_code 34 = .ok (.iaload, 1) := by decide +kernel
theorem dX6_isOfKind_35 : decode prog_8_method_6_code 35 = .ok (.istore_n 2, 1) := by decide +kernel
theorem dX6_isOfKind_36 : decode prog_8_method_6_code 36 = .ok (.iinc 3 1, 3) := by decide +kernel
theorem dX6_isOfKind_39 : decode prog_8_method_6_code 39 = .ok (.goto (-32), 3) := by decide +kernel
theorem dX6_isOfKind_42 : decode prog_8_method_6_code 42 = .ok (.iconst 0, 1) := by decide +kernel
theorem dX6_isOfKind_43 : decode prog_8_method_6_code 43 = .ok (.ireturn, 1) := by decide +kernel
theorem sX6_isOfKind_7 {Q : Int → Hp → Prop} {h : Hp} {l1 l2 l3 : Int}
    (hP : ((l3 ≥ 6) →
     Q 0 h) ∧
    ((l3 < 6) →
     ((l2 < 0) →
      Q 0 h) ∧
     ((l2 ≥ 0) →
      ((l2 ≥ 6) →
       Q 0 h) ∧
      ((l2 < 6) →
       ((l2 ≠ l1) →
        (ix l2 6 ∧ rj (l3 + 1)) ∧
        E 0 mX6_isOfKind 7 [(1, vi l1), (2, vi (pav (l2).toNat)), (3, vi (l3 + 1))] [] h (qi Q)) ∧
       ((l2 = l1) →
        Q 1 h))))) :
    E 0 mX6_isOfKind 7 [(1, vi l1), (2, vi l2), (3, vi l3)] [] h (qi Q) := by
  refine E_iload_n 2 3 dX6_isOfKind_7 rfl rfl ?_
  refine E_bipush dX6_isOfKind_8 (by decide) ?_
  refine E_icmp_ge 42 dX6_isOfKind_10 rfl (fun hc => ?_) (fun hc => ?_)
  · replace hP := hP.1 (hc)
    refine E_iconst dX6_isOfKind_42 (rg_of rfl) ?_
    exact E_retZ dX6_isOfKind_43 rfl (Or.inl rfl) hP
  · replace hP := hP.2 (by omega)
    refine E_iload_n 1 2 dX6_isOfKind_13 rfl rfl ?_
    refine E_if_lt 42 dX6_isOfKind_14 rfl (fun hc => ?_) (fun hc => ?_)
    · replace hP := hP.1 (hc)
      refine E_iconst dX6_isOfKind_42 (rg_of rfl) ?_
      exact E_retZ dX6_isOfKind_43 rfl (Or.inl rfl) hP
    · replace hP := hP.2 (by omega)
      refine E_iload_n 1 2 dX6_isOfKind_17 rfl rfl ?_
      refine E_bipush dX6_isOfKind_18 (by decide) ?_
      refine E_icmp_ge 42 dX6_isOfKind_20 rfl (fun hc => ?_) (fun hc => ?_)
      · replace hP := hP.1 (hc)
        refine E_iconst dX6_isOfKind_42 (rg_of rfl) ?_
        exact E_retZ dX6_isOfKind_43 rfl (Or.inl rfl) hP
      · replace hP := hP.2 (by omega)
        refine E_iload_n 1 2 dX6_isOfKind_23 rfl rfl ?_
        refine E_iload_n 0 1 dX6_isOfKind_24 rfl rfl ?_
        refine E_icmp_ne 30 dX6_isOfKind_25 rfl (fun hc => ?_) (fun hc => ?_)
        · replace hP := hP.1 (hc)
          obtain ⟨⟨v8_0, v8_1⟩, hP⟩ := hP
          refine E_getsP dX6_isOfKind_30 gX6_21 ?_
          refine E_iload_n 1 2 dX6_isOfKind_33 rfl rfl ?_
          refine E_tabP dX6_isOfKind_34 v8_0.1 v8_0.2 ?_
          refine E_istore_n dX6_isOfKind_35 rfl (by decide) rfl ?_
          refine E_iinc 2 dX6_isOfKind_36 rfl (rgI v8_1) (by decide) rfl ?_
          refine E_goto 7 dX6_isOfKind_39 rfl ?_
          exact E_sub [2, 1, 0] rfl hP
        · replace hP := hP.2 (by omega)
          refine E_iconst dX6_isOfKind_28 (rg_of rfl) ?_
          exact E_retZ dX6_isOfKind_29 rfl (Or.inr rfl) hP
theorem sX6_isOfKind {Q : Int → Hp → Prop} {h : Hp} {b0 l1 : Int}
    (hP : (sA b0) ∧
    E 0 mX6_isOfKind 7 [(1, vi l1), (2, vi (h b0 0)), (3, vi 0)] [] h (qi Q)) :
    CI 0 mX6_isOfKind [vr b0, vi l1] h Q := by
  refine CI_of_E fX6_isOfKind.1 rfl (Nat.le_of_ble_eq_true rfl) ?_
  show E 0 mX6_isOfKind 0 [(0, vr b0), (1, vi l1)] [] h (qi Q)
  obtain ⟨v1_0, hP⟩ := hP
  refine E_aload_n 0 0 dX6_isOfKind_0 rfl rfl ?_
  refine E_gI 0 0 dX6_isOfKind_1 FX6_11 (icS v1_0) rfl ?_
  refine E_istore_n dX6_isOfKind_4 rfl (by decide) rfl ?_
  refine E_iconst dX6_isOfKind_5 (rg_of rfl) ?_
  refine E_istore_n dX6_isOfKind_6 rfl (by decide) rfl ?_
  exact E_sub [3, 1, 0] rfl hP
theorem dX6_fits_0 : decode prog_8_method_7_code 0 = .ok (.aload_n 0, 1) := by decide +kernel
theorem dX6_fits_1 : decode prog_8_method_7_code 1 = .ok (.getfield 11, 3) := by decide +kernel
theorem dX6_fits_4 : decode prog_8_method_7_code 4 = .ok (.iconst 1, 1) := by decide +kernel
theorem dX6_fits_5 : decode prog_8_method_7_code 5 = .ok (.if_icmp .eq 11, 3) := by decide +kernel
theorem dX6_fits_8 : decode prog_8_method_7_code 8 = .ok (.aload_n 0, 1) := by decide +kernel
theorem dX6_fits_9 : decode prog_8_method_7_code 9 = .ok (.getfield 11, 3) := by decide +kernel
theorem dX6_fits_12 : decode prog_8_method_7_code 12 = .ok (.iconst 2, 1) := by decide +kernel
theorem dX6_fits_13 : decode prog_8_method_7_code 13 = .ok (.if_icmp .ne 7, 3) := by decide +kernel
theorem dX6_fits_16 : decode prog_8_method_7_code 16 = .ok (.iconst 1, 1) := by decide +kernel
theorem dX6_fits_17 : decode prog_8_method_7_code 17 = .ok (.goto 4, 3) := by decide +kernel
theorem dX6_fits_20 : decode prog_8_method_7_code 20 = .ok (.iconst 0, 1) := by decide +kernel
theorem dX6_fits_21 : decode prog_8_method_7_code 21 = .ok (.istore_n 2, 1) := by decide +kernel
theorem dX6_fits_22 : decode prog_8_method_7_code 22 = .ok (.iload_n 2, 1) := by decide +kernel
theorem dX6_fits_23 : decode prog_8_method_7_code 23 = .ok (.ifCond .eq 19, 3) := by decide +kernel
theorem dX6_fits_26 : decode prog_8_method_7_code 26 = .ok (.aload_n 0, 1) := by decide +kernel
theorem dX6_fits_27 : decode prog_8_method_7_code 27 = .ok (.getfield 15, 3) := by decide +kernel
theorem dX6_fits_30 : decode prog_8_method_7_code 30 = .ok (.iload_n 1, 1) := by decide +kernel
theorem dX6_fits_31 : decode prog_8_method_7_code 31 = .ok (.if_icmp .ge 15, 3) := by decide +kernel
theorem dX6_fits_34 : decode prog_8_method_7_code 34 = .ok (.aload_n 0, 1) := by decide +kernel
theorem dX6_fits_35 : decode prog_8_method_7_code 35 = .ok (.getfield 18, 3) := by decide +kernel
theorem dX6_fits_38 : decode prog_8_method_7_code 38 = .ok (.iload_n 1, 1) := by decide +kernel
theorem dX6_fits_39 : decode prog_8_method_7_code 39 = .ok (.if_icmp .ge 7, 3) := by decide +kernel
theorem dX6_fits_42 : decode prog_8_method_7_code 42 = .ok (.iconst 1, 1) := by decide +kernel
theorem dX6_fits_43 : decode prog_8_method_7_code 43 = .ok (.goto 4, 3) := by decide +kernel
theorem dX6_fits_46 : decode prog_8_method_7_code 46 = .ok (.iconst 0, 1) := by decide +kernel
theorem dX6_fits_47 : decode prog_8_method_7_code 47 = .ok (.ireturn, 1) := by decide +kernel
theorem sX6_fits {Q : Int → Hp → Prop} {h : Hp} {b0 l1 : Int}
    (hP : (sA b0) ∧
    ((((h b0 0) = 1 ∨ (h b0 0) = 2) → (sA b0)) ∧ ((((h b0 0) = 1 ∨ (h b0 0) = 2) ∧ ((h b0 1) < l1)) → (sA b0))) ∧
    Q (if ((h b0 0) ≠ 1 ∧ (h b0 0) ≠ 2) ∨ ((h b0 1) < l1 ∧ (h b0 2) < l1) then (1 : Int) else 0) h) :
    CI 0 mX6_fits [vr b0, vi l1] h Q := by
  refine CI_of_E fX6_fits.1 rfl (Nat.le_of_ble_eq_true rfl) ?_
  show E 0 mX6_fits 0 [(0, vr b0), (1, vi l1)] [] h (qi Q)
  obtain ⟨v1_0, hP⟩ := hP
  refine E_aload_n 0 0 dX6_fits_0 rfl rfl ?_
  refine E_gI 0 0 dX6_fits_1 FX6_11 (icS v1_0) rfl ?_
  refine E_iconst dX6_fits_4 (rg_of rfl) ?_
  have hJ : E 0 mX6_fits 21 [(0, vr b0), (1, vi l1)] [vi (if (h b0 0) = 1 ∨ (h b0 0) = 2 then (1 : Int) else 0)] h (qi Q) := by
    obtain ⟨⟨v2_0, v2_1⟩, hP⟩ := hP
    refine E_istore_n dX6_fits_21 rfl (by decide) rfl ?_
    refine E_iload_n 0 2 dX6_fits_22 rfl rfl ?_
    have hJ : E 0 mX6_fits 47 [(2, vi (if (h b0 0) = 1 ∨ (h b0 0) = 2 then (1 : Int) else 0)), (0, vr b0), (1, vi l1)] [vi (if ((h b0 0) ≠ 1 ∧ (h b0 0) ≠ 2) ∨ ((h b0 1) < l1 ∧ (h b0 2) < l1) then (1 : Int) else 0)] h (qi Q) := by
      exact E_retZ dX6_fits_47 rfl (b01 _) hP
    refine E_if_eq 42 dX6_fits_23 rfl (fun hc => ?_) (fun hc => ?_)
    · have hp23 := (by have := ite0 hc; omega : (h b0 0) ≠ 1 ∧ (h b0 0) ≠ 2)
      refine E_iconst dX6_fits_42 (rg_of rfl) ?_
      refine E_goto 47 dX6_fits_43 rfl ?_
      exact E_top (if_pos (by omega)).symm hJ
    · have hp23 := (by have := ite1 hc; omega : (h b0 0) = 1 ∨ (h b0 0) = 2)
      refine E_aload_n 1 0 dX6_fits_26 rfl rfl ?_
      refine E_gI 1 1 dX6_fits_27 FX6_15 (icS (v2_0 (by omega))) rfl ?_
      refine E_iload_n 2 1 dX6_fits_30 rfl rfl ?_
      refine E_icmp_ge 46 dX6_fits_31 rfl (fun hc => ?_) (fun hc => ?_)
      · have hp31 := (hc : (h b0 1) ≥ l1)
        refine E_iconst dX6_fits_46 (rg_of rfl) ?_
        exact E_top (if_neg (by omega)).symm hJ
      · have hp31 := (by omega : (h b0 1) < l1)
        refine E_aload_n 1 0 dX6_fits_34 rfl rfl ?_
        refine E_gI 2 2 dX6_fits_35 FX6_18 (icS (v2_1 (by omega))) rfl ?_
        refine E_iload_n 2 1 dX6_fits_38 rfl rfl ?_
        refine E_icmp_ge 46 dX6_fits_39 rfl (fun hc => ?_) (fun hc => ?_)
        · have hp39 := (hc : (h b0 2) ≥ l1)
          refine E_iconst dX6_fits_46 (rg_of rfl) ?_
          exact E_top (if_neg (by omega)).symm hJ
        · have hp39 := (by omega : (h b0 2) < l1)
          refine E_iconst dX6_fits_42 (rg_of rfl) ?_
          refine E_goto 47 dX6_fits_43 rfl ?_
          exact E_top (if_pos (by omega)).symm hJ
  refine E_icmp_eq 16 dX6_fits_5 rfl (fun hc => ?_) (fun hc => ?_)
  · have hp5 := (hc : (h b0 0) = 1)
    refine E_iconst dX6_fits_16 (rg_of rfl) ?_
    refine E_goto 21 dX6_fits_17 rfl ?_
    exact E_top (if_pos (by omega)).symm hJ
  · have hp5 := (by omega : (h b0 0) ≠ 1)
    refine E_aload_n 0 0 dX6_fits_8 rfl rfl ?_
    refine E_gI 0 0 dX6_fits_9 FX6_11 (icS v1_0) rfl ?_
    refine E_iconst dX6_fits_12 (rg_of rfl) ?_
    refine E_icmp_ne 20 dX6_fits_13 rfl (fun hc => ?_) (fun hc => ?_)
    · have hp13 := (hc : (h b0 0) ≠ 2)
      refine E_iconst dX6_fits_20 (rg_of rfl) ?_
      exact E_top (if_neg (by omega)).symm hJ
    · have hp13 := (by omega : (h b0 0) = 2)
      refine E_iconst dX6_fits_16 (rg_of rfl) ?_
      refine E_goto 21 dX6_fits_17 rfl ?_
      exact E_top (if_pos (by omega)).symm hJ
theorem dX6_pushRepeated_0 : decode prog_8_method_9_code 0 = .ok (.iconst 0, 1) := by decide +kernel
theorem dX6_pushRepeated_1 : decode prog_8_method_9_code 1 = .ok (.istore_n 2, 1) := by decide +kernel
theorem dX6_pushRepeated_2 : decode prog_8_method_9_code 2 = .ok (.iload_n 2, 1) := by decide +kernel
theorem dX6_pushRepeated_3 : decode prog_8_method_9_code 3 = .ok (.aload_n 0, 1) := by decide +kernel
theorem dX6_pushRepeated_4 : decode prog_8_method_9_code 4 = .ok (.getfield 18, 3) := by decide +kernel
theorem dX6_pushRepeated_7 : decode prog_8_method_9_code 7 = .ok (.if_icmp .ge 32, 3) := by decide +kernel
theorem dX6_pushRepeated_10 : decode prog_8_method_9_code 10 = .ok (.aload_n 1, 1) := by decide +kernel
theorem dX6_pushRepeated_11 : decode prog_8_method_9_code 11 = .ok (.iload_n 2, 1) := by decide +kernel
theorem dX6_pushRepeated_12 : decode prog_8_method_9_code 12 = .ok (.iconst 2, 1) := by decide +kernel
theorem dX6_pushRepeated_13 : decode prog_8_method_9_code 13 = .ok (.irem, 1) := by decide +kernel
theorem dX6_pushRepeated_14 : decode prog_8_method_9_code 14 = .ok (.ifCond .ne 10, 3) := by decide +kernel
theorem dX6_pushRepeated_17 : decode prog_8_method_9_code 17 = .ok (.aload_n 0, 1) := by decide +kernel
theorem dX6_pushRepeated_18 : decode prog_8_method_9_code 18 = .ok (.getfield 15, 3) := by decide +kernel
theorem dX6_pushRepeated_21 : decode prog_8_method_9_code 21 = .ok (.goto 9, 3) := by decide +kernel
theorem dX6_pushRepeated_24 : decode prog_8_method_9_code 24 = .ok (.iconst 1, 1) := by decide +kernel
theorem dX6_pushRepeated_25 : decode prog_8_method_9_code 25 = .ok (.aload_n 0, 1) := by decide +kernel
theorem dX6_pushRepeated_26 : decode prog_8_method_9_code 26 = .ok (.getfield 15, 3) := by decide +kernel
theorem dX6_pushRepeated_29 : decode prog_8_method_9_code 29 = .ok (.isub, 1) := by decide +kernel
theorem dX6_pushRepeated_30 : decode prog_8_method_9_code 30 = .ok (.invokevirtual 34, 3) := by decide +kernel
theorem dX6_pushRepeated_33 : decode prog_8_method_9_code 33 = .ok (.iinc 2 1, 3) := by decide +kernel
theorem dX6_pushRepeated_36 : decode prog_8_method_9_code 36 = .ok (.goto (-34), 3) := by decide +kernel
theorem dX6_pushRepeated_39 : decode prog_8_method_9_code 39 = .ok (.return_, 1) := by decide +kernel
theorem sX6_pushRepeated_2 {Q : Hp → Prop} {h : Hp} {b0 a1 l2 : Int}
    (hP : (sA b0) ∧
    ((l2 ≥ (h b0 2)) →
     Q h) ∧
    ((l2 < (h b0 2)) →
     ((((j_irem l2 2) ≠ 0) → (sA b0)) ∧ (((j_irem l2 2) ≠ 0) → (rj (1 - (h b0 1)))) ∧ (((j_irem l2 2) = 0) → (sA b0))) ∧
     (nA a1) ∧
     CV 3 mX3_pushNeighbours [vr a1, vi (if (j_irem l2 2) ≠ 0 then (1 - (h b0 1)) else (h b0 1))] h (fun h5 =>
      (rj (l2 + 1)) ∧
      E 4 mX6_pushRepeated 2 [(0, vr b0), (1, vr a1), (2, vi (l2 + 1))] [] h5 (qv Q)))) :
    E 4 mX6_pushRepeated 2 [(0, vr b0), (1, vr a1), (2, vi l2)] [] h (qv Q) := by
  obtain ⟨v1_0, hP⟩ := hP
  refine E_iload_n 2 2 dX6_pushRepeated_2 rfl rfl ?_
  refine E_aload_n 0 0 dX6_pushRepeated_3 rfl rfl ?_
  refine E_gI 2 2 dX6_pushRepeated_4 FX6_18 (icS v1_0) rfl ?_
  refine E_icmp_ge 39 dX6_pushRepeated_7 rfl (fun hc => ?_) (fun hc => ?_)
  · replace hP := hP.1 (hc)
    exact E_retV dX6_pushRepeated_39 rfl hP
  · replace hP := hP.2 (by omega)
    obtain ⟨⟨v3_0, v3_1, v3_2⟩, hP⟩ := hP
    refine E_aload_n 1 1 dX6_pushRepeated_10 rfl rfl ?_
    refine E_iload_n 2 2 dX6_pushRepeated_11 rfl rfl ?_
    refine E_iconst dX6_pushRepeated_12 (rg_of rfl) ?_
    refine E_irem dX6_pushRepeated_13 (by decide) ?_
    have hJ : E 4 mX6_pushRepeated 30 [(0, vr b0), (1, vr a1), (2, vi l2)] [vi (if (j_irem l2 2) ≠ 0 then (1 - (h b0 1)) else (h b0 1)), vr a1] h (qv Q) := by
      obtain ⟨v4_0, hP⟩ := hP
      refine E_invVV [vi (if (j_irem l2 2) ≠ 0 then (1 - (h b0 1)) else (h b0 1))] dX6_pushRepeated_30 fX3_pushNeighbours lX6_34 (icN0 v4_0) rfl (by decide) rfl rfl (Nat.le_of_ble_eq_true rfl) (CV_mono hP (fun h5 hP => ?_))
      obtain ⟨v6_0, hP⟩ := hP
      refine E_iinc 2 dX6_pushRepeated_33 rfl (rgI v6_0) (by decide) rfl ?_
      refine E_goto 2 dX6_pushRepeated_36 rfl ?_
      exact E_sub [1, 2, 0] rfl hP
    refine E_if_ne 24 dX6_pushRepeated_14 rfl (fun hc => ?_) (fun hc => ?_)
    · have hp14 := (hc : (j_irem l2 2) ≠ 0)
      refine E_iconst dX6_pushRepeated_24 (rg_of rfl) ?_
      refine E_aload_n 0 0 dX6_pushRepeated_25 rfl rfl ?_
      refine E_gI 1 1 dX6_pushRepeated_26 FX6_15 (icS (v3_0 (by omega))) rfl ?_
      refine E_isub dX6_pushRepeated_29 (rgI (v3_1 (by omega))) ?_
      exact E_top (by first | exact (if_pos (by omega)).symm | exact (if_neg (by omega)).symm | (repeat first | rw [if_pos (by omega)] | rw [if_neg (by omega)])) hJ
    · have hp14 := (by omega : (j_irem l2 2) = 0)
      refine E_aload_n 0 0 dX6_pushRepeated_17 rfl rfl ?_
      refine E_gI 1 1 dX6_pushRepeated_18 FX6_15 (icS (v3_2 (by omega))) rfl ?_
      refine E_goto 30 dX6_pushRepeated_21 rfl ?_
      exact E_top (by first | exact (if_pos (by omega)).symm | exact (if_neg (by omega)).symm | (repeat first | rw [if_pos (by omega)] | rw [if_neg (by omega)])) hJ
theorem sX6_pushRepeated {Q : Hp → Prop} {h : Hp} {b0 a1 : Int}
    (hP : E 4 mX6_pushRepeated 2 [(0, vr b0), (1, vr a1), (2, vi 0)] [] h (qv Q)) :
    CV 4 mX6_pushRepeated [vr b0, vr a1] h Q := by
  refine CV_of_E fX6_pushRepeated.1 rfl (Nat.le_of_ble_eq_true rfl) ?_
  show E 4 mX6_pushRepeated 0 [(0, vr b0), (1, vr a1)] [] h (qv Q)
  refine E_iconst dX6_pushRepeated_0 (rg_of rfl) ?_
  refine E_istore_n dX6_pushRepeated_1 rfl (by decide) rfl ?_
  exact E_sub [1, 2, 0] rfl hP
theorem dX6_pushOnto_0 : decode prog_8_method_8_code 0 = .ok (.aload_n 0, 1) := by decide +kernel
theorem dX6_pushOnto_1 : decode prog_8_method_8_code 1 = .ok (.getfield 11, 3) := by decide +kernel
theorem dX6_pushOnto_4 : decode prog_8_method_8_code 4 = .ok (.tableswitch 127 1 5 #[36, 51, 92, 103, 111], 36) := by decide +kernel
theorem dX6_pushOnto_40 : decode prog_8_method_8_code 40 = .ok (.aload_n 1, 1) := by decide +kernel
theorem dX6_pushOnto_41 : decode prog_8_method_8_code 41 = .ok (.aload_n 0, 1) := by decide +kernel
theorem dX6_pushOnto_42 : decode prog_8_method_8_code 42 = .ok (.getfield 15, 3) := by decide +kernel
theorem dX6_pushOnto_45 : decode prog_8_method_8_code 45 = .ok (.aload_n 0, 1) := by decide +kernel
theorem dX6_pushOnto_46 : decode prog_8_method_8_code 46 = .ok (.getfield 18, 3) := by decide +kernel
theorem dX6_pushOnto_49 : decode prog_8_method_8_code 49 = .ok (.invokevirtual 25, 3) := by decide +kernel
theorem dX6_pushOnto_52 : decode prog_8_method_8_code 52 = .ok (.goto 79, 3) := by decide +kernel
theorem dX6_pushOnto_55 : decode prog_8_method_8_code 55 = .ok (.aload_n 1, 1) := by decide +kernel
theorem dX6_pushOnto_56 : decode prog_8_method_8_code 56 = .ok (.aload_n 0, 1) := by decide +kernel
theorem dX6_pushOnto_57 : decode prog_8_method_8_code 57 = .ok (.getfield 15, 3) := by decide +kernel
theorem dX6_pushOnto_60 : decode prog_8_method_8_code 60 = .ok (.aload_n 0, 1) := by decide +kernel
theorem dX6_pushOnto_61 : decode prog_8_method_8_code 61 = .ok (.getfield 18, 3) := by decide +kernel
theorem dX6_pushOnto_64 : decode prog_8_method_8_code 64 = .ok (.invokevirtual 25, 3) := by decide +kernel
theorem dX6_pushOnto_67 : decode prog_8_method_8_code 67 = .ok (.aload_n 1, 1) := by decide +kernel
theorem dX6_pushOnto_68 : decode prog_8_method_8_code 68 = .ok (.aload_n 1, 1) := by decide +kernel
theorem dX6_pushOnto_69 : decode prog_8_method_8_code 69 = .ok (.getfield 31, 3) := by decide +kernel
theorem dX6_pushOnto_72 : decode prog_8_method_8_code 72 = .ok (.iconst 1, 1) := by decide +kernel
theorem dX6_pushOnto_73 : decode prog_8_method_8_code 73 = .ok (.isub, 1) := by decide +kernel
theorem dX6_pushOnto_74 : decode prog_8_method_8_code 74 = .ok (.aload_n 0, 1) := by decide +kernel
theorem dX6_pushOnto_75 : decode prog_8_method_8_code 75 = .ok (.getfield 18, 3) := by decide +kernel
theorem dX6_pushOnto_78 : decode prog_8_method_8_code 78 = .ok (.isub, 1) := by decide +kernel
theorem dX6_pushOnto_79 : decode prog_8_method_8_code 79 = .ok (.aload_n 1, 1) := by decide +kernel
theorem dX6_pushOnto_80 : decode prog_8_method_8_code 80 = .ok (.getfield 31, 3) := by decide +kernel
theorem dX6_pushOnto_83 : decode prog_8_method_8_code 83 = .ok (.iconst 1, 1) := by decide +kernel
theorem dX6_pushOnto_84 : decode prog_8_method_8_code 84 = .ok (.isub, 1) := by decide +kernel
theorem dX6_pushOnto_85 : decode prog_8_method_8_code 85 = .ok (.aload_n 0, 1) := by decide +kernel
theorem dX6_pushOnto_86 : decode prog_8_method_8_code 86 = .ok (.getfield 15, 3) := by decide +kernel
theorem dX6_pushOnto_89 : decode prog_8_method_8_code 89 = .ok (.isub, 1) := by decide +kernel
theorem dX6_pushOnto_90 : decode prog_8_method_8_code 90 = .ok (.invokevirtual 25, 3) := by decide +kernel
theorem dX6_pushOnto_93 : decode prog_8_method_8_code 93 = .ok (.goto 38, 3) := by decide +kernel
theorem dX6_pushOnto_96 : decode prog_8_method_8_code 96 = .ok (.aload_n 1, 1) := by decide +kernel
theorem dX6_pushOnto_97 : decode prog_8_method_8_code 97 = .ok (.aload_n 0, 1) := by decide +kernel
theorem dX6_pushOnto_98 : decode prog_8_method_8_code 98 = .ok (.getfield 15, 3) := by decide +kernel
theorem dX6_pushOnto_101 : decode prog_8_method_8_code 101 = .ok (.invokevirtual 34, 3) := by decide +kernel
theorem dX6_pushOnto_104 : decode prog_8_method_8_code 104 = .ok (.goto 27, 3) := by decide +kernel
theorem dX6_pushOnto_107 : decode prog_8_method_8_code 107 = .ok (.aload_n 0, 1) := by decide +kernel
theorem dX6_pushOnto_108 : decode prog_8_method_8_code 108 = .ok (.aload_n 1, 1) := by decide +kernel
theorem dX6_pushOnto_109 : decode prog_8_method_8_code 109 = .ok (.invokevirtual 38, 3) := by decide +kernel
theorem dX6_pushOnto_112 : decode prog_8_method_8_code 112 = .ok (.goto 19, 3) := by decide +kernel
theorem dX6_pushOnto_115 : decode prog_8_method_8_code 115 = .ok (.aload_n 0, 1) := by decide +kernel
theorem dX6_pushOnto_116 : decode prog_8_method_8_code 116 = .ok (.aload_n 1, 1) := by decide +kernel
theorem dX6_pushOnto_117 : decode prog_8_method_8_code 117 = .ok (.invokevirtual 38, 3) := by decide +kernel
theorem dX6_pushOnto_120 : decode prog_8_method_8_code 120 = .ok (.aload_n 1, 1) := by decide +kernel
theorem dX6_pushOnto_121 : decode prog_8_method_8_code 121 = .ok (.aload_n 0, 1) := by decide +kernel
theorem dX6_pushOnto_122 : decode prog_8_method_8_code 122 = .ok (.getfield 15, 3) := by decide +kernel
theorem dX6_pushOnto_125 : decode prog_8_method_8_code 125 = .ok (.invokevirtual 34, 3) := by decide +kernel
theorem dX6_pushOnto_128 : decode prog_8_method_8_code 128 = .ok (.goto 3, 3) := by decide +kernel
theorem dX6_pushOnto_131 : decode prog_8_method_8_code 131 = .ok (.return_, 1) := by decide +kernel
theorem sX6_pushOnto {Q : Hp → Prop} {h : Hp} {b0 a1 : Int}
    (hP : (sA b0) ∧
    ((h b0 0) = 1 →
     (sA b0 ∧ nA a1) ∧
     CV 2 mX3_push [vr a1, vi (h b0 1), vi (h b0 2)] h (fun h3 =>
      Q h3)) ∧
    ((h b0 0) = 2 →
     (sA b0 ∧ nA a1) ∧
     CV 2 mX3_push [vr a1, vi (h b0 1), vi (h b0 2)] h (fun h6 =>
      (nA a1 ∧ rj ((h6 a1 0) - 1) ∧ sA b0 ∧ rj (((h6 a1 0) - 1) - (h6 b0 2)) ∧ rj (((h6 a1 0) - 1) - (h6 b0 1))) ∧
      CV 2 mX3_push [vr a1, vi (((h6 a1 0) - 1) - (h6 b0 2)), vi (((h6 a1 0) - 1) - (h6 b0 1))] h6 (fun h8 =>
       Q h8))) ∧
    ((h b0 0) = 3 →
     (sA b0 ∧ nA a1) ∧
     CV 3 mX3_pushNeighbours [vr a1, vi (h b0 1)] h (fun h11 =>
      Q h11)) ∧
    ((h b0 0) = 4 →
     (sA b0) ∧
     CV 4 mX6_pushRepeated [vr b0, vr a1] h (fun h14 =>
      Q h14)) ∧
    ((h b0 0) = 5 →
     (sA b0) ∧
     CV 4 mX6_pushRepeated [vr b0, vr a1] h (fun h17 =>
      (sA b0 ∧ nA a1) ∧
      CV 3 mX3_pushNeighbours [vr a1, vi (h17 b0 1)] h17 (fun h19 =>
       Q h19))) ∧
    ((h b0 0) < 1 ∨ 5 < (h b0 0) →
     Q h)) :
    CV 5 mX6_pushOnto [vr b0, vr a1] h Q := by
  refine CV_of_E fX6_pushOnto.1 rfl (Nat.le_of_ble_eq_true rfl) ?_
  show E 5 mX6_pushOnto 0 [(0, vr b0), (1, vr a1)] [] h (qv Q)
  obtain ⟨v1_0, hP⟩ := hP
  refine E_aload_n 0 0 dX6_pushOnto_0 rfl rfl ?_
  refine E_gI 0 0 dX6_pushOnto_1 FX6_11 (icS v1_0) rfl ?_
  rcases (by omega : (h b0 0) = 1 ∨ (h b0 0) = 2 ∨ (h b0 0) = 3 ∨ (h b0 0) = 4 ∨ (h b0 0) = 5 ∨ ((h b0 0) < 1 ∨ 5 < (h b0 0))) with hx | hx | hx | hx | hx | hx
  · replace hP := hP.1 hx
    refine E_tableIn 40 dX6_pushOnto_4 (by omega) (by omega) (by rw [hx]; rfl) rfl ?_
    obtain ⟨⟨v2_0, v2_1⟩, hP⟩ := hP
    refine E_aload_n 1 1 dX6_pushOnto_40 rfl rfl ?_
    refine E_aload_n 0 0 dX6_pushOnto_41 rfl rfl ?_
    refine E_gI 1 1 dX6_pushOnto_42 FX6_15 (icS v2_0) rfl ?_
    refine E_aload_n 0 0 dX6_pushOnto_45 rfl rfl ?_
    refine E_gI 2 2 dX6_pushOnto_46 FX6_18 (icS v2_0) rfl ?_
    refine E_invVV [vi (h b0 1), vi (h b0 2)] dX6_pushOnto_49 fX3_push lX6_25 (icN0 v2_1) rfl (by decide) rfl rfl (Nat.le_of_ble_eq_true rfl) (CV_mono hP (fun h3 hP => ?_))
    refine E_goto 131 dX6_pushOnto_52 rfl ?_
    exact E_retV dX6_pushOnto_131 rfl hP
  · replace hP := hP.2.1 hx
    refine E_tableIn 55 dX6_pushOnto_4 (by omega) (by omega) (by rw [hx]; rfl) rfl ?_
    obtain ⟨⟨v5_0, v5_1⟩, hP⟩ := hP
    refine E_aload_n 1 1 dX6_pushOnto_55 rfl rfl ?_
    refine E_aload_n 0 0 dX6_pushOnto_56 rfl rfl ?_
    refine E_gI 1 1 dX6_pushOnto_57 FX6_15 (icS v5_0) rfl ?_
    refine E_aload_n 0 0 dX6_pushOnto_60 rfl rfl ?_
    refine E_gI 2 2 dX6_pushOnto_61 FX6_18 (icS v5_0) rfl ?_
    refine E_invVV [vi (h b0 1), vi (h b0 2)] dX6_pushOnto_64 fX3_push lX6_25 (icN0 v5_1) rfl (by decide) rfl rfl (Nat.le_of_ble_eq_true rfl) (CV_mono hP (fun h6 hP => ?_))
    obtain ⟨⟨v7_0, v7_1, v7_2, v7_3, v7_4⟩, hP⟩ := hP
    refine E_aload_n 1 1 dX6_pushOnto_67 rfl rfl ?_
    refine E_aload_n 1 1 dX6_pushOnto_68 rfl rfl ?_
    refine E_gI 0 0 dX6_pushOnto_69 FX6_31 (icN0 v7_0) rfl ?_
    refine E_iconst dX6_pushOnto_72 (rg_of rfl) ?_
    refine E_isub dX6_pushOnto_73 (rgI v7_1) ?_
    refine E_aload_n 0 0 dX6_pushOnto_74 rfl rfl ?_
    refine E_gI 2 2 dX6_pushOnto_75 FX6_18 (icS v7_2) rfl ?_
    refine E_isub dX6_pushOnto_78 (rgI v7_3) ?_
    refine E_aload_n 1 1 dX6_pushOnto_79 rfl rfl ?_
    refine E_gI 0 0 dX6_pushOnto_80 FX6_31 (icN0 v7_0) rfl ?_
    refine E_iconst dX6_pushOnto_83 (rg_of rfl) ?_
    refine E_isub dX6_pushOnto_84 (rgI v7_1) ?_
    refine E_aload_n 0 0 dX6_pushOnto_85 rfl rfl ?_
    refine E_gI 1 1 dX6_pushOnto_86 FX6_15 (icS v7_2) rfl ?_
    refine E_isub dX6_pushOnto_89 (rgI v7_4) ?_
    refine E_invVV [vi (((h6 a1 0) - 1) - (h6 b0 2)), vi (((h6 a1 0) - 1) - (h6 b0 1))] dX6_pushOnto_90 fX3_push lX6_25 (icN0 v7_0) rfl (by decide) rfl rfl (Nat.le_of_ble_eq_true rfl) (CV_mono hP (fun h8 hP => ?_))
    refine E_goto 131 dX6_pushOnto_93 rfl ?_
    exact E_retV dX6_pushOnto_131 rfl hP
  · replace hP := hP.2.2.1 hx
    refine E_tableIn 96 dX6_pushOnto_4 (by omega) (by omega) (by rw [hx]; rfl) rfl ?_
    obtain ⟨⟨v10_0, v10_1⟩, hP⟩ := hP
    refine E_aload_n 1 1 dX6_pushOnto_96 rfl rfl ?_
    refine E_aload_n 0 0 dX6_pushOnto_97 rfl rfl ?_
    refine E_gI 1 1 dX6_pushOnto_98 FX6_15 (icS v10_0) rfl ?_
    refine E_invVV [vi (h b0 1)] dX6_pushOnto_101 fX3_pushNeighbours lX6_34 (icN0 v10_1) rfl (by decide) rfl rfl (Nat.le_of_ble_eq_true rfl) (CV_mono hP (fun h11 hP => ?_))
    refine E_goto 131 dX6_pushOnto_104 rfl ?_
    exact E_retV dX6_pushOnto_131 rfl hP
  · replace hP := hP.2.2.2.1 hx
    refine E_tableIn 107 dX6_pushOnto_4 (by omega) (by omega) (by rw [hx]; rfl) rfl ?_
    obtain ⟨v13_0, hP⟩ := hP
    refine E_aload_n 0 0 dX6_pushOnto_107 rfl rfl ?_
    refine E_aload_n 1 1 dX6_pushOnto_108 rfl rfl ?_
    refine E_invVV [vr a1] dX6_pushOnto_109 fX6_pushRepeated lX6_38 (icS v13_0) rfl (by decide) rfl rfl (Nat.le_of_ble_eq_true rfl) (CV_mono hP (fun h14 hP => ?_))
    refine E_goto 131 dX6_pushOnto_112 rfl ?_
    exact E_retV dX6_pushOnto_131 rfl hP
  · replace hP := hP.2.2.2.2.1 hx
    refine E_tableIn 115 dX6_pushOnto_4 (by omega) (by omega) (by rw [hx]; rfl) rfl ?_
    obtain ⟨v16_0, hP⟩ := hP
    refine E_aload_n 0 0 dX6_pushOnto_115 rfl rfl ?_
    refine E_aload_n 1 1 dX6_pushOnto_116 rfl rfl ?_
    refine E_invVV [vr a1] dX6_pushOnto_117 fX6_pushRepeated lX6_38 (icS v16_0) rfl (by decide) rfl rfl (Nat.le_of_ble_eq_true rfl) (CV_mono hP (fun h17 hP => ?_))
    obtain ⟨⟨v18_0, v18_1⟩, hP⟩ := hP
    refine E_aload_n 1 1 dX6_pushOnto_120 rfl rfl ?_
    refine E_aload_n 0 0 dX6_pushOnto_121 rfl rfl ?_
    refine E_gI 1 1 dX6_pushOnto_122 FX6_15 (icS v18_0) rfl ?_
    refine E_invVV [vi (h17 b0 1)] dX6_pushOnto_125 fX3_pushNeighbours lX6_34 (icN0 v18_1) rfl (by decide) rfl rfl (Nat.le_of_ble_eq_true rfl) (CV_mono hP (fun h19 hP => ?_))
    refine E_goto 131 dX6_pushOnto_128 rfl ?_
    exact E_retV dX6_pushOnto_131 rfl hP
  · replace hP := hP.2.2.2.2.2 hx
    refine E_tableOut 131 dX6_pushOnto_4 hx rfl ?_
    exact E_retV dX6_pushOnto_131 rfl hP
theorem dX7_inputLane_0 : decode prog_9_method_3_code 0 = .ok (.iload_n 0, 1) := by decide +kernel
theorem dX7_inputLane_1 : decode prog_9_method_3_code 1 = .ok (.ifCond .lt 15, 3) := by decide +kernel
theorem dX7_inputLane_4 : decode prog_9_method_3_code 4 = .ok (.iload_n 0, 1) := by decide +kernel
theorem dX7_inputLane_5 : decode prog_9_method_3_code 5 = .ok (.bipush 6, 2) := by decide +kernel
theorem dX7_inputLane_7 : decode prog_9_method_3_code 7 = .ok (.if_icmp .ge 9, 3) := by decide +kernel
theorem dX7_inputLane_10 : decode prog_9_method_3_code 10 = .ok (.getstatic 26, 3) := by decide +kernel
theorem dX7_inputLane_13 : decode prog_9_method_3_code 13 = .ok (.iload_n 0, 1) := by decide +kernel
theorem dX7_inputLane_14 : decode prog_9_method_3_code 14 = .ok (.laload, 1) := by decide +kernel
theorem dX7_inputLane_15 : decode prog_9_method_3_code 15 = .ok (.lreturn, 1) := by decide +kernel
theorem dX7_inputLane_16 : decode prog_9_method_3_code 16 = .ok (.iload_n 1, 1) := by decide +kernel
theorem dX7_inputLane_17 : decode prog_9_method_3_code 17 = .ok (.iload_n 0, 1) := by decide +kernel
theorem dX7_inputLane_18 : decode prog_9_method_3_code 18 = .ok (.bipush 6, 2) := by decide +kernel
theorem dX7_inputLane_20 : decode prog_9_method_3_code 20 = .ok (.isub, 1) := by decide +kernel
theorem dX7_inputLane_21 : decode prog_9_method_3_code 21 = .ok (.ishr, 1) := by decide +kernel
theorem dX7_inputLane_22 : decode prog_9_method_3_code 22 = .ok (.iconst 1, 1) := by decide +kernel
theorem dX7_inputLane_23 : decode prog_9_method_3_code 23 = .ok (.iand, 1) := by decide +kernel
theorem dX7_inputLane_24 : decode prog_9_method_3_code 24 = .ok (.iconst 1, 1) := by decide +kernel
theorem dX7_inputLane_25 : decode prog_9_method_3_code 25 = .ok (.if_icmp .ne 9, 3) := by decide +kernel
theorem dX7_inputLane_28 : decode prog_9_method_3_code 28 = .ok (.ldc2_w 29, 3) := by decide +kernel
theorem dX7_inputLane_31 : decode prog_9_method_3_code 31 = .ok (.goto 4, 3) := by decide +kernel
theorem dX7_inputLane_34 : decode prog_9_method_3_code 34 = .ok (.lconst 0, 1) := by decide +kernel
theorem dX7_inputLane_35 : decode prog_9_method_3_code 35 = .ok (.lreturn, 1) := by decide +kernel
theorem sX7_inputLane {Q : Int → Hp → Prop} {h : Hp} {l0 l1 : Int}
    (hP : ((l0 < 0) →
     (rj (l0 - 6)) ∧
     (((j_iand (j_ishr l1 (l0 - 6)) 1) ≠ 1) →
      Q 0 h) ∧
     (((j_iand (j_ishr l1 (l0 - 6)) 1) = 1) →
      Q (-1) h)) ∧
    ((l0 ≥ 0) →
     ((l0 ≥ 6) →
      (rj (l0 - 6)) ∧
      (((j_iand (j_ishr l1 (l0 - 6)) 1) ≠ 1) →
       Q 0 h) ∧
      (((j_iand (j_ishr l1 (l0 - 6)) 1) = 1) →
       Q (-1) h)) ∧
     ((l0 < 6) →
      (ix l0 6) ∧
      Q (wlv (l0).toNat).toInt h))) :
    CL 0 mX7_inputLane [vi l0, vi l1] h Q := by
  refine CL_of_E fX7_inputLane.1 rfl (Nat.le_of_ble_eq_true rfl) ?_
  show E 0 mX7_inputLane 0 [(0, vi l0), (1, vi l1)] [] h (ql Q)
  refine E_iload_n 0 0 dX7_inputLane_0 rfl rfl ?_
  refine E_if_lt 16 dX7_inputLane_1 rfl (fun hc => ?_) (fun hc => ?_)
  · replace hP := hP.1 (hc)
    obtain ⟨v2_0, hP⟩ := hP
    refine E_iload_n 1 1 dX7_inputLane_16 rfl rfl ?_
    refine E_iload_n 0 0 dX7_inputLane_17 rfl rfl ?_
    refine E_bipush dX7_inputLane_18 (by decide) ?_
    refine E_isub dX7_inputLane_20 (rgI v2_0) ?_
    refine E_ishr dX7_inputLane_21 ?_
    refine E_iconst dX7_inputLane_22 (rg_of rfl) ?_
    refine E_iand dX7_inputLane_23 ?_
    refine E_iconst dX7_inputLane_24 (rg_of rfl) ?_
    refine E_icmp_ne 34 dX7_inputLane_25 rfl (fun hc => ?_) (fun hc => ?_)
    · replace hP := hP.1 (hc)
      refine E_lc 0 dX7_inputLane_34 rfl ?_
      exact E_retL dX7_inputLane_35 rfl hP
    · replace hP := hP.2 (by omega)
      refine E_ldc2 (z := (-1)) dX7_inputLane_28 kX7_29 (by decide) ?_
      refine E_goto 35 dX7_inputLane_31 rfl ?_
      exact E_retL dX7_inputLane_35 rfl hP
  · replace hP := hP.2 (by omega)
    refine E_iload_n 0 0 dX7_inputLane_4 rfl rfl ?_
    refine E_bipush dX7_inputLane_5 (by decide) ?_
    refine E_icmp_ge 16 dX7_inputLane_7 rfl (fun hc => ?_) (fun hc => ?_)
    · replace hP := hP.1 (hc)
      obtain ⟨v6_0, hP⟩ := hP
      refine E_iload_n 1 1 dX7_inputLane_16 rfl rfl ?_
      refine E_iload_n 0 0 dX7_inputLane_17 rfl rfl ?_
      refine E_bipush dX7_inputLane_18 (by decide) ?_
      refine E_isub dX7_inputLane_20 (rgI v6_0) ?_
      refine E_ishr dX7_inputLane_21 ?_
      refine E_iconst dX7_inputLane_22 (rg_of rfl) ?_
      refine E_iand dX7_inputLane_23 ?_
      refine E_iconst dX7_inputLane_24 (rg_of rfl) ?_
      refine E_icmp_ne 34 dX7_inputLane_25 rfl (fun hc => ?_) (fun hc => ?_)
      · replace hP := hP.1 (hc)
        refine E_lc 0 dX7_inputLane_34 rfl ?_
        exact E_retL dX7_inputLane_35 rfl hP
      · replace hP := hP.2 (by omega)
        refine E_ldc2 (z := (-1)) dX7_inputLane_28 kX7_29 (by decide) ?_
        refine E_goto 35 dX7_inputLane_31 rfl ?_
        exact E_retL dX7_inputLane_35 rfl hP
    · replace hP := hP.2 (by omega)
      obtain ⟨v9_0, hP⟩ := hP
      refine E_getsW dX7_inputLane_10 gX7_26 ?_
      refine E_iload_n 0 0 dX7_inputLane_13 rfl rfl ?_
      refine E_tabW dX7_inputLane_14 v9_0.1 v9_0.2 ?_
      exact E_retL dX7_inputLane_15 rfl hP
theorem dX7_start_0 : decode prog_9_method_2_code 0 = .ok (.aload_n 0, 1) := by decide +kernel
theorem dX7_start_1 : decode prog_9_method_2_code 1 = .ok (.iload_n 1, 1) := by decide +kernel
theorem dX7_start_2 : decode prog_9_method_2_code 2 = .ok (.putfield 15, 3) := by decide +kernel
theorem dX7_start_5 : decode prog_9_method_2_code 5 = .ok (.aload_n 0, 1) := by decide +kernel
theorem dX7_start_6 : decode prog_9_method_2_code 6 = .ok (.aload_n 0, 1) := by decide +kernel
theorem dX7_start_7 : decode prog_9_method_2_code 7 = .ok (.getfield 15, 3) := by decide +kernel
theorem dX7_start_10 : decode prog_9_method_2_code 10 = .ok (.bipush 6, 2) := by decide +kernel
theorem dX7_start_12 : decode prog_9_method_2_code 12 = .ok (.if_icmp .le 15, 3) := by decide +kernel
theorem dX7_start_15 : decode prog_9_method_2_code 15 = .ok (.iconst 1, 1) := by decide +kernel
theorem dX7_start_16 : decode prog_9_method_2_code 16 = .ok (.aload_n 0, 1) := by decide +kernel
theorem dX7_start_17 : decode prog_9_method_2_code 17 = .ok (.getfield 15, 3) := by decide +kernel
theorem dX7_start_20 : decode prog_9_method_2_code 20 = .ok (.bipush 6, 2) := by decide +kernel
theorem dX7_start_22 : decode prog_9_method_2_code 22 = .ok (.isub, 1) := by decide +kernel
theorem dX7_start_23 : decode prog_9_method_2_code 23 = .ok (.ishl, 1) := by decide +kernel
theorem dX7_start_24 : decode prog_9_method_2_code 24 = .ok (.goto 4, 3) := by decide +kernel
theorem dX7_start_27 : decode prog_9_method_2_code 27 = .ok (.iconst 1, 1) := by decide +kernel
theorem dX7_start_28 : decode prog_9_method_2_code 28 = .ok (.putfield 19, 3) := by decide +kernel
theorem dX7_start_31 : decode prog_9_method_2_code 31 = .ok (.iconst 0, 1) := by decide +kernel
theorem dX7_start_32 : decode prog_9_method_2_code 32 = .ok (.istore_n 2, 1) := by decide +kernel
theorem dX7_start_33 : decode prog_9_method_2_code 33 = .ok (.iload_n 2, 1) := by decide +kernel
theorem dX7_start_34 : decode prog_9_method_2_code 34 = .ok (.aload_n 0, 1) := by decide +kernel
theorem dX7_start_35 : decode prog_9_method_2_code 35 = .ok (.getfield 15, 3) := by decide +kernel
theorem dX7_start_38 : decode prog_9_method_2_code 38 = .ok (.if_icmp .ge 40, 3) := by decide +kernel
theorem dX7_start_41 : decode prog_9_method_2_code 41 = .ok (.iconst 0, 1) := by decide +kernel
theorem dX7_start_42 : decode prog_9_method_2_code 42 = .ok (.istore_n 3, 1) := by decide +kernel
theorem dX7_start_43 : decode prog_9_method_2_code 43 = .ok (.iload_n 3, 1) := by decide +kernel
theorem dX7_start_44 : decode prog_9_method_2_code 44 = .ok (.aload_n 0, 1) := by decide +kernel
theorem dX7_start_45 : decode prog_9_method_2_code 45 = .ok (.getfield 19, 3) := by decide +kernel
theorem dX7_start_48 : decode prog_9_method_2_code 48 = .ok (.if_icmp .ge 24, 3) := by decide +kernel
theorem dX7_start_51 : decode prog_9_method_2_code 51 = .ok (.aload_n 0, 1) := by decide +kernel
theorem dX7_start_52 : decode prog_9_method_2_code 52 = .ok (.getfield 11, 3) := by decide +kernel
theorem dX7_start_55 : decode prog_9_method_2_code 55 = .ok (.iload_n 2, 1) := by decide +kernel
theorem dX7_start_56 : decode prog_9_method_2_code 56 = .ok (.iconst 4, 1) := by decide +kernel
theorem dX7_start_57 : decode prog_9_method_2_code 57 = .ok (.imul, 1) := by decide +kernel
theorem dX7_start_58 : decode prog_9_method_2_code 58 = .ok (.iload_n 3, 1) := by decide +kernel
theorem dX7_start_59 : decode prog_9_method_2_code 59 = .ok (.iadd, 1) := by decide +kernel
theorem dX7_start_60 : decode prog_9_method_2_code 60 = .ok (.iload_n 2, 1) := by decide +kernel
theorem dX7_start_61 : decode prog_9_method_2_code 61 = .ok (.iload_n 3, 1) := by decide +kernel
theorem dX7_start_62 : decode prog_9_method_2_code 62 = .ok (.invokestatic 22, 3) := by decide +kernel
theorem dX7_start_65 : decode prog_9_method_2_code 65 = .ok (.lastore, 1) := by decide +kernel
theorem dX7_start_66 : decode prog_9_method_2_code 66 = .ok (.iinc 3 1, 3) := by decide +kernel
theorem dX7_start_69 : decode prog_9_method_2_code 69 = .ok (.goto (-26), 3) := by decide +kernel
theorem dX7_start_72 : decode prog_9_method_2_code 72 = .ok (.iinc 2 1, 3) := by decide +kernel
theorem dX7_start_75 : decode prog_9_method_2_code 75 = .ok (.goto (-42), 3) := by decide +kernel
theorem dX7_start_78 : decode prog_9_method_2_code 78 = .ok (.return_, 1) := by decide +kernel
theorem sX7_start_43 {Q : Hp → Prop} {h : Hp} {l2 l3 : Int}
    (hP : ((l3 ≥ (h 83 2)) →
     (rj (l2 + 1)) ∧
     E 1 mX7_start 33 [(0, vr 83), (2, vi (l2 + 1))] [] h (qv Q)) ∧
    ((l3 < (h 83 2)) →
     (rj (l2 * 4) ∧ rj ((l2 * 4) + l3)) ∧
     CL 0 mX7_inputLane [vi l2, vi l3] h (fun r5 h4 =>
      (ix ((l2 * 4) + l3) 32 ∧ rj (l3 + 1)) ∧
      E 1 mX7_start 43 [(0, vr 83), (2, vi l2), (3, vi (l3 + 1))] [] (up h4 84 ((l2 * 4) + l3) r5) (qv Q)))) :
    E 1 mX7_start 43 [(0, vr 83), (2, vi l2), (3, vi l3)] [] h (qv Q) := by
  refine E_iload_n 2 3 dX7_start_43 rfl rfl ?_
  refine E_aload_n 0 0 dX7_start_44 rfl rfl ?_
  refine E_gI 2 2 dX7_start_45 FX7_19 ic_83 rfl ?_
  refine E_icmp_ge 72 dX7_start_48 rfl (fun hc => ?_) (fun hc => ?_)
  · replace hP := hP.1 (hc)
    obtain ⟨v2_0, hP⟩ := hP
    refine E_iinc 1 dX7_start_72 rfl (rgI v2_0) (by decide) rfl ?_
    refine E_goto 33 dX7_start_75 rfl ?_
    exact E_sub [1, 0] rfl hP
  · replace hP := hP.2 (by omega)
    obtain ⟨⟨v3_0, v3_1⟩, hP⟩ := hP
    refine E_aload_n 0 0 dX7_start_51 rfl rfl ?_
    refine E_gR 84 0 dX7_start_52 FX7_11 ic_83 (by decide) ?_
    refine E_iload_n 1 2 dX7_start_55 rfl rfl ?_
    refine E_iconst dX7_start_56 (rg_of rfl) ?_
    refine E_imul dX7_start_57 (rgI v3_0) ?_
    refine E_iload_n 2 3 dX7_start_58 rfl rfl ?_
    refine E_iadd dX7_start_59 (rgI v3_1) ?_
    refine E_iload_n 1 2 dX7_start_60 rfl rfl ?_
    refine E_iload_n 2 3 dX7_start_61 rfl rfl ?_
    refine E_invSL [vi l2, vi l3] dX7_start_62 fX7_inputLane lX7_22 (by decide) rfl rfl (Nat.le_of_ble_eq_true rfl) (CL_mono hP (fun r5 h4 hP => ?_))
    obtain ⟨⟨v6_0, v6_1⟩, hP⟩ := hP
    refine E_lastore dX7_start_65 ic_84 v6_0.1 v6_0.2 ?_
    refine E_iinc 2 dX7_start_66 rfl (rgI v6_1) (by decide) rfl ?_
    refine E_goto 43 dX7_start_69 rfl ?_
    exact E_sub [1, 2, 0] rfl hP
theorem sX7_start_33 {Q : Hp → Prop} {h : Hp} {l2 : Int}
    (hP : ((l2 ≥ (h 83 1)) →
     Q h) ∧
    ((l2 < (h 83 1)) →
     E 1 mX7_start 43 [(0, vr 83), (2, vi l2), (3, vi 0)] [] h (qv Q))) :
    E 1 mX7_start 33 [(0, vr 83), (2, vi l2)] [] h (qv Q) := by
  refine E_iload_n 1 2 dX7_start_33 rfl rfl ?_
  refine E_aload_n 0 0 dX7_start_34 rfl rfl ?_
  refine E_gI 1 1 dX7_start_35 FX7_15 ic_83 rfl ?_
  refine E_icmp_ge 78 dX7_start_38 rfl (fun hc => ?_) (fun hc => ?_)
  · replace hP := hP.1 (hc)
    exact E_retV dX7_start_78 rfl hP
  · replace hP := hP.2 (by omega)
    refine E_iconst dX7_start_41 (rg_of rfl) ?_
    refine E_istore_n dX7_start_42 rfl (by decide) rfl ?_
    exact E_sub [1, 2, 0] rfl hP
theorem sX7_start {Q : Hp → Prop} {h : Hp} {l1 : Int}
    (hP : (((l1 > 6) → (rj (l1 - 6)))) ∧
    E 1 mX7_start 33 [(0, vr 83), (2, vi 0)] [] (up (up h 83 1 l1) 83 2 (if l1 ≤ 6 then 1 else (j_ishl 1 (l1 - 6)))) (qv Q)) :
    CV 1 mX7_start [vr 83, vi l1] h Q := by
  refine CV_of_E fX7_start.1 rfl (Nat.le_of_ble_eq_true rfl) ?_
  show E 1 mX7_start 0 [(0, vr 83), (1, vi l1)] [] h (qv Q)
  obtain ⟨v1_0, hP⟩ := hP
  refine E_aload_n 0 0 dX7_start_0 rfl rfl ?_
  refine E_iload_n 1 1 dX7_start_1 rfl rfl ?_
  refine E_pI 1 1 dX7_start_2 PX7_15 ic_83 rfl ?_
  refine E_aload_n 0 0 dX7_start_5 rfl rfl ?_
  refine E_aload_n 0 0 dX7_start_6 rfl rfl ?_
  refine E_gI 1 1 dX7_start_7 FX7_15 ic_83 rfl ?_
  refine E_top (y := l1) (by simp [up]) ?_
  refine E_bipush dX7_start_10 (by decide) ?_
  have hJ : E 1 mX7_start 28 [(0, vr 83), (1, vi l1)] [vi (if l1 ≤ 6 then 1 else (j_ishl 1 (l1 - 6))), vr 83] (up h 83 1 l1) (qv Q) := by
    refine E_pI 2 2 dX7_start_28 PX7_19 ic_83 rfl ?_
    refine E_iconst dX7_start_31 (rg_of rfl) ?_
    refine E_istore_n dX7_start_32 rfl (by decide) rfl ?_
    exact E_sub [1, 0] rfl hP
  refine E_icmp_le 27 dX7_start_12 rfl (fun hc => ?_) (fun hc => ?_)
  · have hp12 := (hc : l1 ≤ 6)
    refine E_iconst dX7_start_27 (rg_of rfl) ?_
    exact E_top (by first | exact (if_pos (by omega)).symm | exact (if_neg (by omega)).symm | (repeat first | rw [if_pos (by omega)] | rw [if_neg (by omega)])) hJ
  · have hp12 := (by omega : l1 > 6)
    refine E_iconst dX7_start_15 (rg_of rfl) ?_
    refine E_aload_n 0 0 dX7_start_16 rfl rfl ?_
    refine E_gI 1 1 dX7_start_17 FX7_15 ic_83 rfl ?_
    refine E_top (y := l1) (by simp [up]) ?_
    refine E_bipush dX7_start_20 (by decide) ?_
    refine E_isub dX7_start_22 (rgI (v1_0 (by omega))) ?_
    refine E_ishl dX7_start_23 ?_
    refine E_goto 28 dX7_start_24 rfl ?_
    exact E_top (by first | exact (if_pos (by omega)).symm | exact (if_neg (by omega)).symm | (repeat first | rw [if_pos (by omega)] | rw [if_neg (by omega)])) hJ
theorem dX7_pass_0 : decode prog_9_method_4_code 0 = .ok (.iconst 0, 1) := by decide +kernel
theorem dX7_pass_1 : decode prog_9_method_4_code 1 = .ok (.istore_n 3, 1) := by decide +kernel
theorem dX7_pass_2 : decode prog_9_method_4_code 2 = .ok (.iload_n 3, 1) := by decide +kernel
theorem dX7_pass_3 : decode prog_9_method_4_code 3 = .ok (.aload_n 0, 1) := by decide +kernel
theorem dX7_pass_4 : decode prog_9_method_4_code 4 = .ok (.getfield 19, 3) := by decide +kernel
theorem dX7_pass_7 : decode prog_9_method_4_code 7 = .ok (.if_icmp .ge 63, 3) := by decide +kernel
theorem dX7_pass_10 : decode prog_9_method_4_code 10 = .ok (.aload_n 0, 1) := by decide +kernel
theorem dX7_pass_11 : decode prog_9_method_4_code 11 = .ok (.getfield 11, 3) := by decide +kernel
theorem dX7_pass_14 : decode prog_9_method_4_code 14 = .ok (.iload_n 1, 1) := by decide +kernel
theorem dX7_pass_15 : decode prog_9_method_4_code 15 = .ok (.iconst 4, 1) := by decide +kernel
theorem dX7_pass_16 : decode prog_9_method_4_code 16 = .ok (.imul, 1) := by decide +kernel
theorem dX7_pass_17 : decode prog_9_method_4_code 17 = .ok (.iload_n 3, 1) := by decide +kernel
theorem dX7_pass_18 : decode prog_9_method_4_code 18 = .ok (.iadd, 1) := by decide +kernel
theorem dX7_pass_19 : decode prog_9_method_4_code 19 = .ok (.laload, 1) := by decide +kernel
theorem dX7_pass_20 : decode prog_9_method_4_code 20 = .ok (.lstore 4, 2) := by decide +kernel
theorem dX7_pass_22 : decode prog_9_method_4_code 22 = .ok (.aload_n 0, 1) := by decide +kernel
theorem dX7_pass_23 : decode prog_9_method_4_code 23 = .ok (.getfield 11, 3) := by decide +kernel
theorem dX7_pass_26 : decode prog_9_method_4_code 26 = .ok (.iload_n 2, 1) := by decide +kernel
theorem dX7_pass_27 : decode prog_9_method_4_code 27 = .ok (.iconst 4, 1) := by decide +kernel
theorem dX7_pass_28 : decode prog_9_method_4_code 28 = .ok (.imul, 1) := by decide +kernel
theorem dX7_pass_29 : decode prog_9_method_4_code 29 = .ok (.iload_n 3, 1) := by decide +kernel
theorem dX7_pass_30 : decode prog_9_method_4_code 30 = .ok (.iadd, 1) := by decide +kernel
theorem dX7_pass_31 : decode prog_9_method_4_code 31 = .ok (.laload, 1) := by decide +kernel
theorem dX7_pass_32 : decode prog_9_method_4_code 32 = .ok (.lstore 6, 2) := by decide +kernel
theorem dX7_pass_34 : decode prog_9_method_4_code 34 = .ok (.aload_n 0, 1) := by decide +kernel
theorem dX7_pass_35 : decode prog_9_method_4_code 35 = .ok (.getfield 11, 3) := by decide +kernel
theorem dX7_pass_38 : decode prog_9_method_4_code 38 = .ok (.iload_n 1, 1) := by decide +kernel
theorem dX7_pass_39 : decode prog_9_method_4_code 39 = .ok (.iconst 4, 1) := by decide +kernel
theorem dX7_pass_40 : decode prog_9_method_4_code 40 = .ok (.imul, 1) := by decide +kernel
theorem dX7_pass_41 : decode prog_9_method_4_code 41 = .ok (.iload_n 3, 1) := by decide +kernel
theorem dX7_pass_42 : decode prog_9_method_4_code 42 = .ok (.iadd, 1) := by decide +kernel
theorem dX7_pass_43 : decode prog_9_method_4_code 43 = .ok (.lload 4, 2) := by decide +kernel
theorem dX7_pass_45 : decode prog_9_method_4_code 45 = .ok (.lload 6, 2) := by decide +kernel
theorem dX7_pass_47 : decode prog_9_method_4_code 47 = .ok (.land, 1) := by decide +kernel
theorem dX7_pass_48 : decode prog_9_method_4_code 48 = .ok (.lastore, 1) := by decide +kernel
theorem dX7_pass_49 : decode prog_9_method_4_code 49 = .ok (.aload_n 0, 1) := by decide +kernel
theorem dX7_pass_50 : decode prog_9_method_4_code 50 = .ok (.getfield 11, 3) := by decide +kernel
theorem dX7_pass_53 : decode prog_9_method_4_code 53 = .ok (.iload_n 2, 1) := by decide +kernel
theorem dX7_pass_54 : decode prog_9_method_4_code 54 = .ok (.iconst 4, 1) := by decide +kernel
theorem dX7_pass_55 : decode prog_9_method_4_code 55 = .ok (.imul, 1) := by decide +kernel
theorem dX7_pass_56 : decode prog_9_method_4_code 56 = .ok (.iload_n 3, 1) := by decide +kernel
theorem dX7_pass_57 : decode prog_9_method_4_code 57 = .ok (.iadd, 1) := by decide +kernel
theorem dX7_pass_58 : decode prog_9_method_4_code 58 = .ok (.lload 4, 2) := by decide +kernel
theorem dX7_pass_60 : decode prog_9_method_4_code 60 = .ok (.lload 6, 2) := by decide +kernel
theorem dX7_pass_62 : decode prog_9_method_4_code 62 = .ok (.lor, 1) := by decide +kernel
theorem dX7_pass_63 : decode prog_9_method_4_code 63 = .ok (.lastore, 1) := by decide +kernel
theorem dX7_pass_64 : decode prog_9_method_4_code 64 = .ok (.iinc 3 1, 3) := by decide +kernel
theorem dX7_pass_67 : decode prog_9_method_4_code 67 = .ok (.goto (-65), 3) := by decide +kernel
theorem dX7_pass_70 : decode prog_9_method_4_code 70 = .ok (.return_, 1) := by decide +kernel
theorem sX7_pass_2 {Q : Hp → Prop} {h : Hp} {l1 l2 l3 : Int}
    (hP : ((l3 ≥ (h 83 2)) →
     Q h) ∧
    ((l3 < (h 83 2)) →
     (rj (l1 * 4) ∧ rj ((l1 * 4) + l3) ∧ ix ((l1 * 4) + l3) 32 ∧ rj (l2 * 4) ∧ rj ((l2 * 4) + l3) ∧ ix ((l2 * 4) + l3) 32 ∧ rj (l3 + 1)) ∧
     E 0 mX7_pass 2 [(0, vr 83), (1, vi l1), (2, vi l2), (3, vi (l3 + 1))] [] (up (up h 84 ((l1 * 4) + l3) (j_land (h 84 ((l1 * 4) + l3)) (h 84 ((l2 * 4) + l3)))) 84 ((l2 * 4) + l3) (j_lor (h 84 ((l1 * 4) + l3)) (h 84 ((l2 * 4) + l3)))) (qv Q))) :
    E 0 mX7_pass 2 [(0, vr 83), (1, vi l1), (2, vi l2), (3, vi l3)] [] h (qv Q) := by
  refine E_iload_n 3 3 dX7_pass_2 rfl rfl ?_
  refine E_aload_n 0 0 dX7_pass_3 rfl rfl ?_
  refine E_gI 2 2 dX7_pass_4 FX7_19 ic_83 rfl ?_
  refine E_icmp_ge 70 dX7_pass_7 rfl (fun hc => ?_) (fun hc => ?_)
  · replace hP := hP.1 (hc)
    exact E_retV dX7_pass_70 rfl hP
  · replace hP := hP.2 (by omega)
    obtain ⟨⟨v3_0, v3_1, v3_2, v3_3, v3_4, v3_5, v3_6⟩, hP⟩ := hP
    refine E_aload_n 0 0 dX7_pass_10 rfl rfl ?_
    refine E_gR 84 0 dX7_pass_11 FX7_11 ic_83 (by decide) ?_
    refine E_iload_n 1 1 dX7_pass_14 rfl rfl ?_
    refine E_iconst dX7_pass_15 (rg_of rfl) ?_
    refine E_imul dX7_pass_16 (rgI v3_0) ?_
    refine E_iload_n 3 3 dX7_pass_17 rfl rfl ?_
    refine E_iadd dX7_pass_18 (rgI v3_1) ?_
    refine E_laload dX7_pass_19 ic_84 v3_2.1 v3_2.2 ?_
    refine E_lstore dX7_pass_20 (by decide) rfl ?_
    refine E_aload_n 1 0 dX7_pass_22 rfl rfl ?_
    refine E_gR 84 0 dX7_pass_23 FX7_11 ic_83 (by decide) ?_
    refine E_iload_n 3 2 dX7_pass_26 rfl rfl ?_
    refine E_iconst dX7_pass_27 (rg_of rfl) ?_
    refine E_imul dX7_pass_28 (rgI v3_3) ?_
    refine E_iload_n 4 3 dX7_pass_29 rfl rfl ?_
    refine E_iadd dX7_pass_30 (rgI v3_4) ?_
    refine E_laload dX7_pass_31 ic_84 v3_5.1 v3_5.2 ?_
    refine E_lstore dX7_pass_32 (by decide) rfl ?_
    refine E_aload_n 2 0 dX7_pass_34 rfl rfl ?_
    refine E_gR 84 0 dX7_pass_35 FX7_11 ic_83 (by decide) ?_
    refine E_iload_n 3 1 dX7_pass_38 rfl rfl ?_
    refine E_iconst dX7_pass_39 (rg_of rfl) ?_
    refine E_imul dX7_pass_40 (rgI v3_0) ?_
    refine E_iload_n 5 3 dX7_pass_41 rfl rfl ?_
    refine E_iadd dX7_pass_42 (rgI v3_1) ?_
    refine E_lload 1 dX7_pass_43 rfl ?_
    refine E_lload 0 dX7_pass_45 rfl ?_
    refine E_land dX7_pass_47 ?_
    refine E_lastore dX7_pass_48 ic_84 v3_2.1 v3_2.2 ?_
    refine E_aload_n 2 0 dX7_pass_49 rfl rfl ?_
    refine E_gR 84 0 dX7_pass_50 FX7_11 ic_83 (by decide) ?_
    refine E_iload_n 4 2 dX7_pass_53 rfl rfl ?_
    refine E_iconst dX7_pass_54 (rg_of rfl) ?_
    refine E_imul dX7_pass_55 (rgI v3_3) ?_
    refine E_iload_n 5 3 dX7_pass_56 rfl rfl ?_
    refine E_iadd dX7_pass_57 (rgI v3_4) ?_
    refine E_lload 1 dX7_pass_58 rfl ?_
    refine E_lload 0 dX7_pass_60 rfl ?_
    refine E_lor dX7_pass_62 ?_
    refine E_lastore dX7_pass_63 ic_84 v3_5.1 v3_5.2 ?_
    refine E_iinc 5 dX7_pass_64 rfl (rgI v3_6) (by decide) rfl ?_
    refine E_goto 2 dX7_pass_67 rfl ?_
    exact E_sub [3, 4, 5, 0] rfl hP
theorem sX7_pass {Q : Hp → Prop} {h : Hp} {l1 l2 : Int}
    (hP : E 0 mX7_pass 2 [(0, vr 83), (1, vi l1), (2, vi l2), (3, vi 0)] [] h (qv Q)) :
    CV 0 mX7_pass [vr 83, vi l1, vi l2] h Q := by
  refine CV_of_E fX7_pass.1 rfl (Nat.le_of_ble_eq_true rfl) ?_
  show E 0 mX7_pass 0 [(0, vr 83), (1, vi l1), (2, vi l2)] [] h (qv Q)
  refine E_iconst dX7_pass_0 (rg_of rfl) ?_
  refine E_istore_n dX7_pass_1 rfl (by decide) rfl ?_
  exact E_sub [1, 2, 3, 0] rfl hP
theorem dX7_passAll_0 : decode prog_9_method_5_code 0 = .ok (.aload_n 0, 1) := by decide +kernel
theorem dX7_passAll_1 : decode prog_9_method_5_code 1 = .ok (.aload_n 1, 1) := by decide +kernel
theorem dX7_passAll_2 : decode prog_9_method_5_code 2 = .ok (.getfield 31, 3) := by decide +kernel
theorem dX7_passAll_5 : decode prog_9_method_5_code 5 = .ok (.invokevirtual 34, 3) := by decide +kernel
theorem dX7_passAll_8 : decode prog_9_method_5_code 8 = .ok (.iconst 0, 1) := by decide +kernel
theorem dX7_passAll_9 : decode prog_9_method_5_code 9 = .ok (.istore_n 3, 1) := by decide +kernel
theorem dX7_passAll_10 : decode prog_9_method_5_code 10 = .ok (.iload_n 3, 1) := by decide +kernel
theorem dX7_passAll_11 : decode prog_9_method_5_code 11 = .ok (.aload_n 1, 1) := by decide +kernel
theorem dX7_passAll_12 : decode prog_9_method_5_code 12 = .ok (.getfield 38, 3) := by decide +kernel
theorem dX7_passAll_15 : decode prog_9_method_5_code 15 = .ok (.if_icmp .ge 30, 3) := by decide +kernel
theorem dX7_passAll_18 : decode prog_9_method_5_code 18 = .ok (.iload_n 3, 1) := by decide +kernel
theorem dX7_passAll_19 : decode prog_9_method_5_code 19 = .ok (.iload_n 2, 1) := by decide +kernel
theorem dX7_passAll_20 : decode prog_9_method_5_code 20 = .ok (.if_icmp .eq 19, 3) := by decide +kernel
theorem dX7_passAll_23 : decode prog_9_method_5_code 23 = .ok (.aload_n 0, 1) := by decide +kernel
theorem dX7_passAll_24 : decode prog_9_method_5_code 24 = .ok (.aload_n 1, 1) := by decide +kernel
theorem dX7_passAll_25 : decode prog_9_method_5_code 25 = .ok (.getfield 41, 3) := by decide +kernel
theorem dX7_passAll_28 : decode prog_9_method_5_code 28 = .ok (.iload_n 3, 1) := by decide +kernel
theorem dX7_passAll_29 : decode prog_9_method_5_code 29 = .ok (.iaload, 1) := by decide +kernel
theorem dX7_passAll_30 : decode prog_9_method_5_code 30 = .ok (.aload_n 1, 1) := by decide +kernel
theorem dX7_passAll_31 : decode prog_9_method_5_code 31 = .ok (.getfield 45, 3) := by decide +kernel
theorem dX7_passAll_34 : decode prog_9_method_5_code 34 = .ok (.iload_n 3, 1) := by decide +kernel
theorem dX7_passAll_35 : decode prog_9_method_5_code 35 = .ok (.iaload, 1) := by decide +kernel
theorem dX7_passAll_36 : decode prog_9_method_5_code 36 = .ok (.invokevirtual 48, 3) := by decide +kernel
theorem dX7_passAll_39 : decode prog_9_method_5_code 39 = .ok (.iinc 3 1, 3) := by decide +kernel
theorem dX7_passAll_42 : decode prog_9_method_5_code 42 = .ok (.goto (-32), 3) := by decide +kernel
theorem dX7_passAll_45 : decode prog_9_method_5_code 45 = .ok (.return_, 1) := by decide +kernel
theorem sX7_passAll_10 {Q : Hp → Prop} {h : Hp} {a1 l2 l3 : Int}
    (hP : (nA a1) ∧
    ((l3 ≥ (h a1 1)) →
     Q h) ∧
    ((l3 < (h a1 1)) →
     ((l3 = l2) →
      (rj (l3 + 1)) ∧
      E 2 mX7_passAll 10 [(0, vr 83), (1, vr a1), (2, vi l2), (3, vi (l3 + 1))] [] h (qv Q)) ∧
     ((l3 ≠ l2) →
      (nA a1 ∧ ix l3 40) ∧
      CV 0 mX7_pass [vr 83, vi (h (a1 + 1) l3), vi (h (a1 + 2) l3)] h (fun h6 =>
       (rj (l3 + 1)) ∧
       E 2 mX7_passAll 10 [(0, vr 83), (1, vr a1), (2, vi l2), (3, vi (l3 + 1))] [] h6 (qv Q))))) :
    E 2 mX7_passAll 10 [(0, vr 83), (1, vr a1), (2, vi l2), (3, vi l3)] [] h (qv Q) := by
  obtain ⟨v1_0, hP⟩ := hP
  refine E_iload_n 3 3 dX7_passAll_10 rfl rfl ?_
  refine E_aload_n 1 1 dX7_passAll_11 rfl rfl ?_
  refine E_gI 1 1 dX7_passAll_12 FX7_38 (icN0 v1_0) rfl ?_
  refine E_icmp_ge 45 dX7_passAll_15 rfl (fun hc => ?_) (fun hc => ?_)
  · replace hP := hP.1 (hc)
    exact E_retV dX7_passAll_45 rfl hP
  · replace hP := hP.2 (by omega)
    refine E_iload_n 3 3 dX7_passAll_18 rfl rfl ?_
    refine E_iload_n 2 2 dX7_passAll_19 rfl rfl ?_
    refine E_icmp_eq 39 dX7_passAll_20 rfl (fun hc => ?_) (fun hc => ?_)
    · replace hP := hP.1 (hc)
      obtain ⟨v4_0, hP⟩ := hP
      refine E_iinc 3 dX7_passAll_39 rfl (rgI v4_0) (by decide) rfl ?_
      refine E_goto 10 dX7_passAll_42 rfl ?_
      exact E_sub [1, 2, 3, 0] rfl hP
    · replace hP := hP.2 (by omega)
      obtain ⟨⟨v5_0, v5_1⟩, hP⟩ := hP
      refine E_aload_n 0 0 dX7_passAll_23 rfl rfl ?_
      refine E_aload_n 1 1 dX7_passAll_24 rfl rfl ?_
      refine E_gR (a1 + 1) 2 dX7_passAll_25 FX7_41 (icN0 v5_0) (rfN2 v5_0) ?_
      refine E_iload_n 3 3 dX7_passAll_28 rfl rfl ?_
      refine E_iaload dX7_passAll_29 (icN1 v5_0) v5_1.1 v5_1.2 ?_
      refine E_aload_n 1 1 dX7_passAll_30 rfl rfl ?_
      refine E_gR (a1 + 2) 3 dX7_passAll_31 FX7_45 (icN0 v5_0) (rfN3 v5_0) ?_
      refine E_iload_n 3 3 dX7_passAll_34 rfl rfl ?_
      refine E_iaload dX7_passAll_35 (icN2 v5_0) v5_1.1 v5_1.2 ?_
      refine E_invVV [vi (h (a1 + 1) l3), vi (h (a1 + 2) l3)] dX7_passAll_36 fX7_pass lX7_48 ic_83 rfl (by decide) rfl rfl (Nat.le_of_ble_eq_true rfl) (CV_mono hP (fun h6 hP => ?_))
      obtain ⟨v7_0, hP⟩ := hP
      refine E_iinc 3 dX7_passAll_39 rfl (rgI v7_0) (by decide) rfl ?_
      refine E_goto 10 dX7_passAll_42 rfl ?_
      exact E_sub [1, 2, 3, 0] rfl hP
theorem sX7_passAll {Q : Hp → Prop} {h : Hp} {a1 l2 : Int}
    (hP : (nA a1) ∧
    CV 1 mX7_start [vr 83, vi (h a1 0)] h (fun h2 =>
     E 2 mX7_passAll 10 [(0, vr 83), (1, vr a1), (2, vi l2), (3, vi 0)] [] h2 (qv Q))) :
    CV 2 mX7_passAll [vr 83, vr a1, vi l2] h Q := by
  refine CV_of_E fX7_passAll.1 rfl (Nat.le_of_ble_eq_true rfl) ?_
  show E 2 mX7_passAll 0 [(0, vr 83), (1, vr a1), (2, vi l2)] [] h (qv Q)
  obtain ⟨v1_0, hP⟩ := hP
  refine E_aload_n 0 0 dX7_passAll_0 rfl rfl ?_
  refine E_aload_n 1 1 dX7_passAll_1 rfl rfl ?_
  refine E_gI 0 0 dX7_passAll_2 FX7_31 (icN0 v1_0) rfl ?_
  refine E_invVV [vi (h a1 0)] dX7_passAll_5 fX7_start lX7_34 ic_83 rfl (by decide) rfl rfl (Nat.le_of_ble_eq_true rfl) (CV_mono hP (fun h2 hP => ?_))
  refine E_iconst dX7_passAll_8 (rg_of rfl) ?_
  refine E_istore_n dX7_passAll_9 rfl (by decide) rfl ?_
  exact E_sub [1, 2, 3, 0] rfl hP
theorem dX7_exchanges_0 : decode prog_9_method_6_code 0 = .ok (.iconst 0, 1) := by decide +kernel
theorem dX7_exchanges_1 : decode prog_9_method_6_code 1 = .ok (.istore_n 3, 1) := by decide +kernel
theorem dX7_exchanges_2 : decode prog_9_method_6_code 2 = .ok (.iload_n 3, 1) := by decide +kernel
theorem dX7_exchanges_3 : decode prog_9_method_6_code 3 = .ok (.aload_n 0, 1) := by decide +kernel
theorem dX7_exchanges_4 : decode prog_9_method_6_code 4 = .ok (.getfield 19, 3) := by decide +kernel
theorem dX7_exchanges_7 : decode prog_9_method_6_code 7 = .ok (.if_icmp .ge 41, 3) := by decide +kernel
theorem dX7_exchanges_10 : decode prog_9_method_6_code 10 = .ok (.aload_n 0, 1) := by decide +kernel
theorem dX7_exchanges_11 : decode prog_9_method_6_code 11 = .ok (.getfield 11, 3) := by decide +kernel
theorem dX7_exchanges_14 : decode prog_9_method_6_code 14 = .ok (.iload_n 1, 1) := by decide +kernel
theorem dX7_exchanges_15 : decode prog_9_method_6_code 15 = .ok (.iconst 4, 1) := by decide +kernel
theorem dX7_exchanges_16 : decode prog_9_method_6_code 16 = .ok (.imul, 1) := by decide +kernel
theorem dX7_exchanges_17 : decode prog_9_method_6_code 17 = .ok (.iload_n 3, 1) := by decide +kernel
theorem dX7_exchanges_18 : decode prog_9_method_6_code 18 = .ok (.iadd, 1) := by decide +kernel
theorem dX7_exchanges_19 : decode prog_9_method_6_code 19 = .ok (.laload, 1) := by decide +kernel
theorem dX7_exchanges_20 : decode prog_9_method_6_code 20 = .ok (.aload_n 0, 1) := by decide +kernel
theorem dX7_exchanges_21 : decode prog_9_method_6_code 21 = .ok (.getfield 11, 3) := by decide +kernel
theorem dX7_exchanges_24 : decode prog_9_method_6_code 24 = .ok (.iload_n 2, 1) := by decide +kernel
theorem dX7_exchanges_25 : decode prog_9_method_6_code 25 = .ok (.iconst 4, 1) := by decide +kernel
theorem dX7_exchanges_26 : decode prog_9_method_6_code 26 = .ok (.imul, 1) := by decide +kernel
theorem dX7_exchanges_27 : decode prog_9_method_6_code 27 = .ok (.iload_n 3, 1) := by decide +kernel
theorem dX7_exchanges_28 : decode prog_9_method_6_code 28 = .ok (.iadd, 1) := by decide +kernel
theorem dX7_exchanges_29 : decode prog_9_method_6_code 29 = .ok (.laload, 1) := by decide +kernel
theorem dX7_exchanges_30 : decode prog_9_method_6_code 30 = .ok (.ldc2_w 29, 3) := by decide +kernel
theorem dX7_exchanges_33 : decode prog_9_method_6_code 33 = .ok (.lxor, 1) := by decide +kernel
theorem dX7_exchanges_34 : decode prog_9_method_6_code 34 = .ok (.land, 1) := by decide +kernel
theorem dX7_exchanges_35 : decode prog_9_method_6_code 35 = .ok (.lconst 0, 1) := by decide +kernel
theorem dX7_exchanges_36 : decode prog_9_method_6_code 36 = .ok (.lcmp, 1) := by decide +kernel
theorem dX7_exchanges_37 : decode prog_9_method_6_code 37 = .ok (.ifCond .eq 5, 3) := by decide +kernel
theorem dX7_exchanges_40 : decode prog_9_method_6_code 40 = .ok (.iconst 1, 1) := by decide +kernel
theorem dX7_exchanges_41 : decode prog_9_method_6_code 41 = .ok (.ireturn, 1) := by decide +kernel
theorem dX7_exchanges_42 : decode prog_9_method_6_code 42 = .ok (.iinc 3 1, 3) := by decide +kernel
theorem dX7_exchanges_45 : decode prog_9_method_6_code 45 = .ok (.goto (-43), 3) := by decide +kernel
theorem dX7_exchanges_48 : decode prog_9_method_6_code 48 = .ok (.iconst 0, 1) := by decide +kernel
theorem dX7_exchanges_49 : decode prog_9_method_6_code 49 = .ok (.ireturn, 1) := by decide +kernel
theorem sX7_exchanges_2 {Q : Int → Hp → Prop} {h : Hp} {l1 l2 l3 : Int}
    (hP : ((l3 ≥ (h 83 2)) →
     Q 0 h) ∧
    ((l3 < (h 83 2)) →
     (rj (l1 * 4) ∧ rj ((l1 * 4) + l3) ∧ ix ((l1 * 4) + l3) 32 ∧ rj (l2 * 4) ∧ rj ((l2 * 4) + l3) ∧ ix ((l2 * 4) + l3) 32) ∧
     (((j_lcmp (j_land (h 84 ((l1 * 4) + l3)) (j_lxor (h 84 ((l2 * 4) + l3)) (-1))) 0) = 0) →
      (rj (l3 + 1)) ∧
      E 0 mX7_exchanges 2 [(0, vr 83), (1, vi l1), (2, vi l2), (3, vi (l3 + 1))] [] h (qi Q)) ∧
     (((j_lcmp (j_land (h 84 ((l1 * 4) + l3)) (j_lxor (h 84 ((l2 * 4) + l3)) (-1))) 0) ≠ 0) →
      Q 1 h))) :
    E 0 mX7_exchanges 2 [(0, vr 83), (1, vi l1), (2, vi l2), (3, vi l3)] [] h (qi Q) := by
  refine E_iload_n 3 3 dX7_exchanges_2 rfl rfl ?_
  refine E_aload_n 0 0 dX7_exchanges_3 rfl rfl ?_
  refine E_gI 2 2 dX7_exchanges_4 FX7_19 ic_83 rfl ?_
  refine E_icmp_ge 48 dX7_exchanges_7 rfl (fun hc => ?_) (fun hc => ?_)
  · replace hP := hP.1 (hc)
    refine E_iconst dX7_exchanges_48 (rg_of rfl) ?_
    exact E_retZ dX7_exchanges_49 rfl (Or.inl rfl) hP
  · replace hP := hP.2 (by omega)
    obtain ⟨⟨v3_0, v3_1, v3_2, v3_3, v3_4, v3_5⟩, hP⟩ := hP
    refine E_aload_n 0 0 dX7_exchanges_10 rfl rfl ?_
    refine E_gR 84 0 dX7_exchanges_11 FX7_11 ic_83 (by decide) ?_
    refine E_iload_n 1 1 dX7_exchanges_14 rfl rfl ?_
    refine E_iconst dX7_exchanges_15 (rg_of rfl) ?_
    refine E_imul dX7_exchanges_16 (rgI v3_0) ?_
    refine E_iload_n 3 3 dX7_exchanges_17 rfl rfl ?_
    refine E_iadd dX7_exchanges_18 (rgI v3_1) ?_
    refine E_laload dX7_exchanges_19 ic_84 v3_2.1 v3_2.2 ?_
    refine E_aload_n 0 0 dX7_exchanges_20 rfl rfl ?_
    refine E_gR 84 0 dX7_exchanges_21 FX7_11 ic_83 (by decide) ?_
    refine E_iload_n 2 2 dX7_exchanges_24 rfl rfl ?_
    refine E_iconst dX7_exchanges_25 (rg_of rfl) ?_
    refine E_imul dX7_exchanges_26 (rgI v3_3) ?_
    refine E_iload_n 3 3 dX7_exchanges_27 rfl rfl ?_
    refine E_iadd dX7_exchanges_28 (rgI v3_4) ?_
    refine E_laload dX7_exchanges_29 ic_84 v3_5.1 v3_5.2 ?_
    refine E_ldc2 (z := (-1)) dX7_exchanges_30 kX7_29 (by decide) ?_
    refine E_lxor dX7_exchanges_33 ?_
    refine E_land dX7_exchanges_34 ?_
    refine E_lc 0 dX7_exchanges_35 rfl ?_
    refine E_lcmp dX7_exchanges_36 ?_
    refine E_if_eq 42 dX7_exchanges_37 rfl (fun hc => ?_) (fun hc => ?_)
    · replace hP := hP.1 (hc)
      obtain ⟨v4_0, hP⟩ := hP
      refine E_iinc 3 dX7_exchanges_42 rfl (rgI v4_0) (by decide) rfl ?_
      refine E_goto 2 dX7_exchanges_45 rfl ?_
      exact E_sub [1, 2, 3, 0] rfl hP
    · replace hP := hP.2 (by omega)
      refine E_iconst dX7_exchanges_40 (rg_of rfl) ?_
      exact E_retZ dX7_exchanges_41 rfl (Or.inr rfl) hP
theorem sX7_exchanges {Q : Int → Hp → Prop} {h : Hp} {l1 l2 : Int}
    (hP : E 0 mX7_exchanges 2 [(0, vr 83), (1, vi l1), (2, vi l2), (3, vi 0)] [] h (qi Q)) :
    CI 0 mX7_exchanges [vr 83, vi l1, vi l2] h Q := by
  refine CI_of_E fX7_exchanges.1 rfl (Nat.le_of_ble_eq_true rfl) ?_
  show E 0 mX7_exchanges 0 [(0, vr 83), (1, vi l1), (2, vi l2)] [] h (qi Q)
  refine E_iconst dX7_exchanges_0 (rg_of rfl) ?_
  refine E_istore_n dX7_exchanges_1 rfl (by decide) rfl ?_
  exact E_sub [1, 2, 3, 0] rfl hP
theorem dX7_failures_0 : decode prog_9_method_7_code 0 = .ok (.lconst 0, 1) := by decide +kernel
theorem dX7_failures_1 : decode prog_9_method_7_code 1 = .ok (.lstore_n 2, 1) := by decide +kernel
theorem dX7_failures_2 : decode prog_9_method_7_code 2 = .ok (.iconst 0, 1) := by decide +kernel
theorem dX7_failures_3 : decode prog_9_method_7_code 3 = .ok (.istore 4, 2) := by decide +kernel
theorem dX7_failures_5 : decode prog_9_method_7_code 5 = .ok (.iload 4, 2) := by decide +kernel
theorem dX7_failures_7 : decode prog_9_method_7_code 7 = .ok (.iconst 1, 1) := by decide +kernel
theorem dX7_failures_8 : decode prog_9_method_7_code 8 = .ok (.iadd, 1) := by decide +kernel
theorem dX7_failures_9 : decode prog_9_method_7_code 9 = .ok (.aload_n 0, 1) := by decide +kernel
theorem dX7_failures_10 : decode prog_9_method_7_code 10 = .ok (.getfield 15, 3) := by decide +kernel
theorem dX7_failures_13 : decode prog_9_method_7_code 13 = .ok (.if_icmp .ge 41, 3) := by decide +kernel
theorem dX7_failures_16 : decode prog_9_method_7_code 16 = .ok (.lload_n 2, 1) := by decide +kernel
theorem dX7_failures_17 : decode prog_9_method_7_code 17 = .ok (.aload_n 0, 1) := by decide +kernel
theorem dX7_failures_18 : decode prog_9_method_7_code 18 = .ok (.getfield 11, 3) := by decide +kernel
theorem dX7_failures_21 : decode prog_9_method_7_code 21 = .ok (.iload 4, 2) := by decide +kernel
theorem dX7_failures_23 : decode prog_9_method_7_code 23 = .ok (.iconst 4, 1) := by decide +kernel
theorem dX7_failures_24 : decode prog_9_method_7_code 24 = .ok (.imul, 1) := by decide +kernel
theorem dX7_failures_25 : decode prog_9_method_7_code 25 = .ok (.iload_n 1, 1) := by decide +kernel
theorem dX7_failures_26 : decode prog_9_method_7_code 26 = .ok (.iadd, 1) := by decide +kernel
theorem dX7_failures_27 : decode prog_9_method_7_code 27 = .ok (.laload, 1) := by decide +kernel
theorem dX7_failures_28 : decode prog_9_method_7_code 28 = .ok (.aload_n 0, 1) := by decide +kernel
theorem dX7_failures_29 : decode prog_9_method_7_code 29 = .ok (.getfield 11, 3) := by decide +kernel
theorem dX7_failures_32 : decode prog_9_method_7_code 32 = .ok (.iload 4, 2) := by decide +kernel
theorem dX7_failures_34 : decode prog_9_method_7_code 34 = .ok (.iconst 1, 1) := by decide +kernel
theorem dX7_failures_35 : decode prog_9_method_7_code 35 = .ok (.iadd, 1) := by decide +kernel
theorem dX7_failures_36 : decode prog_9_method_7_code 36 = .ok (.iconst 4, 1) := by decide +kernel
theorem dX7_failures_37 : decode prog_9_method_7_code 37 = .ok (.imul, 1) := by decide +kernel
theorem dX7_failures_38 : decode prog_9_method_7_code 38 = .ok (.iload_n 1, 1) := by decide +kernel
theorem dX7_failures_39 : decode prog_9_method_7_code 39 = .ok (.iadd, 1) := by decide +kernel
theorem dX7_failures_40 : decode prog_9_method_7_code 40 = .ok (.laload, 1) := by decide +kernel
theorem dX7_failures_41 : decode prog_9_method_7_code 41 = .ok (.ldc2_w 29, 3) := by decide +kernel
theorem dX7_failures_44 : decode prog_9_method_7_code 44 = .ok (.lxor, 1) := by decide +kernel
theorem dX7_failures_45 : decode prog_9_method_7_code 45 = .ok (.land, 1) := by decide +kernel
theorem dX7_failures_46 : decode prog_9_method_7_code 46 = .ok (.lor, 1) := by decide +kernel
theorem dX7_failures_47 : decode prog_9_method_7_code 47 = .ok (.lstore_n 2, 1) := by decide +kernel
theorem dX7_failures_48 : decode prog_9_method_7_code 48 = .ok (.iinc 4 1, 3) := by decide +kernel
theorem dX7_failures_51 : decode prog_9_method_7_code 51 = .ok (.goto (-46), 3) := by decide +kernel
theorem dX7_failures_54 : decode prog_9_method_7_code 54 = .ok (.lload_n 2, 1) := by decide +kernel
theorem dX7_failures_55 : decode prog_9_method_7_code 55 = .ok (.lreturn, 1) := by decide +kernel
theorem sX7_failures_5 {Q : Int → Hp → Prop} {h : Hp} {l1 l2 l4 : Int}
    (hP : (rj (l4 + 1)) ∧
    (((l4 + 1) ≥ (h 83 1)) →
     Q l2 h) ∧
    (((l4 + 1) < (h 83 1)) →
     (rj (l4 * 4) ∧ rj ((l4 * 4) + l1) ∧ ix ((l4 * 4) + l1) 32 ∧ rj (l4 + 1) ∧ rj ((l4 + 1) * 4) ∧ rj (((l4 + 1) * 4) + l1) ∧ ix (((l4 + 1) * 4) + l1) 32) ∧
     E 0 mX7_failures 5 [(0, vr 83), (1, vi l1), (2, vl (j_lor l2 (j_land (h 84 ((l4 * 4) + l1)) (j_lxor (h 84 (((l4 + 1) * 4) + l1)) (-1))))), (4, vi (l4 + 1))] [] h (ql Q))) :
    E 0 mX7_failures 5 [(0, vr 83), (1, vi l1), (2, vl l2), (4, vi l4)] [] h (ql Q) := by
  obtain ⟨v1_0, hP⟩ := hP
  refine E_iload 3 dX7_failures_5 rfl ?_
  refine E_iconst dX7_failures_7 (rg_of rfl) ?_
  refine E_iadd dX7_failures_8 (rgI v1_0) ?_
  refine E_aload_n 0 0 dX7_failures_9 rfl rfl ?_
  refine E_gI 1 1 dX7_failures_10 FX7_15 ic_83 rfl ?_
  refine E_icmp_ge 54 dX7_failures_13 rfl (fun hc => ?_) (fun hc => ?_)
  · replace hP := hP.1 (hc)
    refine E_lload_n 2 2 dX7_failures_54 rfl rfl ?_
    exact E_retL dX7_failures_55 rfl hP
  · replace hP := hP.2 (by omega)
    obtain ⟨⟨v3_0, v3_1, v3_2, v3_3, v3_4, v3_5, v3_6⟩, hP⟩ := hP
    refine E_lload_n 2 2 dX7_failures_16 rfl rfl ?_
    refine E_aload_n 0 0 dX7_failures_17 rfl rfl ?_
    refine E_gR 84 0 dX7_failures_18 FX7_11 ic_83 (by decide) ?_
    refine E_iload 3 dX7_failures_21 rfl ?_
    refine E_iconst dX7_failures_23 (rg_of rfl) ?_
    refine E_imul dX7_failures_24 (rgI v3_0) ?_
    refine E_iload_n 1 1 dX7_failures_25 rfl rfl ?_
    refine E_iadd dX7_failures_26 (rgI v3_1) ?_
    refine E_laload dX7_failures_27 ic_84 v3_2.1 v3_2.2 ?_
    refine E_aload_n 0 0 dX7_failures_28 rfl rfl ?_
    refine E_gR 84 0 dX7_failures_29 FX7_11 ic_83 (by decide) ?_
    refine E_iload 3 dX7_failures_32 rfl ?_
    refine E_iconst dX7_failures_34 (rg_of rfl) ?_
    refine E_iadd dX7_failures_35 (rgI v3_3) ?_
    refine E_iconst dX7_failures_36 (rg_of rfl) ?_
    refine E_imul dX7_failures_37 (rgI v3_4) ?_
    refine E_iload_n 1 1 dX7_failures_38 rfl rfl ?_
    refine E_iadd dX7_failures_39 (rgI v3_5) ?_
    refine E_laload dX7_failures_40 ic_84 v3_6.1 v3_6.2 ?_
    refine E_ldc2 (z := (-1)) dX7_failures_41 kX7_29 (by decide) ?_
    refine E_lxor dX7_failures_44 ?_
    refine E_land dX7_failures_45 ?_
    refine E_lor dX7_failures_46 ?_
    refine E_lstore_n dX7_failures_47 rfl (by decide) rfl ?_
    refine E_iinc 3 dX7_failures_48 rfl (rgI v3_3) (by decide) rfl ?_
    refine E_goto 5 dX7_failures_51 rfl ?_
    exact E_sub [2, 3, 1, 0] rfl hP
theorem sX7_failures {Q : Int → Hp → Prop} {h : Hp} {l1 : Int}
    (hP : E 0 mX7_failures 5 [(0, vr 83), (1, vi l1), (2, vl 0), (4, vi 0)] [] h (ql Q)) :
    CL 0 mX7_failures [vr 83, vi l1] h Q := by
  refine CL_of_E fX7_failures.1 rfl (Nat.le_of_ble_eq_true rfl) ?_
  show E 0 mX7_failures 0 [(0, vr 83), (1, vi l1)] [] h (ql Q)
  refine E_lc 0 dX7_failures_0 rfl ?_
  refine E_lstore_n dX7_failures_1 rfl (by decide) rfl ?_
  refine E_iconst dX7_failures_2 (rg_of rfl) ?_
  refine E_istore dX7_failures_3 (by decide) rfl ?_
  exact E_sub [2, 3, 1, 0] rfl hP
theorem dX7_lowestFailure_0 : decode prog_9_method_8_code 0 = .ok (.iconst 0, 1) := by decide +kernel
theorem dX7_lowestFailure_1 : decode prog_9_method_8_code 1 = .ok (.istore_n 1, 1) := by decide +kernel
theorem dX7_lowestFailure_2 : decode prog_9_method_8_code 2 = .ok (.iload_n 1, 1) := by decide +kernel
theorem dX7_lowestFailure_3 : decode prog_9_method_8_code 3 = .ok (.aload_n 0, 1) := by decide +kernel
theorem dX7_lowestFailure_4 : decode prog_9_method_8_code 4 = .ok (.getfield 19, 3) := by decide +kernel
theorem dX7_lowestFailure_7 : decode prog_9_method_8_code 7 = .ok (.if_icmp .ge 43, 3) := by decide +kernel
theorem dX7_lowestFailure_10 : decode prog_9_method_8_code 10 = .ok (.aload_n 0, 1) := by decide +kernel
theorem dX7_lowestFailure_11 : decode prog_9_method_8_code 11 = .ok (.iload_n 1, 1) := by decide +kernel
theorem dX7_lowestFailure_12 : decode prog_9_method_8_code 12 = .ok (.invokevirtual 52, 3) := by decide +kernel
theorem dX7_lowestFailure_15 : decode prog_9_method_8_code 15 = .ok (.lstore_n 2, 1) := by decide +kernel
theorem dX7_lowestFailure_16 : decode prog_9_method_8_code 16 = .ok (.lload_n 2, 1) := by decide +kernel
theorem dX7_lowestFailure_17 : decode prog_9_method_8_code 17 = .ok (.lconst 0, 1) := by decide +kernel
theorem dX7_lowestFailure_18 : decode prog_9_method_8_code 18 = .ok (.lcmp, 1) := by decide +kernel
theorem dX7_lowestFailure_19 : decode prog_9_method_8_code 19 = .ok (.ifCond .eq 25, 3) := by decide +kernel
theorem dX7_lowestFailure_22 : decode prog_9_method_8_code 22 = .ok (.lload_n 2, 1) := by decide +kernel
theorem dX7_lowestFailure_23 : decode prog_9_method_8_code 23 = .ok (.ldc2_w 29, 3) := by decide +kernel
theorem dX7_lowestFailure_26 : decode prog_9_method_8_code 26 = .ok (.lxor, 1) := by decide +kernel
theorem dX7_lowestFailure_27 : decode prog_9_method_8_code 27 = .ok (.lload_n 2, 1) := by decide +kernel
theorem dX7_lowestFailure_28 : decode prog_9_method_8_code 28 = .ok (.lconst 1, 1) := by decide +kernel
theorem dX7_lowestFailure_29 : decode prog_9_method_8_code 29 = .ok (.lsub, 1) := by decide +kernel
theorem dX7_lowestFailure_30 : decode prog_9_method_8_code 30 = .ok (.land, 1) := by decide +kernel
theorem dX7_lowestFailure_31 : decode prog_9_method_8_code 31 = .ok (.lstore 4, 2) := by decide +kernel
theorem dX7_lowestFailure_33 : decode prog_9_method_8_code 33 = .ok (.iload_n 1, 1) := by decide +kernel
theorem dX7_lowestFailure_34 : decode prog_9_method_8_code 34 = .ok (.bipush 64, 2) := by decide +kernel
theorem dX7_lowestFailure_36 : decode prog_9_method_8_code 36 = .ok (.imul, 1) := by decide +kernel
theorem dX7_lowestFailure_37 : decode prog_9_method_8_code 37 = .ok (.lload 4, 2) := by decide +kernel
theorem dX7_lowestFailure_39 : decode prog_9_method_8_code 39 = .ok (.invokestatic 56, 3) := by decide +kernel
theorem dX7_lowestFailure_42 : decode prog_9_method_8_code 42 = .ok (.iadd, 1) := by decide +kernel
theorem dX7_lowestFailure_43 : decode prog_9_method_8_code 43 = .ok (.ireturn, 1) := by decide +kernel
theorem dX7_lowestFailure_44 : decode prog_9_method_8_code 44 = .ok (.iinc 1 1, 3) := by decide +kernel
theorem dX7_lowestFailure_47 : decode prog_9_method_8_code 47 = .ok (.goto (-45), 3) := by decide +kernel
theorem dX7_lowestFailure_50 : decode prog_9_method_8_code 50 = .ok (.iconst (-1), 1) := by decide +kernel
theorem dX7_lowestFailure_51 : decode prog_9_method_8_code 51 = .ok (.ireturn, 1) := by decide +kernel
theorem sX7_lowestFailure_2 {Q : Int → Hp → Prop} {h : Hp} {l1 : Int}
    (hP : ((l1 ≥ (h 83 2)) →
     Q (-1) h) ∧
    ((l1 < (h 83 2)) →
     CL 0 mX7_failures [vr 83, vi l1] h (fun r5 h4 =>
      (((j_lcmp r5 0) = 0) →
       (rj (l1 + 1)) ∧
       E 1 mX7_lowestFailure 2 [(0, vr 83), (1, vi (l1 + 1))] [] h4 (qi Q)) ∧
      (((j_lcmp r5 0) ≠ 0) →
       (rj (l1 * 64)) ∧
       CI 0 mJ13_bitCount_95d88 [vl (j_land (j_lxor r5 (-1)) (j_lsub r5 1))] h4 (fun r10 h9 =>
        (rj ((l1 * 64) + r10)) ∧
        Q ((l1 * 64) + r10) h9))))) :
    E 1 mX7_lowestFailure 2 [(0, vr 83), (1, vi l1)] [] h (qi Q) := by
  refine E_iload_n 1 1 dX7_lowestFailure_2 rfl rfl ?_
  refine E_aload_n 0 0 dX7_lowestFailure_3 rfl rfl ?_
  refine E_gI 2 2 dX7_lowestFailure_4 FX7_19 ic_83 rfl ?_
  refine E_icmp_ge 50 dX7_lowestFailure_7 rfl (fun hc => ?_) (fun hc => ?_)
  · replace hP := hP.1 (hc)
    refine E_iconst dX7_lowestFailure_50 (rg_of rfl) ?_
    exact E_retI dX7_lowestFailure_51 rfl hP
  · replace hP := hP.2 (by omega)
    refine E_aload_n 0 0 dX7_lowestFailure_10 rfl rfl ?_
    refine E_iload_n 1 1 dX7_lowestFailure_11 rfl rfl ?_
    refine E_invVL [vi l1] dX7_lowestFailure_12 fX7_failures lX7_52 ic_83 rfl (by decide) rfl rfl (Nat.le_of_ble_eq_true rfl) (CL_mono hP (fun r5 h4 hP => ?_))
    refine E_lstore_n dX7_lowestFailure_15 rfl (by decide) rfl ?_
    refine E_lload_n 0 2 dX7_lowestFailure_16 rfl rfl ?_
    refine E_lc 0 dX7_lowestFailure_17 rfl ?_
    refine E_lcmp dX7_lowestFailure_18 ?_
    refine E_if_eq 44 dX7_lowestFailure_19 rfl (fun hc => ?_) (fun hc => ?_)
    · replace hP := hP.1 (hc)
      obtain ⟨v7_0, hP⟩ := hP
      refine E_iinc 2 dX7_lowestFailure_44 rfl (rgI v7_0) (by decide) rfl ?_
      refine E_goto 2 dX7_lowestFailure_47 rfl ?_
      exact E_sub [2, 0] rfl hP
    · replace hP := hP.2 (by omega)
      obtain ⟨v8_0, hP⟩ := hP
      refine E_lload_n 0 2 dX7_lowestFailure_22 rfl rfl ?_
      refine E_ldc2 (z := (-1)) dX7_lowestFailure_23 kX7_29 (by decide) ?_
      refine E_lxor dX7_lowestFailure_26 ?_
      refine E_lload_n 0 2 dX7_lowestFailure_27 rfl rfl ?_
      refine E_lc 1 dX7_lowestFailure_28 rfl ?_
      refine E_lsub dX7_lowestFailure_29 ?_
      refine E_land dX7_lowestFailure_30 ?_
      refine E_lstore dX7_lowestFailure_31 (by decide) rfl ?_
      refine E_iload_n 3 1 dX7_lowestFailure_33 rfl rfl ?_
      refine E_bipush dX7_lowestFailure_34 (by decide) ?_
      refine E_imul dX7_lowestFailure_36 (rgI v8_0) ?_
      refine E_lload 0 dX7_lowestFailure_37 rfl ?_
      refine E_invSI [vl (j_land (j_lxor r5 (-1)) (j_lsub r5 1))] dX7_lowestFailure_39 fJ13_bitCount_95d88 lX7_56 (by decide) rfl rfl (Nat.le_of_ble_eq_true rfl) (CI_mono hP (fun r10 h9 hP => ?_))
      obtain ⟨v11_0, hP⟩ := hP
      refine E_iadd dX7_lowestFailure_42 (rgI v11_0) ?_
      exact E_retI dX7_lowestFailure_43 rfl hP
theorem sX7_lowestFailure {Q : Int → Hp → Prop} {h : Hp}
    (hP : E 1 mX7_lowestFailure 2 [(0, vr 83), (1, vi 0)] [] h (qi Q)) :
    CI 1 mX7_lowestFailure [vr 83] h Q := by
  refine CI_of_E fX7_lowestFailure.1 rfl (Nat.le_of_ble_eq_true rfl) ?_
  show E 1 mX7_lowestFailure 0 [(0, vr 83)] [] h (qi Q)
  refine E_iconst dX7_lowestFailure_0 (rg_of rfl) ?_
  refine E_istore_n dX7_lowestFailure_1 rfl (by decide) rfl ?_
  exact E_sub [1, 0] rfl hP
theorem dX10_oneIf_0 : decode prog_1_method_53_code 0 = .ok (.iload_n 0, 1) := by decide +kernel
theorem dX10_oneIf_1 : decode prog_1_method_53_code 1 = .ok (.ifCond .eq 7, 3) := by decide +kernel
theorem dX10_oneIf_4 : decode prog_1_method_53_code 4 = .ok (.iconst 1, 1) := by decide +kernel
theorem dX10_oneIf_5 : decode prog_1_method_53_code 5 = .ok (.goto 4, 3) := by decide +kernel
theorem dX10_oneIf_8 : decode prog_1_method_53_code 8 = .ok (.iconst 0, 1) := by decide +kernel
theorem dX10_oneIf_9 : decode prog_1_method_53_code 9 = .ok (.ireturn, 1) := by decide +kernel
theorem sX10_oneIf {Q : Int → Hp → Prop} {h : Hp} {l0 : Int}
    (hP : Q (if l0 ≠ 0 then (1 : Int) else 0) h) :
    CI 0 mX10_oneIf [vi l0] h Q := by
  refine CI_of_E fX10_oneIf.1 rfl (Nat.le_of_ble_eq_true rfl) ?_
  show E 0 mX10_oneIf 0 [(0, vi l0)] [] h (qi Q)
  refine E_iload_n 0 0 dX10_oneIf_0 rfl rfl ?_
  have hJ : E 0 mX10_oneIf 9 [(0, vi l0)] [vi (if l0 ≠ 0 then (1 : Int) else 0)] h (qi Q) := by
    exact E_retI dX10_oneIf_9 rfl hP
  refine E_if_eq 8 dX10_oneIf_1 rfl (fun hc => ?_) (fun hc => ?_)
  · have hp1 := (hc : l0 = 0)
    refine E_iconst dX10_oneIf_8 (rg_of rfl) ?_
    exact E_top (if_neg (by omega)).symm hJ
  · have hp1 := (by omega : l0 ≠ 0)
    refine E_iconst dX10_oneIf_4 (rg_of rfl) ?_
    refine E_goto 9 dX10_oneIf_5 rfl ?_
    exact E_top (if_pos (by omega)).symm hJ
theorem dX7_selects_0 : decode prog_9_method_11_code 0 = .ok (.iconst 0, 1) := by decide +kernel
theorem dX7_selects_1 : decode prog_9_method_11_code 1 = .ok (.istore_n 2, 1) := by decide +kernel
theorem dX7_selects_2 : decode prog_9_method_11_code 2 = .ok (.iload_n 2, 1) := by decide +kernel
theorem dX7_selects_3 : decode prog_9_method_11_code 3 = .ok (.iconst 1, 1) := by decide +kernel
theorem dX7_selects_4 : decode prog_9_method_11_code 4 = .ok (.aload_n 0, 1) := by decide +kernel
theorem dX7_selects_5 : decode prog_9_method_11_code 5 = .ok (.getfield 15, 3) := by decide +kernel
theorem dX7_selects_8 : decode prog_9_method_11_code 8 = .ok (.ishl, 1) := by decide +kernel
theorem dX7_selects_9 : decode prog_9_method_11_code 9 = .ok (.if_icmp .ge 43, 3) := by decide +kernel
theorem dX7_selects_12 : decode prog_9_method_11_code 12 = .ok (.aload_n 0, 1) := by decide +kernel
theorem dX7_selects_13 : decode prog_9_method_11_code 13 = .ok (.getfield 15, 3) := by decide +kernel
theorem dX7_selects_16 : decode prog_9_method_11_code 16 = .ok (.iload_n 2, 1) := by decide +kernel
theorem dX7_selects_17 : decode prog_9_method_11_code 17 = .ok (.invokestatic 66, 3) := by decide +kernel
theorem dX7_selects_20 : decode prog_9_method_11_code 20 = .ok (.isub, 1) := by decide +kernel
theorem dX7_selects_21 : decode prog_9_method_11_code 21 = .ok (.istore_n 3, 1) := by decide +kernel
theorem dX7_selects_22 : decode prog_9_method_11_code 22 = .ok (.aload_n 0, 1) := by decide +kernel
theorem dX7_selects_23 : decode prog_9_method_11_code 23 = .ok (.iload_n 1, 1) := by decide +kernel
theorem dX7_selects_24 : decode prog_9_method_11_code 24 = .ok (.iload_n 2, 1) := by decide +kernel
theorem dX7_selects_25 : decode prog_9_method_11_code 25 = .ok (.invokevirtual 62, 3) := by decide +kernel
theorem dX7_selects_28 : decode prog_9_method_11_code 28 = .ok (.iload_n 1, 1) := by decide +kernel
theorem dX7_selects_29 : decode prog_9_method_11_code 29 = .ok (.iload_n 3, 1) := by decide +kernel
theorem dX7_selects_30 : decode prog_9_method_11_code 30 = .ok (.if_icmp .lt 7, 3) := by decide +kernel
theorem dX7_selects_33 : decode prog_9_method_11_code 33 = .ok (.iconst 1, 1) := by decide +kernel
theorem dX7_selects_34 : decode prog_9_method_11_code 34 = .ok (.goto 4, 3) := by decide +kernel
theorem dX7_selects_37 : decode prog_9_method_11_code 37 = .ok (.iconst 0, 1) := by decide +kernel
theorem dX7_selects_38 : decode prog_9_method_11_code 38 = .ok (.invokestatic 71, 3) := by decide +kernel
theorem dX7_selects_41 : decode prog_9_method_11_code 41 = .ok (.if_icmp .eq 5, 3) := by decide +kernel
theorem dX7_selects_44 : decode prog_9_method_11_code 44 = .ok (.iconst 0, 1) := by decide +kernel
theorem dX7_selects_45 : decode prog_9_method_11_code 45 = .ok (.ireturn, 1) := by decide +kernel
theorem dX7_selects_46 : decode prog_9_method_11_code 46 = .ok (.iinc 2 1, 3) := by decide +kernel
theorem dX7_selects_49 : decode prog_9_method_11_code 49 = .ok (.goto (-47), 3) := by decide +kernel
theorem dX7_selects_52 : decode prog_9_method_11_code 52 = .ok (.iconst 1, 1) := by decide +kernel
theorem dX7_selects_53 : decode prog_9_method_11_code 53 = .ok (.ireturn, 1) := by decide +kernel
theorem sX7_selects_2 {Q : Int → Hp → Prop} {h : Hp} {l1 l2 : Int}
    (hP : ((l2 ≥ (j_ishl 1 (h 83 1))) →
     Q 1 h) ∧
    ((l2 < (j_ishl 1 (h 83 1))) →
     CI 0 mJ6_bitCount_0f7a4 [vi l2] h (fun r5 h4 =>
      (rj ((h 83 1) - r5) ∧ rj (l1 * 4) ∧ rj ((l1 * 4) + (j_idiv l2 64)) ∧ ix ((l1 * 4) + (j_idiv l2 64)) 32) ∧
      (((j_l2i (j_land (j_lushr (h4 84 ((l1 * 4) + (j_idiv l2 64))) (j_irem l2 64)) 1)) = (if l1 ≥ ((h 83 1) - r5) then (1 : Int) else 0)) →
       (rj (l2 + 1)) ∧
       E 1 mX7_selects 2 [(0, vr 83), (1, vi l1), (2, vi (l2 + 1))] [] h4 (qi Q)) ∧
      (((j_l2i (j_land (j_lushr (h4 84 ((l1 * 4) + (j_idiv l2 64))) (j_irem l2 64)) 1)) ≠ (if l1 ≥ ((h 83 1) - r5) then (1 : Int) else 0)) →
       Q 0 h4)))) :
    E 1 mX7_selects 2 [(0, vr 83), (1, vi l1), (2, vi l2)] [] h (qi Q) := by
  refine E_iload_n 2 2 dX7_selects_2 rfl rfl ?_
  refine E_iconst dX7_selects_3 (rg_of rfl) ?_
  refine E_aload_n 0 0 dX7_selects_4 rfl rfl ?_
  refine E_gI 1 1 dX7_selects_5 FX7_15 ic_83 rfl ?_
  refine E_ishl dX7_selects_8 ?_
  refine E_icmp_ge 52 dX7_selects_9 rfl (fun hc => ?_) (fun hc => ?_)
  · replace hP := hP.1 (hc)
    refine E_iconst dX7_selects_52 (rg_of rfl) ?_
    exact E_retZ dX7_selects_53 rfl (Or.inr rfl) hP
  · replace hP := hP.2 (by omega)
    refine E_aload_n 0 0 dX7_selects_12 rfl rfl ?_
    refine E_gI 1 1 dX7_selects_13 FX7_15 ic_83 rfl ?_
    refine E_iload_n 2 2 dX7_selects_16 rfl rfl ?_
    refine E_invSI [vi l2] dX7_selects_17 fJ6_bitCount_0f7a4 lX7_66 (by decide) rfl rfl (Nat.le_of_ble_eq_true rfl) (CI_mono hP (fun r5 h4 hP => ?_))
    obtain ⟨⟨v6_0, v6_1, v6_2, v6_3⟩, hP⟩ := hP
    refine E_isub dX7_selects_20 (rgI v6_0) ?_
    refine E_istore_n dX7_selects_21 rfl (by decide) rfl ?_
    refine E_aload_n 1 0 dX7_selects_22 rfl rfl ?_
    refine E_iload_n 2 1 dX7_selects_23 rfl rfl ?_
    refine E_iload_n 3 2 dX7_selects_24 rfl rfl ?_
    refine E_invVI [vi l1, vi l2] dX7_selects_25 fX7_valueAt lX7_62 ic_83 rfl (by decide) rfl rfl (Nat.le_of_ble_eq_true rfl) (sX7_valueAt (h := h4) (l1 := l1) (l2 := l2) ⟨⟨v6_1, v6_2, v6_3⟩, ?_⟩)
    refine E_iload_n 2 1 dX7_selects_28 rfl rfl ?_
    refine E_iload_n 0 3 dX7_selects_29 rfl rfl ?_
    have hJ : E 1 mX7_selects 38 [(3, vi ((h 83 1) - r5)), (0, vr 83), (1, vi l1), (2, vi l2)] [vi (if l1 ≥ ((h 83 1) - r5) then (1 : Int) else 0), vi (j_l2i (j_land (j_lushr (h4 84 ((l1 * 4) + (j_idiv l2 64))) (j_irem l2 64)) 1))] h4 (qi Q) := by
      refine E_invNI [vi (if l1 ≥ ((h 83 1) - r5) then (1 : Int) else 0)] dX7_selects_38 fX10_oneIf nX7_71 (by decide) rfl rfl (Nat.le_of_ble_eq_true rfl) (sX10_oneIf (h := h4) (l0 := (if l1 ≥ ((h 83 1) - r5) then (1 : Int) else 0)) ?_)
      refine E_top (y := (if l1 ≥ ((h 83 1) - r5) then (1 : Int) else 0)) (ite_if (fun hb => by first | (have := ite1' hb; omega) | (have := ite0 hb; omega)) (fun hb => by first | (rw [if_pos (by omega)]; decide) | (rw [if_neg (by omega)]))) ?_
      refine E_icmp_eq 46 dX7_selects_41 rfl (fun hc => ?_) (fun hc => ?_)
      · replace hP := hP.1 (hc)
        obtain ⟨v8_0, hP⟩ := hP
        refine E_iinc 3 dX7_selects_46 rfl (rgI v8_0) (by decide) rfl ?_
        refine E_goto 2 dX7_selects_49 rfl ?_
        exact E_sub [2, 3, 0] rfl hP
      · replace hP := hP.2 (by omega)
        refine E_iconst dX7_selects_44 (rg_of rfl) ?_
        exact E_retZ dX7_selects_45 rfl (Or.inl rfl) hP
    refine E_icmp_lt 37 dX7_selects_30 rfl (fun hc => ?_) (fun hc => ?_)
    · have hp30 := (hc : l1 < ((h 83 1) - r5))
      refine E_iconst dX7_selects_37 (rg_of rfl) ?_
      exact E_top (if_neg (by omega)).symm hJ
    · have hp30 := (by omega : l1 ≥ ((h 83 1) - r5))
      refine E_iconst dX7_selects_33 (rg_of rfl) ?_
      refine E_goto 38 dX7_selects_34 rfl ?_
      exact E_top (if_pos (by omega)).symm hJ
theorem sX7_selects {Q : Int → Hp → Prop} {h : Hp} {l1 : Int}
    (hP : E 1 mX7_selects 2 [(0, vr 83), (1, vi l1), (2, vi 0)] [] h (qi Q)) :
    CI 1 mX7_selects [vr 83, vi l1] h Q := by
  refine CI_of_E fX7_selects.1 rfl (Nat.le_of_ble_eq_true rfl) ?_
  show E 1 mX7_selects 0 [(0, vr 83), (1, vi l1)] [] h (qi Q)
  refine E_iconst dX7_selects_0 (rg_of rfl) ?_
  refine E_istore_n dX7_selects_1 rfl (by decide) rfl ?_
  exact E_sub [1, 2, 0] rfl hP
theorem dX8_put_0 : decode prog_10_method_2_code 0 = .ok (.iload_n 1, 1) := by decide +kernel
theorem dX8_put_1 : decode prog_10_method_2_code 1 = .ok (.bipush 33, 2) := by decide +kernel
theorem dX8_put_3 : decode prog_10_method_2_code 3 = .ok (.if_icmp .lt 9, 3) := by decide +kernel
theorem dX8_put_6 : decode prog_10_method_2_code 6 = .ok (.iload_n 1, 1) := by decide +kernel
theorem dX8_put_7 : decode prog_10_method_2_code 7 = .ok (.bipush 126, 2) := by decide +kernel
theorem dX8_put_9 : decode prog_10_method_2_code 9 = .ok (.if_icmp .le 6, 3) := by decide +kernel
theorem dX8_put_12 : decode prog_10_method_2_code 12 = .ok (.bipush (-2), 2) := by decide +kernel
theorem dX8_put_14 : decode prog_10_method_2_code 14 = .ok (.ireturn, 1) := by decide +kernel
theorem dX8_put_15 : decode prog_10_method_2_code 15 = .ok (.aload_n 0, 1) := by decide +kernel
theorem dX8_put_16 : decode prog_10_method_2_code 16 = .ok (.getfield 15, 3) := by decide +kernel
theorem dX8_put_19 : decode prog_10_method_2_code 19 = .ok (.bipush 60, 2) := by decide +kernel
theorem dX8_put_21 : decode prog_10_method_2_code 21 = .ok (.if_icmp .lt 6, 3) := by decide +kernel
theorem dX8_put_24 : decode prog_10_method_2_code 24 = .ok (.bipush (-3), 2) := by decide +kernel
theorem dX8_put_26 : decode prog_10_method_2_code 26 = .ok (.ireturn, 1) := by decide +kernel
theorem dX8_put_27 : decode prog_10_method_2_code 27 = .ok (.aload_n 0, 1) := by decide +kernel
theorem dX8_put_28 : decode prog_10_method_2_code 28 = .ok (.getfield 9, 3) := by decide +kernel
theorem dX8_put_31 : decode prog_10_method_2_code 31 = .ok (.aload_n 0, 1) := by decide +kernel
theorem dX8_put_32 : decode prog_10_method_2_code 32 = .ok (.getfield 15, 3) := by decide +kernel
theorem dX8_put_35 : decode prog_10_method_2_code 35 = .ok (.iload_n 1, 1) := by decide +kernel
theorem dX8_put_36 : decode prog_10_method_2_code 36 = .ok (.iastore, 1) := by decide +kernel
theorem dX8_put_37 : decode prog_10_method_2_code 37 = .ok (.aload_n 0, 1) := by decide +kernel
theorem dX8_put_38 : decode prog_10_method_2_code 38 = .ok (.dup, 1) := by decide +kernel
theorem dX8_put_39 : decode prog_10_method_2_code 39 = .ok (.getfield 15, 3) := by decide +kernel
theorem dX8_put_42 : decode prog_10_method_2_code 42 = .ok (.iconst 1, 1) := by decide +kernel
theorem dX8_put_43 : decode prog_10_method_2_code 43 = .ok (.iadd, 1) := by decide +kernel
theorem dX8_put_44 : decode prog_10_method_2_code 44 = .ok (.putfield 15, 3) := by decide +kernel
theorem dX8_put_47 : decode prog_10_method_2_code 47 = .ok (.aload_n 0, 1) := by decide +kernel
theorem dX8_put_48 : decode prog_10_method_2_code 48 = .ok (.getfield 15, 3) := by decide +kernel
theorem dX8_put_51 : decode prog_10_method_2_code 51 = .ok (.ireturn, 1) := by decide +kernel
theorem sX8_put {Q : Int → Hp → Prop} {h : Hp} {l1 : Int}
    (hP : ((l1 < 33) →
     Q (-2) h) ∧
    ((l1 ≥ 33) →
     ((l1 ≤ 126) →
      (((h 73 1) < 60) →
       (ix (h 73 1) 60 ∧ rj ((h 73 1) + 1)) ∧
       Q ((h 73 1) + 1) (up (up h 74 (h 73 1) l1) 73 1 ((h 73 1) + 1))) ∧
      (((h 73 1) ≥ 60) →
       Q (-3) h)) ∧
     ((l1 > 126) →
      Q (-2) h))) :
    CI 0 mX8_put [vr 73, vi l1] h Q := by
  refine CI_of_E fX8_put.1 rfl (Nat.le_of_ble_eq_true rfl) ?_
  show E 0 mX8_put 0 [(0, vr 73), (1, vi l1)] [] h (qi Q)
  refine E_iload_n 1 1 dX8_put_0 rfl rfl ?_
  refine E_bipush dX8_put_1 (by decide) ?_
  refine E_icmp_lt 12 dX8_put_3 rfl (fun hc => ?_) (fun hc => ?_)
  · replace hP := hP.1 (hc)
    refine E_bipush dX8_put_12 (by decide) ?_
    exact E_retI dX8_put_14 rfl hP
  · replace hP := hP.2 (by omega)
    refine E_iload_n 1 1 dX8_put_6 rfl rfl ?_
    refine E_bipush dX8_put_7 (by decide) ?_
    refine E_icmp_le 15 dX8_put_9 rfl (fun hc => ?_) (fun hc => ?_)
    · replace hP := hP.1 (hc)
      refine E_aload_n 0 0 dX8_put_15 rfl rfl ?_
      refine E_gI 1 1 dX8_put_16 FX8_15 ic_73 rfl ?_
      refine E_bipush dX8_put_19 (by decide) ?_
      refine E_icmp_lt 27 dX8_put_21 rfl (fun hc => ?_) (fun hc => ?_)
      · replace hP := hP.1 (hc)
        obtain ⟨⟨v5_0, v5_1⟩, hP⟩ := hP
        refine E_aload_n 0 0 dX8_put_27 rfl rfl ?_
        refine E_gR 74 0 dX8_put_28 FX8_9 ic_73 (by decide) ?_
        refine E_aload_n 0 0 dX8_put_31 rfl rfl ?_
        refine E_gI 1 1 dX8_put_32 FX8_15 ic_73 rfl ?_
        refine E_iload_n 1 1 dX8_put_35 rfl rfl ?_
        refine E_iastore dX8_put_36 ic_74 v5_0.1 v5_0.2 ?_
        refine E_aload_n 0 0 dX8_put_37 rfl rfl ?_
        refine E_dup dX8_put_38 rfl ?_
        refine E_gI 1 1 dX8_put_39 FX8_15 ic_73 rfl ?_
        refine E_top (y := (h 73 1)) (by simp [up]) ?_
        refine E_iconst dX8_put_42 (rg_of rfl) ?_
        refine E_iadd dX8_put_43 (rgI v5_1) ?_
        refine E_pI 1 1 dX8_put_44 PX8_15 ic_73 rfl ?_
        refine E_aload_n 0 0 dX8_put_47 rfl rfl ?_
        refine E_gI 1 1 dX8_put_48 FX8_15 ic_73 rfl ?_
        refine E_top (y := ((h 73 1) + 1)) (by simp [up]) ?_
        exact E_retI dX8_put_51 rfl hP
      · replace hP := hP.2 (by omega)
        refine E_bipush dX8_put_24 (by decide) ?_
        exact E_retI dX8_put_26 rfl hP
    · replace hP := hP.2 (by omega)
      refine E_bipush dX8_put_12 (by decide) ?_
      exact E_retI dX8_put_14 rfl hP
theorem dX8_empty_0 : decode prog_10_method_3_code 0 = .ok (.aload_n 0, 1) := by decide +kernel
theorem dX8_empty_1 : decode prog_10_method_3_code 1 = .ok (.getfield 15, 3) := by decide +kernel
theorem dX8_empty_4 : decode prog_10_method_3_code 4 = .ok (.istore_n 1, 1) := by decide +kernel
theorem dX8_empty_5 : decode prog_10_method_3_code 5 = .ok (.aload_n 0, 1) := by decide +kernel
theorem dX8_empty_6 : decode prog_10_method_3_code 6 = .ok (.iconst 0, 1) := by decide +kernel
theorem dX8_empty_7 : decode prog_10_method_3_code 7 = .ok (.putfield 15, 3) := by decide +kernel
theorem dX8_empty_10 : decode prog_10_method_3_code 10 = .ok (.iload_n 1, 1) := by decide +kernel
theorem dX8_empty_11 : decode prog_10_method_3_code 11 = .ok (.ireturn, 1) := by decide +kernel
theorem sX8_empty {Q : Int → Hp → Prop} {h : Hp}
    (hP : Q (h 73 1) (up h 73 1 0)) :
    CI 0 mX8_empty [vr 73] h Q := by
  refine CI_of_E fX8_empty.1 rfl (Nat.le_of_ble_eq_true rfl) ?_
  show E 0 mX8_empty 0 [(0, vr 73)] [] h (qi Q)
  refine E_aload_n 0 0 dX8_empty_0 rfl rfl ?_
  refine E_gI 1 1 dX8_empty_1 FX8_15 ic_73 rfl ?_
  refine E_istore_n dX8_empty_4 rfl (by decide) rfl ?_
  refine E_aload_n 1 0 dX8_empty_5 rfl rfl ?_
  refine E_iconst dX8_empty_6 (rg_of rfl) ?_
  refine E_pI 1 1 dX8_empty_7 PX8_15 ic_73 rfl ?_
  refine E_iload_n 0 1 dX8_empty_10 rfl rfl ?_
  exact E_retI dX8_empty_11 rfl hP
theorem dX8_canContinue_0 : decode prog_10_method_5_code 0 = .ok (.iload_n 0, 1) := by decide +kernel
theorem dX8_canContinue_1 : decode prog_10_method_5_code 1 = .ok (.iconst 1, 1) := by decide +kernel
theorem dX8_canContinue_2 : decode prog_10_method_5_code 2 = .ok (.if_icmp .ne 15, 3) := by decide +kernel
theorem dX8_canContinue_5 : decode prog_10_method_5_code 5 = .ok (.iload_n 1, 1) := by decide +kernel
theorem dX8_canContinue_6 : decode prog_10_method_5_code 6 = .ok (.bipush 58, 2) := by decide +kernel
theorem dX8_canContinue_8 : decode prog_10_method_5_code 8 = .ok (.if_icmp .ne 7, 3) := by decide +kernel
theorem dX8_canContinue_11 : decode prog_10_method_5_code 11 = .ok (.iconst 1, 1) := by decide +kernel
theorem dX8_canContinue_12 : decode prog_10_method_5_code 12 = .ok (.goto 4, 3) := by decide +kernel
theorem dX8_canContinue_15 : decode prog_10_method_5_code 15 = .ok (.iconst 0, 1) := by decide +kernel
theorem dX8_canContinue_16 : decode prog_10_method_5_code 16 = .ok (.ireturn, 1) := by decide +kernel
theorem dX8_canContinue_17 : decode prog_10_method_5_code 17 = .ok (.iload_n 0, 1) := by decide +kernel
theorem dX8_canContinue_18 : decode prog_10_method_5_code 18 = .ok (.iconst 3, 1) := by decide +kernel
theorem dX8_canContinue_19 : decode prog_10_method_5_code 19 = .ok (.if_icmp .ne 21, 3) := by decide +kernel
theorem dX8_canContinue_22 : decode prog_10_method_5_code 22 = .ok (.iload_n 1, 1) := by decide +kernel
theorem dX8_canContinue_23 : decode prog_10_method_5_code 23 = .ok (.bipush 44, 2) := by decide +kernel
theorem dX8_canContinue_25 : decode prog_10_method_5_code 25 = .ok (.if_icmp .eq 9, 3) := by decide +kernel
theorem dX8_canContinue_28 : decode prog_10_method_5_code 28 = .ok (.iload_n 1, 1) := by decide +kernel
theorem dX8_canContinue_29 : decode prog_10_method_5_code 29 = .ok (.bipush 59, 2) := by decide +kernel
theorem dX8_canContinue_31 : decode prog_10_method_5_code 31 = .ok (.if_icmp .ne 7, 3) := by decide +kernel
theorem dX8_canContinue_34 : decode prog_10_method_5_code 34 = .ok (.iconst 1, 1) := by decide +kernel
theorem dX8_canContinue_35 : decode prog_10_method_5_code 35 = .ok (.goto 4, 3) := by decide +kernel
theorem dX8_canContinue_38 : decode prog_10_method_5_code 38 = .ok (.iconst 0, 1) := by decide +kernel
theorem dX8_canContinue_39 : decode prog_10_method_5_code 39 = .ok (.ireturn, 1) := by decide +kernel
theorem dX8_canContinue_40 : decode prog_10_method_5_code 40 = .ok (.iload_n 1, 1) := by decide +kernel
theorem dX8_canContinue_41 : decode prog_10_method_5_code 41 = .ok (.bipush 48, 2) := by decide +kernel
theorem dX8_canContinue_43 : decode prog_10_method_5_code 43 = .ok (.isub, 1) := by decide +kernel
theorem dX8_canContinue_44 : decode prog_10_method_5_code 44 = .ok (.istore 4, 2) := by decide +kernel
theorem dX8_canContinue_46 : decode prog_10_method_5_code 46 = .ok (.aload_n 2, 1) := by decide +kernel
theorem dX8_canContinue_47 : decode prog_10_method_5_code 47 = .ok (.iload 4, 2) := by decide +kernel
theorem dX8_canContinue_49 : decode prog_10_method_5_code 49 = .ok (.invokevirtual 29, 3) := by decide +kernel
theorem dX8_canContinue_52 : decode prog_10_method_5_code 52 = .ok (.ifCond .eq 16, 3) := by decide +kernel
theorem dX8_canContinue_55 : decode prog_10_method_5_code 55 = .ok (.iload_n 3, 1) := by decide +kernel
theorem dX8_canContinue_56 : decode prog_10_method_5_code 56 = .ok (.iload 4, 2) := by decide +kernel
theorem dX8_canContinue_58 : decode prog_10_method_5_code 58 = .ok (.ishr, 1) := by decide +kernel
theorem dX8_canContinue_59 : decode prog_10_method_5_code 59 = .ok (.iconst 1, 1) := by decide +kernel
theorem dX8_canContinue_60 : decode prog_10_method_5_code 60 = .ok (.iand, 1) := by decide +kernel
theorem dX8_canContinue_61 : decode prog_10_method_5_code 61 = .ok (.ifCond .ne 7, 3) := by decide +kernel
theorem dX8_canContinue_64 : decode prog_10_method_5_code 64 = .ok (.iconst 1, 1) := by decide +kernel
theorem dX8_canContinue_65 : decode prog_10_method_5_code 65 = .ok (.goto 4, 3) := by decide +kernel
theorem dX8_canContinue_68 : decode prog_10_method_5_code 68 = .ok (.iconst 0, 1) := by decide +kernel
theorem dX8_canContinue_69 : decode prog_10_method_5_code 69 = .ok (.ireturn, 1) := by decide +kernel
theorem sX8_canContinue {Q : Int → Hp → Prop} {h : Hp} {l0 l1 a2 l3 : Int}
    (hP : ((l0 ≠ 1) →
     ((l0 ≠ 3) →
      (rj (l1 - 48) ∧ nA a2 ∧ (((l1 - 48) ≥ 0) → (nA a2))) ∧
      Q (if ((l1 - 48) ≥ 0 ∧ (l1 - 48) < (h a2 0)) ∧ ((j_iand (j_ishr l3 (l1 - 48)) 1) = 0) then (1 : Int) else 0) h) ∧
     ((l0 = 3) →
      Q (if l1 = 44 ∨ l1 = 59 then (1 : Int) else 0) h)) ∧
    ((l0 = 1) →
     Q (if l1 = 58 then (1 : Int) else 0) h)) :
    CI 1 mX8_canContinue [vi l0, vi l1, vr a2, vi l3] h Q := by
  refine CI_of_E fX8_canContinue.1 rfl (Nat.le_of_ble_eq_true rfl) ?_
  show E 1 mX8_canContinue 0 [(0, vi l0), (1, vi l1), (2, vr a2), (3, vi l3)] [] h (qi Q)
  refine E_iload_n 0 0 dX8_canContinue_0 rfl rfl ?_
  refine E_iconst dX8_canContinue_1 (rg_of rfl) ?_
  refine E_icmp_ne 17 dX8_canContinue_2 rfl (fun hc => ?_) (fun hc => ?_)
  · replace hP := hP.1 (hc)
    refine E_iload_n 0 0 dX8_canContinue_17 rfl rfl ?_
    refine E_iconst dX8_canContinue_18 (rg_of rfl) ?_
    refine E_icmp_ne 40 dX8_canContinue_19 rfl (fun hc => ?_) (fun hc => ?_)
    · replace hP := hP.1 (hc)
      obtain ⟨⟨v3_0, v3_1, v3_2⟩, hP⟩ := hP
      refine E_iload_n 1 1 dX8_canContinue_40 rfl rfl ?_
      refine E_bipush dX8_canContinue_41 (by decide) ?_
      refine E_isub dX8_canContinue_43 (rgI v3_0) ?_
      refine E_istore dX8_canContinue_44 (by decide) rfl ?_
      refine E_aload_n 3 2 dX8_canContinue_46 rfl rfl ?_
      refine E_iload 0 dX8_canContinue_47 rfl ?_
      refine E_invVI [vi (l1 - 48)] dX8_canContinue_49 fX3_hasWire lX8_29 (icN0 v3_1) rfl (by decide) rfl rfl (Nat.le_of_ble_eq_true rfl) (sX3_hasWire (h := h) (a0 := a2) (l1 := (l1 - 48)) ⟨v3_2, ?_⟩)
      have hJ : E 1 mX8_canContinue 69 [(4, vi (l1 - 48)), (0, vi l0), (1, vi l1), (2, vr a2), (3, vi l3)] [vi (if ((l1 - 48) ≥ 0 ∧ (l1 - 48) < (h a2 0)) ∧ ((j_iand (j_ishr l3 (l1 - 48)) 1) = 0) then (1 : Int) else 0)] h (qi Q) := by
        exact E_retZ dX8_canContinue_69 rfl (b01 _) hP
      refine E_if_eq 68 dX8_canContinue_52 rfl (fun hc => ?_) (fun hc => ?_)
      · have hp52 := (by have := ite0 hc; omega : (l1 - 48) < 0 ∨ (l1 - 48) ≥ (h a2 0))
        refine E_iconst dX8_canContinue_68 (rg_of rfl) ?_
        exact E_top (if_neg (by omega)).symm hJ
      · have hp52 := (by have := ite1 hc; omega : (l1 - 48) ≥ 0 ∧ (l1 - 48) < (h a2 0))
        refine E_iload_n 4 3 dX8_canContinue_55 rfl rfl ?_
        refine E_iload 0 dX8_canContinue_56 rfl ?_
        refine E_ishr dX8_canContinue_58 ?_
        refine E_iconst dX8_canContinue_59 (rg_of rfl) ?_
        refine E_iand dX8_canContinue_60 ?_
        refine E_if_ne 68 dX8_canContinue_61 rfl (fun hc => ?_) (fun hc => ?_)
        · have hp61 := (hc : (j_iand (j_ishr l3 (l1 - 48)) 1) ≠ 0)
          refine E_iconst dX8_canContinue_68 (rg_of rfl) ?_
          exact E_top (if_neg (by omega)).symm hJ
        · have hp61 := (by omega : (j_iand (j_ishr l3 (l1 - 48)) 1) = 0)
          refine E_iconst dX8_canContinue_64 (rg_of rfl) ?_
          refine E_goto 69 dX8_canContinue_65 rfl ?_
          exact E_top (if_pos (by omega)).symm hJ
    · replace hP := hP.2 (by omega)
      refine E_iload_n 1 1 dX8_canContinue_22 rfl rfl ?_
      refine E_bipush dX8_canContinue_23 (by decide) ?_
      have hJ : E 1 mX8_canContinue 39 [(0, vi l0), (1, vi l1), (2, vr a2), (3, vi l3)] [vi (if l1 = 44 ∨ l1 = 59 then (1 : Int) else 0)] h (qi Q) := by
        exact E_retZ dX8_canContinue_39 rfl (b01 _) hP
      refine E_icmp_eq 34 dX8_canContinue_25 rfl (fun hc => ?_) (fun hc => ?_)
      · have hp25 := (hc : l1 = 44)
        refine E_iconst dX8_canContinue_34 (rg_of rfl) ?_
        refine E_goto 39 dX8_canContinue_35 rfl ?_
        exact E_top (if_pos (by omega)).symm hJ
      · have hp25 := (by omega : l1 ≠ 44)
        refine E_iload_n 1 1 dX8_canContinue_28 rfl rfl ?_
        refine E_bipush dX8_canContinue_29 (by decide) ?_
        refine E_icmp_ne 38 dX8_canContinue_31 rfl (fun hc => ?_) (fun hc => ?_)
        · have hp31 := (hc : l1 ≠ 59)
          refine E_iconst dX8_canContinue_38 (rg_of rfl) ?_
          exact E_top (if_neg (by omega)).symm hJ
        · have hp31 := (by omega : l1 = 59)
          refine E_iconst dX8_canContinue_34 (rg_of rfl) ?_
          refine E_goto 39 dX8_canContinue_35 rfl ?_
          exact E_top (if_pos (by omega)).symm hJ
  · replace hP := hP.2 (by omega)
    refine E_iload_n 1 1 dX8_canContinue_5 rfl rfl ?_
    refine E_bipush dX8_canContinue_6 (by decide) ?_
    have hJ : E 1 mX8_canContinue 16 [(0, vi l0), (1, vi l1), (2, vr a2), (3, vi l3)] [vi (if l1 = 58 then (1 : Int) else 0)] h (qi Q) := by
      exact E_retZ dX8_canContinue_16 rfl (b01 _) hP
    refine E_icmp_ne 15 dX8_canContinue_8 rfl (fun hc => ?_) (fun hc => ?_)
    · have hp8 := (hc : l1 ≠ 58)
      refine E_iconst dX8_canContinue_15 (rg_of rfl) ?_
      exact E_top (if_neg (by omega)).symm hJ
    · have hp8 := (by omega : l1 = 58)
      refine E_iconst dX8_canContinue_11 (rg_of rfl) ?_
      refine E_goto 16 dX8_canContinue_12 rfl ?_
      exact E_top (if_pos (by omega)).symm hJ
