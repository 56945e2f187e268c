theorem cu_self {cs : Nat → CDs} {k : Nat} {c : CDs} : cu cs k c k = c := by simp [cu]
theorem cu_ne {cs : Nat → CDs} {j k : Nat} {c : CDs} (h : ¬ j = k) : cu cs k c j = cs j := by simp [cu, h]
theorem vpF {base ci j t : Nat} {f : Nat → FV} (hf : (ftL.getD ci [])[j]? = some t) : vp_V (fsF base ci f) j = fvv base t (f j) := by
  unfold vp_V
  rw [List.getD_eq_getElem?_getD, fsF_at hf]
  rfl
theorem refArr : ∀ x, narrow (.array .int) (.ref x) = .ref x ∧ fits (.array .int) (.ref x) = true := fun _ => ⟨rfl, rfl⟩
theorem ac_int : Cond.arrayClass .int ∈ gtb := gtb1 (i := 66) (by decide +kernel) rfl
theorem ac_long : Cond.arrayClass .long ∈ gtb := gtb1 (i := 159) (by decide +kernel) rfl
theorem ac_boolean : Cond.arrayClass .boolean ∈ gtb := gtb1 (i := 187) (by decide +kernel) rfl
theorem oi_im : Cond.instanceMethod Lib.objectInit ∈ gtb := gtb1 (i := 24) (by decide +kernel) rfl
theorem oi_cd : Cond.code Lib.objectInit ⟨#[0xb1]⟩ 1 none ∈ gtb := gtb1 (i := 25) (by decide +kernel) rfl
theorem oi_X10 : Cond.methodLink RX10 3 Lib.objectInit ∈ gtb := gtb1 (i := 23) (by decide +kernel) rfl
theorem oi_X3 : Cond.methodLink RX3 3 Lib.objectInit ∈ gtb := gtb1 (i := 32) (by decide +kernel) rfl
theorem oi_X2 : Cond.methodLink RX2 3 Lib.objectInit ∈ gtb := gtb1 (i := 72) (by decide +kernel) rfl
theorem oi_X8 : Cond.methodLink RX8 3 Lib.objectInit ∈ gtb := gtb1 (i := 93) (by decide +kernel) rfl
theorem oi_X9 : Cond.methodLink RX9 3 Lib.objectInit ∈ gtb := gtb1 (i := 106) (by decide +kernel) rfl
theorem oi_X6 : Cond.methodLink RX6 3 Lib.objectInit ∈ gtb := gtb1 (i := 129) (by decide +kernel) rfl
theorem oi_X7 : Cond.methodLink RX7 5 Lib.objectInit ∈ gtb := gtb1 (i := 146) (by decide +kernel) rfl
theorem oi_X4 : Cond.methodLink RX4 3 Lib.objectInit ∈ gtb := gtb1 (i := 165) (by decide +kernel) rfl
theorem oi_X1 : Cond.methodLink RX1 3 Lib.objectInit ∈ gtb := gtb1 (i := 193) (by decide +kernel) rfl
theorem oi_X0 : Cond.methodLink RX0 3 Lib.objectInit ∈ gtb := gtb1 (i := 220) (by decide +kernel) rfl
theorem oi_X5 : Cond.methodLink RX5 3 Lib.objectInit ∈ gtb := gtb1 (i := 233) (by decide +kernel) rfl
theorem oi_X11 : Cond.methodLink RX11 3 Lib.objectInit ∈ gtb := gtb4 (i := 162) (by decide +kernel) rfl
theorem im_X0 : Cond.instanceMethod yX0_init ∈ gtb := gtb1 (i := 218) (by decide +kernel) rfl
theorem im_X1 : Cond.instanceMethod yX1_init ∈ gtb := gtb1 (i := 191) (by decide +kernel) rfl
theorem im_X2 : Cond.instanceMethod yX2_init ∈ gtb := gtb1 (i := 70) (by decide +kernel) rfl
theorem im_X3 : Cond.instanceMethod yX3_init ∈ gtb := gtb1 (i := 30) (by decide +kernel) rfl
theorem im_X4 : Cond.instanceMethod yX4_init ∈ gtb := gtb1 (i := 163) (by decide +kernel) rfl
theorem im_X5 : Cond.instanceMethod yX5_init ∈ gtb := gtb1 (i := 231) (by decide +kernel) rfl
theorem im_X6 : Cond.instanceMethod yX6_init ∈ gtb := gtb1 (i := 127) (by decide +kernel) rfl
theorem im_X7 : Cond.instanceMethod yX7_init ∈ gtb := gtb1 (i := 144) (by decide +kernel) rfl
theorem im_X8 : Cond.instanceMethod yX8_init ∈ gtb := gtb1 (i := 91) (by decide +kernel) rfl
theorem im_X9 : Cond.instanceMethod yX9_init ∈ gtb := gtb1 (i := 104) (by decide +kernel) rfl
theorem im_X10 : Cond.instanceMethod yX10_init ∈ gtb := gtb1 (i := 21) (by decide +kernel) rfl
theorem im_X11 : Cond.instanceMethod yX11_init ∈ gtb := gtb4 (i := 160) (by decide +kernel) rfl
theorem cl_L_7 : Cond.classLink RL 7 RX10 ∈ gtb := gtb1 (i := 18) (by decide +kernel) rfl
theorem cl_X10_9 : Cond.classLink RX10 9 RX3 ∈ gtb := gtb1 (i := 26) (by decide +kernel) rfl
theorem cl_X10_20 : Cond.classLink RX10 20 RX2 ∈ gtb := gtb1 (i := 67) (by decide +kernel) rfl
theorem cl_X2_9 : Cond.classLink RX2 9 RX3 ∈ gtb := gtb1 (i := 73) (by decide +kernel) rfl
theorem cl_X10_27 : Cond.classLink RX10 27 RX8 ∈ gtb := gtb1 (i := 88) (by decide +kernel) rfl
theorem cl_X10_38 : Cond.classLink RX10 38 RX9 ∈ gtb := gtb1 (i := 101) (by decide +kernel) rfl
theorem cl_X10_45 : Cond.classLink RX10 45 RX6 ∈ gtb := gtb1 (i := 123) (by decide +kernel) rfl
theorem cl_X10_52 : Cond.classLink RX10 52 RX7 ∈ gtb := gtb1 (i := 141) (by decide +kernel) rfl
theorem cl_X10_59 : Cond.classLink RX10 59 RX4 ∈ gtb := gtb1 (i := 160) (by decide +kernel) rfl
theorem cl_X10_69 : Cond.classLink RX10 69 RX1 ∈ gtb := gtb1 (i := 188) (by decide +kernel) rfl
theorem cl_X10_76 : Cond.classLink RX10 76 RX0 ∈ gtb := gtb1 (i := 215) (by decide +kernel) rfl
theorem cl_X10_83 : Cond.classLink RX10 83 RX5 ∈ gtb := gtb1 (i := 228) (by decide +kernel) rfl
theorem cl_L_10 : Cond.classLink RL 10 RX11 ∈ gtb := gtb4 (i := 157) (by decide +kernel) rfl
theorem in_X0 : Cond.instantiable RX0 2 ∈ gtb := gtb1 (i := 216) (by decide +kernel) rfl
theorem df_X0 : ∀ base j : Nat, j < 2 → defaultValue (tyX0 j) = vp_V (fsF base 0 (dfl 0)) j := by
  intro base j hj
  match j, hj with
  | 0, _ => rw [vpF (ci := 0) (j := 0) (t := 2) (by decide +kernel)]; rfl
  | 1, _ => rw [vpF (ci := 0) (j := 1) (t := 2) (by decide +kernel)]; rfl
  | j + 2, h => exact absurd h (by omega)
theorem in_X1 : Cond.instantiable RX1 6 ∈ gtb := gtb1 (i := 189) (by decide +kernel) rfl
theorem df_X1 : ∀ base j : Nat, j < 6 → defaultValue (tyX1 j) = vp_V (fsF base 1 (dfl 1)) j := by
  intro base j hj
  match j, hj with
  | 0, _ => rw [vpF (ci := 1) (j := 0) (t := 2) (by decide +kernel)]; rfl
  | 1, _ => rw [vpF (ci := 1) (j := 1) (t := 2) (by decide +kernel)]; rfl
  | 2, _ => rw [vpF (ci := 1) (j := 2) (t := 2) (by decide +kernel)]; rfl
  | 3, _ => rw [vpF (ci := 1) (j := 3) (t := 0) (by decide +kernel)]; rfl
  | 4, _ => rw [vpF (ci := 1) (j := 4) (t := 2) (by decide +kernel)]; rfl
  | 5, _ => rw [vpF (ci := 1) (j := 5) (t := 2) (by decide +kernel)]; rfl
  | j + 6, h => exact absurd h (by omega)
theorem in_X2 : Cond.instantiable RX2 4 ∈ gtb := gtb1 (i := 68) (by decide +kernel) rfl
theorem df_X2 : ∀ base j : Nat, j < 4 → defaultValue (tyX2 j) = vp_V (fsF base 2 (dfl 2)) j := by
  intro base j hj
  match j, hj with
  | 0, _ => rw [vpF (ci := 2) (j := 0) (t := 2) (by decide +kernel)]; rfl
  | 1, _ => rw [vpF (ci := 2) (j := 1) (t := 2) (by decide +kernel)]; rfl
  | 2, _ => rw [vpF (ci := 2) (j := 2) (t := 0) (by decide +kernel)]; rfl
  | 3, _ => rw [vpF (ci := 2) (j := 3) (t := 0) (by decide +kernel)]; rfl
  | j + 4, h => exact absurd h (by omega)
theorem in_X3 : Cond.instantiable RX3 5 ∈ gtb := gtb1 (i := 28) (by decide +kernel) rfl
theorem df_X3 : ∀ base j : Nat, j < 5 → defaultValue (tyX3 j) = vp_V (fsF base 3 (dfl 3)) j := by
  intro base j hj
  match j, hj with
  | 0, _ => rw [vpF (ci := 3) (j := 0) (t := 0) (by decide +kernel)]; rfl
  | 1, _ => rw [vpF (ci := 3) (j := 1) (t := 0) (by decide +kernel)]; rfl
  | 2, _ => rw [vpF (ci := 3) (j := 2) (t := 2) (by decide +kernel)]; rfl
  | 3, _ => rw [vpF (ci := 3) (j := 3) (t := 2) (by decide +kernel)]; rfl
  | 4, _ => rw [vpF (ci := 3) (j := 4) (t := 2) (by decide +kernel)]; rfl
  | j + 5, h => exact absurd h (by omega)
theorem in_X4 : Cond.instantiable RX4 4 ∈ gtb := gtb1 (i := 161) (by decide +kernel) rfl
theorem df_X4 : ∀ base j : Nat, j < 4 → defaultValue (tyX4 j) = vp_V (fsF base 4 (dfl 4)) j := by
  intro base j hj
  match j, hj with
  | 0, _ => rw [vpF (ci := 4) (j := 0) (t := 2) (by decide +kernel)]; rfl
  | 1, _ => rw [vpF (ci := 4) (j := 1) (t := 2) (by decide +kernel)]; rfl
  | 2, _ => rw [vpF (ci := 4) (j := 2) (t := 0) (by decide +kernel)]; rfl
  | 3, _ => rw [vpF (ci := 4) (j := 3) (t := 0) (by decide +kernel)]; rfl
  | j + 4, h => exact absurd h (by omega)
theorem in_X5 : Cond.instantiable RX5 2 ∈ gtb := gtb1 (i := 229) (by decide +kernel) rfl
theorem df_X5 : ∀ base j : Nat, j < 2 → defaultValue (tyX5 j) = vp_V (fsF base 5 (dfl 5)) j := by
  intro base j hj
  match j, hj with
  | 0, _ => rw [vpF (ci := 5) (j := 0) (t := 2) (by decide +kernel)]; rfl
  | 1, _ => rw [vpF (ci := 5) (j := 1) (t := 2) (by decide +kernel)]; rfl
  | j + 2, h => exact absurd h (by omega)
theorem in_X6 : Cond.instantiable RX6 3 ∈ gtb := gtb1 (i := 125) (by decide +kernel) rfl
theorem df_X6 : ∀ base j : Nat, j < 3 → defaultValue (tyX6 j) = vp_V (fsF base 6 (dfl 6)) j := by
  intro base j hj
  match j, hj with
  | 0, _ => rw [vpF (ci := 6) (j := 0) (t := 0) (by decide +kernel)]; rfl
  | 1, _ => rw [vpF (ci := 6) (j := 1) (t := 0) (by decide +kernel)]; rfl
  | 2, _ => rw [vpF (ci := 6) (j := 2) (t := 0) (by decide +kernel)]; rfl
  | j + 3, h => exact absurd h (by omega)
theorem in_X7 : Cond.instantiable RX7 3 ∈ gtb := gtb1 (i := 142) (by decide +kernel) rfl
theorem df_X7 : ∀ base j : Nat, j < 3 → defaultValue (tyX7 j) = vp_V (fsF base 7 (dfl 7)) j := by
  intro base j hj
  match j, hj with
  | 0, _ => rw [vpF (ci := 7) (j := 0) (t := 2) (by decide +kernel)]; rfl
  | 1, _ => rw [vpF (ci := 7) (j := 1) (t := 0) (by decide +kernel)]; rfl
  | 2, _ => rw [vpF (ci := 7) (j := 2) (t := 0) (by decide +kernel)]; rfl
  | j + 3, h => exact absurd h (by omega)
theorem in_X8 : Cond.instantiable RX8 2 ∈ gtb := gtb1 (i := 89) (by decide +kernel) rfl
theorem df_X8 : ∀ base j : Nat, j < 2 → defaultValue (tyX8 j) = vp_V (fsF base 8 (dfl 8)) j := by
  intro base j hj
  match j, hj with
  | 0, _ => rw [vpF (ci := 8) (j := 0) (t := 2) (by decide +kernel)]; rfl
  | 1, _ => rw [vpF (ci := 8) (j := 1) (t := 0) (by decide +kernel)]; rfl
  | j + 2, h => exact absurd h (by omega)
theorem in_X9 : Cond.instantiable RX9 4 ∈ gtb := gtb1 (i := 102) (by decide +kernel) rfl
theorem df_X9 : ∀ base j : Nat, j < 4 → defaultValue (tyX9 j) = vp_V (fsF base 9 (dfl 9)) j := by
  intro base j hj
  match j, hj with
  | 0, _ => rw [vpF (ci := 9) (j := 0) (t := 0) (by decide +kernel)]; rfl
  | 1, _ => rw [vpF (ci := 9) (j := 1) (t := 0) (by decide +kernel)]; rfl
  | 2, _ => rw [vpF (ci := 9) (j := 2) (t := 2) (by decide +kernel)]; rfl
  | 3, _ => rw [vpF (ci := 9) (j := 3) (t := 2) (by decide +kernel)]; rfl
  | j + 4, h => exact absurd h (by omega)
theorem in_X10 : Cond.instantiable RX10 13 ∈ gtb := gtb1 (i := 19) (by decide +kernel) rfl
theorem df_X10 : ∀ base j : Nat, j < 13 → defaultValue (tyX10 j) = vp_V (fsF base 10 (dfl 10)) j := by
  intro base j hj
  match j, hj with
  | 0, _ => rw [vpF (ci := 10) (j := 0) (t := 2) (by decide +kernel)]; rfl
  | 1, _ => rw [vpF (ci := 10) (j := 1) (t := 2) (by decide +kernel)]; rfl
  | 2, _ => rw [vpF (ci := 10) (j := 2) (t := 2) (by decide +kernel)]; rfl
  | 3, _ => rw [vpF (ci := 10) (j := 3) (t := 2) (by decide +kernel)]; rfl
  | 4, _ => rw [vpF (ci := 10) (j := 4) (t := 2) (by decide +kernel)]; rfl
  | 5, _ => rw [vpF (ci := 10) (j := 5) (t := 2) (by decide +kernel)]; rfl
  | 6, _ => rw [vpF (ci := 10) (j := 6) (t := 2) (by decide +kernel)]; rfl
  | 7, _ => rw [vpF (ci := 10) (j := 7) (t := 2) (by decide +kernel)]; rfl
  | 8, _ => rw [vpF (ci := 10) (j := 8) (t := 2) (by decide +kernel)]; rfl
  | 9, _ => rw [vpF (ci := 10) (j := 9) (t := 2) (by decide +kernel)]; rfl
  | 10, _ => rw [vpF (ci := 10) (j := 10) (t := 2) (by decide +kernel)]; rfl
  | 11, _ => rw [vpF (ci := 10) (j := 11) (t := 2) (by decide +kernel)]; rfl
  | 12, _ => rw [vpF (ci := 10) (j := 12) (t := 2) (by decide +kernel)]; rfl
  | j + 13, h => exact absurd h (by omega)
theorem in_X11 : Cond.instantiable RX11 34 ∈ gtb := gtb4 (i := 158) (by decide +kernel) rfl
theorem df_X11 : ∀ base j : Nat, j < 34 → defaultValue (tyX11 j) = vp_V (fsF base 11 (dfl 11)) j := by
  intro base j hj
  match j, hj with
  | 0, _ => rw [vpF (ci := 11) (j := 0) (t := 2) (by decide +kernel)]; rfl
  | 1, _ => rw [vpF (ci := 11) (j := 1) (t := 2) (by decide +kernel)]; rfl
  | 2, _ => rw [vpF (ci := 11) (j := 2) (t := 2) (by decide +kernel)]; rfl
  | 3, _ => rw [vpF (ci := 11) (j := 3) (t := 2) (by decide +kernel)]; rfl
  | 4, _ => rw [vpF (ci := 11) (j := 4) (t := 2) (by decide +kernel)]; rfl
  | 5, _ => rw [vpF (ci := 11) (j := 5) (t := 2) (by decide +kernel)]; rfl
  | 6, _ => rw [vpF (ci := 11) (j := 6) (t := 2) (by decide +kernel)]; rfl
  | 7, _ => rw [vpF (ci := 11) (j := 7) (t := 0) (by decide +kernel)]; rfl
  | 8, _ => rw [vpF (ci := 11) (j := 8) (t := 2) (by decide +kernel)]; rfl
  | 9, _ => rw [vpF (ci := 11) (j := 9) (t := 0) (by decide +kernel)]; rfl
  | 10, _ => rw [vpF (ci := 11) (j := 10) (t := 2) (by decide +kernel)]; rfl
  | 11, _ => rw [vpF (ci := 11) (j := 11) (t := 0) (by decide +kernel)]; rfl
  | 12, _ => rw [vpF (ci := 11) (j := 12) (t := 2) (by decide +kernel)]; rfl
  | 13, _ => rw [vpF (ci := 11) (j := 13) (t := 2) (by decide +kernel)]; rfl
  | 14, _ => rw [vpF (ci := 11) (j := 14) (t := 2) (by decide +kernel)]; rfl
  | 15, _ => rw [vpF (ci := 11) (j := 15) (t := 2) (by decide +kernel)]; rfl
  | 16, _ => rw [vpF (ci := 11) (j := 16) (t := 2) (by decide +kernel)]; rfl
  | 17, _ => rw [vpF (ci := 11) (j := 17) (t := 2) (by decide +kernel)]; rfl
  | 18, _ => rw [vpF (ci := 11) (j := 18) (t := 0) (by decide +kernel)]; rfl
  | 19, _ => rw [vpF (ci := 11) (j := 19) (t := 0) (by decide +kernel)]; rfl
  | 20, _ => rw [vpF (ci := 11) (j := 20) (t := 0) (by decide +kernel)]; rfl
  | 21, _ => rw [vpF (ci := 11) (j := 21) (t := 2) (by decide +kernel)]; rfl
  | 22, _ => rw [vpF (ci := 11) (j := 22) (t := 2) (by decide +kernel)]; rfl
  | 23, _ => rw [vpF (ci := 11) (j := 23) (t := 2) (by decide +kernel)]; rfl
  | 24, _ => rw [vpF (ci := 11) (j := 24) (t := 2) (by decide +kernel)]; rfl
  | 25, _ => rw [vpF (ci := 11) (j := 25) (t := 0) (by decide +kernel)]; rfl
  | 26, _ => rw [vpF (ci := 11) (j := 26) (t := 0) (by decide +kernel)]; rfl
  | 27, _ => rw [vpF (ci := 11) (j := 27) (t := 0) (by decide +kernel)]; rfl
  | 28, _ => rw [vpF (ci := 11) (j := 28) (t := 1) (by decide +kernel)]; rfl
  | 29, _ => rw [vpF (ci := 11) (j := 29) (t := 2) (by decide +kernel)]; rfl
  | 30, _ => rw [vpF (ci := 11) (j := 30) (t := 2) (by decide +kernel)]; rfl
  | 31, _ => rw [vpF (ci := 11) (j := 31) (t := 2) (by decide +kernel)]; rfl
  | 32, _ => rw [vpF (ci := 11) (j := 32) (t := 2) (by decide +kernel)]; rfl
  | 33, _ => rw [vpF (ci := 11) (j := 33) (t := 0) (by decide +kernel)]; rfl
  | j + 34, h => exact absurd h (by omega)
theorem nw_L_7 : NWF RL 7 10 13 := ⟨RX10, TX10, tyX10, rfl, i_X10, tyX10_ok, cl_L_7, in_X10, cfX10.1, df_X10⟩
theorem nw_X10_9 : NWF RX10 9 3 5 := ⟨RX3, TX3, tyX3, rfl, i_X3, tyX3_ok, cl_X10_9, in_X3, cfX3.1, df_X3⟩
theorem nw_X10_20 : NWF RX10 20 2 4 := ⟨RX2, TX2, tyX2, rfl, i_X2, tyX2_ok, cl_X10_20, in_X2, cfX2.1, df_X2⟩
theorem nw_X2_9 : NWF RX2 9 3 5 := ⟨RX3, TX3, tyX3, rfl, i_X3, tyX3_ok, cl_X2_9, in_X3, cfX3.1, df_X3⟩
theorem nw_X10_27 : NWF RX10 27 8 2 := ⟨RX8, TX8, tyX8, rfl, i_X8, tyX8_ok, cl_X10_27, in_X8, cfX8.1, df_X8⟩
theorem nw_X10_38 : NWF RX10 38 9 4 := ⟨RX9, TX9, tyX9, rfl, i_X9, tyX9_ok, cl_X10_38, in_X9, cfX9.1, df_X9⟩
theorem nw_X10_45 : NWF RX10 45 6 3 := ⟨RX6, TX6, tyX6, rfl, i_X6, tyX6_ok, cl_X10_45, in_X6, cfX6.1, df_X6⟩
theorem nw_X10_52 : NWF RX10 52 7 3 := ⟨RX7, TX7, tyX7, rfl, i_X7, tyX7_ok, cl_X10_52, in_X7, cfX7.1, df_X7⟩
theorem nw_X10_59 : NWF RX10 59 4 4 := ⟨RX4, TX4, tyX4, rfl, i_X4, tyX4_ok, cl_X10_59, in_X4, cfX4.1, df_X4⟩
theorem nw_X10_69 : NWF RX10 69 1 6 := ⟨RX1, TX1, tyX1, rfl, i_X1, tyX1_ok, cl_X10_69, in_X1, cfX1.1, df_X1⟩
theorem nw_X10_76 : NWF RX10 76 0 2 := ⟨RX0, TX0, tyX0, rfl, i_X0, tyX0_ok, cl_X10_76, in_X0, cfX0.1, df_X0⟩
theorem nw_X10_83 : NWF RX10 83 5 2 := ⟨RX5, TX5, tyX5, rfl, i_X5, tyX5_ok, cl_X10_83, in_X5, cfX5.1, df_X5⟩
theorem nw_L_10 : NWF RL 10 11 34 := ⟨RX11, TX11, tyX11, rfl, i_X11, tyX11_ok, cl_L_10, in_X11, cfX11.1, df_X11⟩
theorem refAI : ∀ x, narrow (.array .int) (.ref x) = .ref x ∧ fits (.array .int) (.ref x) = true := fun _ => ⟨rfl, rfl⟩
theorem refAZ : ∀ x, narrow (.array .boolean) (.ref x) = .ref x ∧ fits (.array .boolean) (.ref x) = true := fun _ => ⟨rfl, rfl⟩
theorem refAJ : ∀ x, narrow (.array .long) (.ref x) = .ref x ∧ fits (.array .long) (.ref x) = true := fun _ => ⟨rfl, rfl⟩
theorem refO (C : String) : ∀ x, narrow (.object C) (.ref x) = .ref x ∧ fits (.object C) (.ref x) = true := fun _ => ⟨rfl, rfl⟩
theorem refAO (C : String) : ∀ x, narrow (.array (.object C)) (.ref x) = .ref x ∧ fits (.array (.object C)) (.ref x) = true := fun _ => ⟨rfl, rfl⟩
theorem pf_X0_9 : FPF RX0 9 0 0 2 (.array .int) := ⟨RX0, TX0, 2, tyX0, rfl, i_X0, by decide, gX0_9, rfl, tyX0_ok, nmX0, rfl, rfl⟩
theorem pf_X0_15 : FPF RX0 15 0 1 2 (.array .long) := ⟨RX0, TX0, 2, tyX0, rfl, i_X0, by decide, gX0_15, rfl, tyX0_ok, nmX0, rfl, rfl⟩
theorem dX0_init_0 : decode prog_2_method_1_code 0 = .ok (.aload_n 0, 1) := by decide +kernel
theorem dX0_init_1 : decode prog_2_method_1_code 1 = .ok (.invokespecial 3, 3) := by decide +kernel
theorem dX0_init_4 : decode prog_2_method_1_code 4 = .ok (.aload_n 0, 1) := by decide +kernel
theorem dX0_init_5 : decode prog_2_method_1_code 5 = .ok (.sipush 256, 3) := by decide +kernel
theorem dX0_init_8 : decode prog_2_method_1_code 8 = .ok (.newarray .int, 2) := by decide +kernel
theorem dX0_init_10 : decode prog_2_method_1_code 10 = .ok (.putfield 9, 3) := by decide +kernel
theorem dX0_init_13 : decode prog_2_method_1_code 13 = .ok (.aload_n 0, 1) := by decide +kernel
theorem dX0_init_14 : decode prog_2_method_1_code 14 = .ok (.sipush 256, 3) := by decide +kernel
theorem dX0_init_17 : decode prog_2_method_1_code 17 = .ok (.newarray .long, 2) := by decide +kernel
theorem dX0_init_19 : decode prog_2_method_1_code 19 = .ok (.putfield 15, 3) := by decide +kernel
theorem dX0_init_22 : decode prog_2_method_1_code 22 = .ok (.return_, 1) := by decide +kernel
theorem kX0 {n i : Nat} {cs : Nat → CDs} {Q : Nat → (Nat → CDs) → Prop} (hi : i < n) (hc : cs i = cO 0 (dfl 0)) (hq : Q (n + 2) (cu (cu (cu cs i (cO 0 (fu (fu (dfl 0) 0 (Sum.inr (some n))) 1 (Sum.inr (some (n + 1)))))) n (cP 0 256 (fun _ => 0))) (n + 1) (cP 2 256 (fun _ => 0)))) : CtF 1 2 512 mX0_init i n cs Q := by
  refine CtF_of fX0_init rfl rfl (by decide) ?_
  refine F_aload 0 0 dX0_init_0 rfl rfl ?_
  refine F_objInit dX0_init_1 oi_X0 oi_im oi_cd (by decide) (Nat.le_of_ble_eq_true rfl) ?_
  refine F_aload 0 0 dX0_init_4 rfl rfl ?_
  refine F_sipush dX0_init_5 (by decide) ?_
  refine F_newaI (N := 256) dX0_init_8 ac_int (by decide) (by decide) (by decide) rfl ?_
  refine F_putR (r := n) (i := i) dX0_init_10 pf_X0_9 refAI (by omega) (by rw [cu_ne (by omega), hc]) rfl ?_
  refine F_aload 0 0 dX0_init_13 rfl rfl ?_
  refine F_sipush dX0_init_14 (by decide) ?_
  refine F_newaJ (N := 256) dX0_init_17 ac_long (by decide) (by decide) (by decide) rfl ?_
  refine F_putR (r := (n + 1)) (i := i) dX0_init_19 pf_X0_15 refAJ (by omega) (by rw [cu_ne (by omega), cu_self]) rfl ?_
  refine F_return dX0_init_22 rfl rfl ?_
  have e9 : (cu (cu (cu (cu cs n (cP 0 256 (fun _ => 0))) i (cO 0 (fu (dfl 0) 0 (Sum.inr (some n))))) (n + 1) (cP 2 256 (fun _ => 0))) i (cO 0 (fu (fu (dfl 0) 0 (Sum.inr (some n))) 1 (Sum.inr (some (n + 1)))))) = (cu (cu (cu cs i (cO 0 (fu (fu (dfl 0) 0 (Sum.inr (some n))) 1 (Sum.inr (some (n + 1)))))) n (cP 0 256 (fun _ => 0))) (n + 1) (cP 2 256 (fun _ => 0))) := by
    funext j
    simp only [cu]
    repeat' split
    all_goals first | rfl | (exfalso; omega)
  rw [e9]
  exact hq
theorem pf_X1_9 : FPF RX1 9 1 0 2 (.array .int) := ⟨RX1, TX1, 6, tyX1, rfl, i_X1, by decide, gX1_9, rfl, tyX1_ok, nmX1, rfl, rfl⟩
theorem pf_X1_15 : FPF RX1 15 1 1 2 (.array .int) := ⟨RX1, TX1, 6, tyX1, rfl, i_X1, by decide, gX1_15, rfl, tyX1_ok, nmX1, rfl, rfl⟩
theorem pf_X1_18 : FPF RX1 18 1 2 2 (.array .int) := ⟨RX1, TX1, 6, tyX1, rfl, i_X1, by decide, gX1_18, rfl, tyX1_ok, nmX1, rfl, rfl⟩
theorem pf_X1_21 : FPF RX1 21 1 3 0 .int := ⟨RX1, TX1, 6, tyX1, rfl, i_X1, by decide, gX1_21, rfl, tyX1_ok, nmX1, rfl, rfl⟩
theorem pf_X1_25 : FPF RX1 25 1 4 2 (.array .int) := ⟨RX1, TX1, 6, tyX1, rfl, i_X1, by decide, gX1_25, rfl, tyX1_ok, nmX1, rfl, rfl⟩
theorem pf_X1_28 : FPF RX1 28 1 5 2 (.array .int) := ⟨RX1, TX1, 6, tyX1, rfl, i_X1, by decide, gX1_28, rfl, tyX1_ok, nmX1, rfl, rfl⟩
theorem dX1_init_0 : decode prog_3_method_1_code 0 = .ok (.aload_n 0, 1) := by decide +kernel
theorem dX1_init_1 : decode prog_3_method_1_code 1 = .ok (.invokespecial 3, 3) := by decide +kernel
theorem dX1_init_4 : decode prog_3_method_1_code 4 = .ok (.aload_n 0, 1) := by decide +kernel
theorem dX1_init_5 : decode prog_3_method_1_code 5 = .ok (.bipush 28, 2) := by decide +kernel
theorem dX1_init_7 : decode prog_3_method_1_code 7 = .ok (.newarray .int, 2) := by decide +kernel
theorem dX1_init_9 : decode prog_3_method_1_code 9 = .ok (.putfield 9, 3) := by decide +kernel
theorem dX1_init_12 : decode prog_3_method_1_code 12 = .ok (.aload_n 0, 1) := by decide +kernel
theorem dX1_init_13 : decode prog_3_method_1_code 13 = .ok (.bipush 28, 2) := by decide +kernel
theorem dX1_init_15 : decode prog_3_method_1_code 15 = .ok (.newarray .int, 2) := by decide +kernel
theorem dX1_init_17 : decode prog_3_method_1_code 17 = .ok (.putfield 15, 3) := by decide +kernel
theorem dX1_init_20 : decode prog_3_method_1_code 20 = .ok (.aload_n 0, 1) := by decide +kernel
theorem dX1_init_21 : decode prog_3_method_1_code 21 = .ok (.bipush 28, 2) := by decide +kernel
theorem dX1_init_23 : decode prog_3_method_1_code 23 = .ok (.newarray .int, 2) := by decide +kernel
theorem dX1_init_25 : decode prog_3_method_1_code 25 = .ok (.putfield 18, 3) := by decide +kernel
theorem dX1_init_28 : decode prog_3_method_1_code 28 = .ok (.aload_n 0, 1) := by decide +kernel
theorem dX1_init_29 : decode prog_3_method_1_code 29 = .ok (.iconst 0, 1) := by decide +kernel
theorem dX1_init_30 : decode prog_3_method_1_code 30 = .ok (.putfield 21, 3) := by decide +kernel
theorem dX1_init_33 : decode prog_3_method_1_code 33 = .ok (.aload_n 0, 1) := by decide +kernel
theorem dX1_init_34 : decode prog_3_method_1_code 34 = .ok (.sipush 256, 3) := by decide +kernel
theorem dX1_init_37 : decode prog_3_method_1_code 37 = .ok (.newarray .int, 2) := by decide +kernel
theorem dX1_init_39 : decode prog_3_method_1_code 39 = .ok (.putfield 25, 3) := by decide +kernel
theorem dX1_init_42 : decode prog_3_method_1_code 42 = .ok (.aload_n 0, 1) := by decide +kernel
theorem dX1_init_43 : decode prog_3_method_1_code 43 = .ok (.sipush 256, 3) := by decide +kernel
theorem dX1_init_46 : decode prog_3_method_1_code 46 = .ok (.newarray .int, 2) := by decide +kernel
theorem dX1_init_48 : decode prog_3_method_1_code 48 = .ok (.putfield 28, 3) := by decide +kernel
theorem dX1_init_51 : decode prog_3_method_1_code 51 = .ok (.return_, 1) := by decide +kernel
theorem kX1 {n i : Nat} {cs : Nat → CDs} {Q : Nat → (Nat → CDs) → Prop} (hi : i < n) (hc : cs i = cO 1 (dfl 1)) (hq : Q (n + 5) (cu (cu (cu (cu (cu (cu cs i (cO 1 (fu (fu (fu (fu (fu (fu (dfl 1) 0 (Sum.inr (some n))) 1 (Sum.inr (some (n + 1)))) 2 (Sum.inr (some (n + 2)))) 3 (Sum.inl 0)) 4 (Sum.inr (some (n + 3)))) 5 (Sum.inr (some (n + 4)))))) n (cP 0 28 (fun _ => 0))) (n + 1) (cP 0 28 (fun _ => 0))) (n + 2) (cP 0 28 (fun _ => 0))) (n + 3) (cP 0 256 (fun _ => 0))) (n + 4) (cP 0 256 (fun _ => 0)))) : CtF 1 5 596 mX1_init i n cs Q := by
  refine CtF_of fX1_init rfl rfl (by decide) ?_
  refine F_aload 0 0 dX1_init_0 rfl rfl ?_
  refine F_objInit dX1_init_1 oi_X1 oi_im oi_cd (by decide) (Nat.le_of_ble_eq_true rfl) ?_
  refine F_aload 0 0 dX1_init_4 rfl rfl ?_
  refine F_bipush dX1_init_5 (by decide) ?_
  refine F_newaI (N := 28) dX1_init_7 ac_int (by decide) (by decide) (by decide) rfl ?_
  refine F_putR (r := n) (i := i) dX1_init_9 pf_X1_9 refAI (by omega) (by rw [cu_ne (by omega), hc]) rfl ?_
  refine F_aload 0 0 dX1_init_12 rfl rfl ?_
  refine F_bipush dX1_init_13 (by decide) ?_
  refine F_newaI (N := 28) dX1_init_15 ac_int (by decide) (by decide) (by decide) rfl ?_
  refine F_putR (r := (n + 1)) (i := i) dX1_init_17 pf_X1_15 refAI (by omega) (by rw [cu_ne (by omega), cu_self]) rfl ?_
  refine F_aload 0 0 dX1_init_20 rfl rfl ?_
  refine F_bipush dX1_init_21 (by decide) ?_
  refine F_newaI (N := 28) dX1_init_23 ac_int (by decide) (by decide) (by decide) rfl ?_
  refine F_putR (r := (n + 2)) (i := i) dX1_init_25 pf_X1_18 refAI (by omega) (by rw [cu_ne (by omega), cu_self]) rfl ?_
  refine F_aload 0 0 dX1_init_28 rfl rfl ?_
  refine F_iconst dX1_init_29 ?_
  refine F_putI (i := i) dX1_init_30 pf_X1_21 (by omega) (by rw [cu_self]) rfl ?_
  refine F_aload 0 0 dX1_init_33 rfl rfl ?_
  refine F_sipush dX1_init_34 (by decide) ?_
  refine F_newaI (N := 256) dX1_init_37 ac_int (by decide) (by decide) (by decide) rfl ?_
  refine F_putR (r := (n + 3)) (i := i) dX1_init_39 pf_X1_25 refAI (by omega) (by rw [cu_ne (by omega), cu_self]) rfl ?_
  refine F_aload 0 0 dX1_init_42 rfl rfl ?_
  refine F_sipush dX1_init_43 (by decide) ?_
  refine F_newaI (N := 256) dX1_init_46 ac_int (by decide) (by decide) (by decide) rfl ?_
  refine F_putR (r := (n + 4)) (i := i) dX1_init_48 pf_X1_28 refAI (by omega) (by rw [cu_ne (by omega), cu_self]) rfl ?_
  refine F_return dX1_init_51 rfl rfl ?_
  have e9 : (cu (cu (cu (cu (cu (cu (cu (cu (cu (cu (cu cs n (cP 0 28 (fun _ => 0))) i (cO 1 (fu (dfl 1) 0 (Sum.inr (some n))))) (n + 1) (cP 0 28 (fun _ => 0))) i (cO 1 (fu (fu (dfl 1) 0 (Sum.inr (some n))) 1 (Sum.inr (some (n + 1)))))) (n + 2) (cP 0 28 (fun _ => 0))) i (cO 1 (fu (fu (fu (dfl 1) 0 (Sum.inr (some n))) 1 (Sum.inr (some (n + 1)))) 2 (Sum.inr (some (n + 2)))))) i (cO 1 (fu (fu (fu (fu (dfl 1) 0 (Sum.inr (some n))) 1 (Sum.inr (some (n + 1)))) 2 (Sum.inr (some (n + 2)))) 3 (Sum.inl 0)))) (n + 3) (cP 0 256 (fun _ => 0))) i (cO 1 (fu (fu (fu (fu (fu (dfl 1) 0 (Sum.inr (some n))) 1 (Sum.inr (some (n + 1)))) 2 (Sum.inr (some (n + 2)))) 3 (Sum.inl 0)) 4 (Sum.inr (some (n + 3)))))) (n + 4) (cP 0 256 (fun _ => 0))) i (cO 1 (fu (fu (fu (fu (fu (fu (dfl 1) 0 (Sum.inr (some n))) 1 (Sum.inr (some (n + 1)))) 2 (Sum.inr (some (n + 2)))) 3 (Sum.inl 0)) 4 (Sum.inr (some (n + 3)))) 5 (Sum.inr (some (n + 4)))))) = (cu (cu (cu (cu (cu (cu cs i (cO 1 (fu (fu (fu (fu (fu (fu (dfl 1) 0 (Sum.inr (some n))) 1 (Sum.inr (some (n + 1)))) 2 (Sum.inr (some (n + 2)))) 3 (Sum.inl 0)) 4 (Sum.inr (some (n + 3)))) 5 (Sum.inr (some (n + 4)))))) n (cP 0 28 (fun _ => 0))) (n + 1) (cP 0 28 (fun _ => 0))) (n + 2) (cP 0 28 (fun _ => 0))) (n + 3) (cP 0 256 (fun _ => 0))) (n + 4) (cP 0 256 (fun _ => 0))) := by
    funext j
    simp only [cu]
    repeat' split
    all_goals first | rfl | (exfalso; omega)
  rw [e9]
  exact hq
theorem pf_X3_9 : FPF RX3 9 3 0 0 .int := ⟨RX3, TX3, 5, tyX3, rfl, i_X3, by decide, gX3_9, rfl, tyX3_ok, nmX3, rfl, rfl⟩
theorem pf_X3_15 : FPF RX3 15 3 1 0 .int := ⟨RX3, TX3, 5, tyX3, rfl, i_X3, by decide, gX3_15, rfl, tyX3_ok, nmX3, rfl, rfl⟩
theorem pf_X3_18 : FPF RX3 18 3 2 2 (.array .int) := ⟨RX3, TX3, 5, tyX3, rfl, i_X3, by decide, gX3_18, rfl, tyX3_ok, nmX3, rfl, rfl⟩
theorem pf_X3_22 : FPF RX3 22 3 3 2 (.array .int) := ⟨RX3, TX3, 5, tyX3, rfl, i_X3, by decide, gX3_22, rfl, tyX3_ok, nmX3, rfl, rfl⟩
theorem pf_X3_25 : FPF RX3 25 3 4 2 (.array .int) := ⟨RX3, TX3, 5, tyX3, rfl, i_X3, by decide, gX3_25, rfl, tyX3_ok, nmX3, rfl, rfl⟩
theorem dX3_init_0 : decode prog_5_method_1_code 0 = .ok (.aload_n 0, 1) := by decide +kernel
theorem dX3_init_1 : decode prog_5_method_1_code 1 = .ok (.invokespecial 3, 3) := by decide +kernel
theorem dX3_init_4 : decode prog_5_method_1_code 4 = .ok (.aload_n 0, 1) := by decide +kernel
theorem dX3_init_5 : decode prog_5_method_1_code 5 = .ok (.iconst 2, 1) := by decide +kernel
theorem dX3_init_6 : decode prog_5_method_1_code 6 = .ok (.putfield 9, 3) := by decide +kernel
theorem dX3_init_9 : decode prog_5_method_1_code 9 = .ok (.aload_n 0, 1) := by decide +kernel
theorem dX3_init_10 : decode prog_5_method_1_code 10 = .ok (.iconst 0, 1) := by decide +kernel
theorem dX3_init_11 : decode prog_5_method_1_code 11 = .ok (.putfield 15, 3) := by decide +kernel
theorem dX3_init_14 : decode prog_5_method_1_code 14 = .ok (.aload_n 0, 1) := by decide +kernel
theorem dX3_init_15 : decode prog_5_method_1_code 15 = .ok (.bipush 40, 2) := by decide +kernel
theorem dX3_init_17 : decode prog_5_method_1_code 17 = .ok (.newarray .int, 2) := by decide +kernel
theorem dX3_init_19 : decode prog_5_method_1_code 19 = .ok (.putfield 18, 3) := by decide +kernel
theorem dX3_init_22 : decode prog_5_method_1_code 22 = .ok (.aload_n 0, 1) := by decide +kernel
theorem dX3_init_23 : decode prog_5_method_1_code 23 = .ok (.bipush 40, 2) := by decide +kernel
theorem dX3_init_25 : decode prog_5_method_1_code 25 = .ok (.newarray .int, 2) := by decide +kernel
theorem dX3_init_27 : decode prog_5_method_1_code 27 = .ok (.putfield 22, 3) := by decide +kernel
theorem dX3_init_30 : decode prog_5_method_1_code 30 = .ok (.aload_n 0, 1) := by decide +kernel
theorem dX3_init_31 : decode prog_5_method_1_code 31 = .ok (.bipush 8, 2) := by decide +kernel
theorem dX3_init_33 : decode prog_5_method_1_code 33 = .ok (.newarray .int, 2) := by decide +kernel
theorem dX3_init_35 : decode prog_5_method_1_code 35 = .ok (.putfield 25, 3) := by decide +kernel
theorem dX3_init_38 : decode prog_5_method_1_code 38 = .ok (.return_, 1) := by decide +kernel
theorem kX3 {n i : Nat} {cs : Nat → CDs} {Q : Nat → (Nat → CDs) → Prop} (hi : i < n) (hc : cs i = cO 3 (dfl 3)) (hq : Q (n + 3) (cu (cu (cu (cu cs i (cO 3 (fu (fu (fu (fu (fu (dfl 3) 0 (Sum.inl 2)) 1 (Sum.inl 0)) 2 (Sum.inr (some n))) 3 (Sum.inr (some (n + 1)))) 4 (Sum.inr (some (n + 2)))))) n (cP 0 40 (fun _ => 0))) (n + 1) (cP 0 40 (fun _ => 0))) (n + 2) (cP 0 8 (fun _ => 0)))) : CtF 1 3 88 mX3_init i n cs Q := by
  refine CtF_of fX3_init rfl rfl (by decide) ?_
  refine F_aload 0 0 dX3_init_0 rfl rfl ?_
  refine F_objInit dX3_init_1 oi_X3 oi_im oi_cd (by decide) (Nat.le_of_ble_eq_true rfl) ?_
  refine F_aload 0 0 dX3_init_4 rfl rfl ?_
  refine F_iconst dX3_init_5 ?_
  refine F_putI (i := i) dX3_init_6 pf_X3_9 (by omega) hc rfl ?_
  refine F_aload 0 0 dX3_init_9 rfl rfl ?_
  refine F_iconst dX3_init_10 ?_
  refine F_putI (i := i) dX3_init_11 pf_X3_15 (by omega) (by rw [cu_self]) rfl ?_
  refine F_aload 0 0 dX3_init_14 rfl rfl ?_
  refine F_bipush dX3_init_15 (by decide) ?_
  refine F_newaI (N := 40) dX3_init_17 ac_int (by decide) (by decide) (by decide) rfl ?_
  refine F_putR (r := n) (i := i) dX3_init_19 pf_X3_18 refAI (by omega) (by rw [cu_ne (by omega), cu_self]) rfl ?_
  refine F_aload 0 0 dX3_init_22 rfl rfl ?_
  refine F_bipush dX3_init_23 (by decide) ?_
  refine F_newaI (N := 40) dX3_init_25 ac_int (by decide) (by decide) (by decide) rfl ?_
  refine F_putR (r := (n + 1)) (i := i) dX3_init_27 pf_X3_22 refAI (by omega) (by rw [cu_ne (by omega), cu_self]) rfl ?_
  refine F_aload 0 0 dX3_init_30 rfl rfl ?_
  refine F_bipush dX3_init_31 (by decide) ?_
  refine F_newaI (N := 8) dX3_init_33 ac_int (by decide) (by decide) (by decide) rfl ?_
  refine F_putR (r := (n + 2)) (i := i) dX3_init_35 pf_X3_25 refAI (by omega) (by rw [cu_ne (by omega), cu_self]) rfl ?_
  refine F_return dX3_init_38 rfl rfl ?_
  have e9 : (cu (cu (cu (cu (cu (cu (cu (cu cs i (cO 3 (fu (dfl 3) 0 (Sum.inl 2)))) i (cO 3 (fu (fu (dfl 3) 0 (Sum.inl 2)) 1 (Sum.inl 0)))) n (cP 0 40 (fun _ => 0))) i (cO 3 (fu (fu (fu (dfl 3) 0 (Sum.inl 2)) 1 (Sum.inl 0)) 2 (Sum.inr (some n))))) (n + 1) (cP 0 40 (fun _ => 0))) i (cO 3 (fu (fu (fu (fu (dfl 3) 0 (Sum.inl 2)) 1 (Sum.inl 0)) 2 (Sum.inr (some n))) 3 (Sum.inr (some (n + 1)))))) (n + 2) (cP 0 8 (fun _ => 0))) i (cO 3 (fu (fu (fu (fu (fu (dfl 3) 0 (Sum.inl 2)) 1 (Sum.inl 0)) 2 (Sum.inr (some n))) 3 (Sum.inr (some (n + 1)))) 4 (Sum.inr (some (n + 2)))))) = (cu (cu (cu (cu cs i (cO 3 (fu (fu (fu (fu (fu (dfl 3) 0 (Sum.inl 2)) 1 (Sum.inl 0)) 2 (Sum.inr (some n))) 3 (Sum.inr (some (n + 1)))) 4 (Sum.inr (some (n + 2)))))) n (cP 0 40 (fun _ => 0))) (n + 1) (cP 0 40 (fun _ => 0))) (n + 2) (cP 0 8 (fun _ => 0))) := by
    funext j
    simp only [cu]
    repeat' split
    all_goals first | rfl | (exfalso; omega)
  rw [e9]
  exact hq
theorem pf_X4_9 : FPF RX4 9 4 0 2 (.array .boolean) := ⟨RX4, TX4, 4, tyX4, rfl, i_X4, by decide, gX4_9, rfl, tyX4_ok, nmX4, rfl, rfl⟩
theorem pf_X4_15 : FPF RX4 15 4 1 2 (.array .int) := ⟨RX4, TX4, 4, tyX4, rfl, i_X4, by decide, gX4_15, rfl, tyX4_ok, nmX4, rfl, rfl⟩
theorem pf_X4_19 : FPF RX4 19 4 2 0 .int := ⟨RX4, TX4, 4, tyX4, rfl, i_X4, by decide, gX4_19, rfl, tyX4_ok, nmX4, rfl, rfl⟩
theorem pf_X4_23 : FPF RX4 23 4 3 0 .int := ⟨RX4, TX4, 4, tyX4, rfl, i_X4, by decide, gX4_23, rfl, tyX4_ok, nmX4, rfl, rfl⟩
theorem dX4_init_0 : decode prog_6_method_1_code 0 = .ok (.aload_n 0, 1) := by decide +kernel
theorem dX4_init_1 : decode prog_6_method_1_code 1 = .ok (.invokespecial 3, 3) := by decide +kernel
theorem dX4_init_4 : decode prog_6_method_1_code 4 = .ok (.aload_n 0, 1) := by decide +kernel
theorem dX4_init_5 : decode prog_6_method_1_code 5 = .ok (.sipush 256, 3) := by decide +kernel
theorem dX4_init_8 : decode prog_6_method_1_code 8 = .ok (.newarray .boolean, 2) := by decide +kernel
theorem dX4_init_10 : decode prog_6_method_1_code 10 = .ok (.putfield 9, 3) := by decide +kernel
theorem dX4_init_13 : decode prog_6_method_1_code 13 = .ok (.aload_n 0, 1) := by decide +kernel
theorem dX4_init_14 : decode prog_6_method_1_code 14 = .ok (.sipush 256, 3) := by decide +kernel
theorem dX4_init_17 : decode prog_6_method_1_code 17 = .ok (.newarray .int, 2) := by decide +kernel
theorem dX4_init_19 : decode prog_6_method_1_code 19 = .ok (.putfield 15, 3) := by decide +kernel
theorem dX4_init_22 : decode prog_6_method_1_code 22 = .ok (.aload_n 0, 1) := by decide +kernel
theorem dX4_init_23 : decode prog_6_method_1_code 23 = .ok (.iconst 2, 1) := by decide +kernel
theorem dX4_init_24 : decode prog_6_method_1_code 24 = .ok (.putfield 19, 3) := by decide +kernel
theorem dX4_init_27 : decode prog_6_method_1_code 27 = .ok (.aload_n 0, 1) := by decide +kernel
theorem dX4_init_28 : decode prog_6_method_1_code 28 = .ok (.iconst 0, 1) := by decide +kernel
theorem dX4_init_29 : decode prog_6_method_1_code 29 = .ok (.putfield 23, 3) := by decide +kernel
theorem dX4_init_32 : decode prog_6_method_1_code 32 = .ok (.return_, 1) := by decide +kernel
theorem kX4 {n i : Nat} {cs : Nat → CDs} {Q : Nat → (Nat → CDs) → Prop} (hi : i < n) (hc : cs i = cO 4 (dfl 4)) (hq : Q (n + 2) (cu (cu (cu cs i (cO 4 (fu (fu (fu (fu (dfl 4) 0 (Sum.inr (some n))) 1 (Sum.inr (some (n + 1)))) 2 (Sum.inl 2)) 3 (Sum.inl 0)))) n (cP 1 256 (fun _ => 0))) (n + 1) (cP 0 256 (fun _ => 0)))) : CtF 1 2 512 mX4_init i n cs Q := by
  refine CtF_of fX4_init rfl rfl (by decide) ?_
  refine F_aload 0 0 dX4_init_0 rfl rfl ?_
  refine F_objInit dX4_init_1 oi_X4 oi_im oi_cd (by decide) (Nat.le_of_ble_eq_true rfl) ?_
  refine F_aload 0 0 dX4_init_4 rfl rfl ?_
  refine F_sipush dX4_init_5 (by decide) ?_
  refine F_newaZ (N := 256) dX4_init_8 ac_boolean (by decide) (by decide) (by decide) rfl ?_
  refine F_putR (r := n) (i := i) dX4_init_10 pf_X4_9 refAZ (by omega) (by rw [cu_ne (by omega), hc]) rfl ?_
  refine F_aload 0 0 dX4_init_13 rfl rfl ?_
  refine F_sipush dX4_init_14 (by decide) ?_
  refine F_newaI (N := 256) dX4_init_17 ac_int (by decide) (by decide) (by decide) rfl ?_
  refine F_putR (r := (n + 1)) (i := i) dX4_init_19 pf_X4_15 refAI (by omega) (by rw [cu_ne (by omega), cu_self]) rfl ?_
  refine F_aload 0 0 dX4_init_22 rfl rfl ?_
  refine F_iconst dX4_init_23 ?_
  refine F_putI (i := i) dX4_init_24 pf_X4_19 (by omega) (by rw [cu_self]) rfl ?_
  refine F_aload 0 0 dX4_init_27 rfl rfl ?_
  refine F_iconst dX4_init_28 ?_
  refine F_putI (i := i) dX4_init_29 pf_X4_23 (by omega) (by rw [cu_self]) rfl ?_
  refine F_return dX4_init_32 rfl rfl ?_
  have e9 : (cu (cu (cu (cu (cu (cu cs n (cP 1 256 (fun _ => 0))) i (cO 4 (fu (dfl 4) 0 (Sum.inr (some n))))) (n + 1) (cP 0 256 (fun _ => 0))) i (cO 4 (fu (fu (dfl 4) 0 (Sum.inr (some n))) 1 (Sum.inr (some (n + 1)))))) i (cO 4 (fu (fu (fu (dfl 4) 0 (Sum.inr (some n))) 1 (Sum.inr (some (n + 1)))) 2 (Sum.inl 2)))) i (cO 4 (fu (fu (fu (fu (dfl 4) 0 (Sum.inr (some n))) 1 (Sum.inr (some (n + 1)))) 2 (Sum.inl 2)) 3 (Sum.inl 0)))) = (cu (cu (cu cs i (cO 4 (fu (fu (fu (fu (dfl 4) 0 (Sum.inr (some n))) 1 (Sum.inr (some (n + 1)))) 2 (Sum.inl 2)) 3 (Sum.inl 0)))) n (cP 1 256 (fun _ => 0))) (n + 1) (cP 0 256 (fun _ => 0))) := by
    funext j
    simp only [cu]
    repeat' split
    all_goals first | rfl | (exfalso; omega)
  rw [e9]
  exact hq
theorem pf_X5_9 : FPF RX5 9 5 0 2 (.array .int) := ⟨RX5, TX5, 2, tyX5, rfl, i_X5, by decide, gX5_9, rfl, tyX5_ok, nmX5, rfl, rfl⟩
theorem pf_X5_15 : FPF RX5 15 5 1 2 (.array .int) := ⟨RX5, TX5, 2, tyX5, rfl, i_X5, by decide, gX5_15, rfl, tyX5_ok, nmX5, rfl, rfl⟩
theorem dX5_init_0 : decode prog_7_method_1_code 0 = .ok (.aload_n 0, 1) := by decide +kernel
theorem dX5_init_1 : decode prog_7_method_1_code 1 = .ok (.invokespecial 3, 3) := by decide +kernel
theorem dX5_init_4 : decode prog_7_method_1_code 4 = .ok (.aload_n 0, 1) := by decide +kernel
theorem dX5_init_5 : decode prog_7_method_1_code 5 = .ok (.bipush 8, 2) := by decide +kernel
theorem dX5_init_7 : decode prog_7_method_1_code 7 = .ok (.newarray .int, 2) := by decide +kernel
theorem dX5_init_9 : decode prog_7_method_1_code 9 = .ok (.putfield 9, 3) := by decide +kernel
theorem dX5_init_12 : decode prog_7_method_1_code 12 = .ok (.aload_n 0, 1) := by decide +kernel
theorem dX5_init_13 : decode prog_7_method_1_code 13 = .ok (.bipush 8, 2) := by decide +kernel
theorem dX5_init_15 : decode prog_7_method_1_code 15 = .ok (.newarray .int, 2) := by decide +kernel
theorem dX5_init_17 : decode prog_7_method_1_code 17 = .ok (.putfield 15, 3) := by decide +kernel
theorem dX5_init_20 : decode prog_7_method_1_code 20 = .ok (.return_, 1) := by decide +kernel
theorem kX5 {n i : Nat} {cs : Nat → CDs} {Q : Nat → (Nat → CDs) → Prop} (hi : i < n) (hc : cs i = cO 5 (dfl 5)) (hq : Q (n + 2) (cu (cu (cu cs i (cO 5 (fu (fu (dfl 5) 0 (Sum.inr (some n))) 1 (Sum.inr (some (n + 1)))))) n (cP 0 8 (fun _ => 0))) (n + 1) (cP 0 8 (fun _ => 0)))) : CtF 1 2 16 mX5_init i n cs Q := by
  refine CtF_of fX5_init rfl rfl (by decide) ?_
  refine F_aload 0 0 dX5_init_0 rfl rfl ?_
  refine F_objInit dX5_init_1 oi_X5 oi_im oi_cd (by decide) (Nat.le_of_ble_eq_true rfl) ?_
  refine F_aload 0 0 dX5_init_4 rfl rfl ?_
  refine F_bipush dX5_init_5 (by decide) ?_
  refine F_newaI (N := 8) dX5_init_7 ac_int (by decide) (by decide) (by decide) rfl ?_
  refine F_putR (r := n) (i := i) dX5_init_9 pf_X5_9 refAI (by omega) (by rw [cu_ne (by omega), hc]) rfl ?_
  refine F_aload 0 0 dX5_init_12 rfl rfl ?_
  refine F_bipush dX5_init_13 (by decide) ?_
  refine F_newaI (N := 8) dX5_init_15 ac_int (by decide) (by decide) (by decide) rfl ?_
  refine F_putR (r := (n + 1)) (i := i) dX5_init_17 pf_X5_15 refAI (by omega) (by rw [cu_ne (by omega), cu_self]) rfl ?_
  refine F_return dX5_init_20 rfl rfl ?_
  have e9 : (cu (cu (cu (cu cs n (cP 0 8 (fun _ => 0))) i (cO 5 (fu (dfl 5) 0 (Sum.inr (some n))))) (n + 1) (cP 0 8 (fun _ => 0))) i (cO 5 (fu (fu (dfl 5) 0 (Sum.inr (some n))) 1 (Sum.inr (some (n + 1)))))) = (cu (cu (cu cs i (cO 5 (fu (fu (dfl 5) 0 (Sum.inr (some n))) 1 (Sum.inr (some (n + 1)))))) n (cP 0 8 (fun _ => 0))) (n + 1) (cP 0 8 (fun _ => 0))) := by
    funext j
    simp only [cu]
    repeat' split
    all_goals first | rfl | (exfalso; omega)
  rw [e9]
  exact hq
theorem pf_X6_11 : FPF RX6 11 6 0 0 .int := ⟨RX6, TX6, 3, tyX6, rfl, i_X6, by decide, gX6_11, rfl, tyX6_ok, nmX6, rfl, rfl⟩
theorem pf_X6_15 : FPF RX6 15 6 1 0 .int := ⟨RX6, TX6, 3, tyX6, rfl, i_X6, by decide, gX6_15, rfl, tyX6_ok, nmX6, rfl, rfl⟩
theorem pf_X6_18 : FPF RX6 18 6 2 0 .int := ⟨RX6, TX6, 3, tyX6, rfl, i_X6, by decide, gX6_18, rfl, tyX6_ok, nmX6, rfl, rfl⟩
theorem dX6_init_0 : decode prog_8_method_1_code 0 = .ok (.aload_n 0, 1) := by decide +kernel
theorem dX6_init_1 : decode prog_8_method_1_code 1 = .ok (.invokespecial 3, 3) := by decide +kernel
theorem dX6_init_4 : decode prog_8_method_1_code 4 = .ok (.aload_n 0, 1) := by decide +kernel
theorem dX6_init_5 : decode prog_8_method_1_code 5 = .ok (.iconst (-1), 1) := by decide +kernel
theorem dX6_init_6 : decode prog_8_method_1_code 6 = .ok (.putfield 11, 3) := by decide +kernel
theorem dX6_init_9 : decode prog_8_method_1_code 9 = .ok (.aload_n 0, 1) := by decide +kernel
theorem dX6_init_10 : decode prog_8_method_1_code 10 = .ok (.iconst 0, 1) := by decide +kernel
theorem dX6_init_11 : decode prog_8_method_1_code 11 = .ok (.putfield 15, 3) := by decide +kernel
theorem dX6_init_14 : decode prog_8_method_1_code 14 = .ok (.aload_n 0, 1) := by decide +kernel
theorem dX6_init_15 : decode prog_8_method_1_code 15 = .ok (.iconst 0, 1) := by decide +kernel
theorem dX6_init_16 : decode prog_8_method_1_code 16 = .ok (.putfield 18, 3) := by decide +kernel
theorem dX6_init_19 : decode prog_8_method_1_code 19 = .ok (.return_, 1) := by decide +kernel
theorem kX6 {n i : Nat} {cs : Nat → CDs} {Q : Nat → (Nat → CDs) → Prop} (hi : i < n) (hc : cs i = cO 6 (dfl 6)) (hq : Q (n + 0) (cu cs i (cO 6 (fu (fu (fu (dfl 6) 0 (Sum.inl (-1))) 1 (Sum.inl 0)) 2 (Sum.inl 0))))) : CtF 1 0 0 mX6_init i n cs Q := by
  refine CtF_of fX6_init rfl rfl (by decide) ?_
  refine F_aload 0 0 dX6_init_0 rfl rfl ?_
  refine F_objInit dX6_init_1 oi_X6 oi_im oi_cd (by decide) (Nat.le_of_ble_eq_true rfl) ?_
  refine F_aload 0 0 dX6_init_4 rfl rfl ?_
  refine F_iconst dX6_init_5 ?_
  refine F_putI (i := i) dX6_init_6 pf_X6_11 (by omega) hc rfl ?_
  refine F_aload 0 0 dX6_init_9 rfl rfl ?_
  refine F_iconst dX6_init_10 ?_
  refine F_putI (i := i) dX6_init_11 pf_X6_15 (by omega) (by rw [cu_self]) rfl ?_
  refine F_aload 0 0 dX6_init_14 rfl rfl ?_
  refine F_iconst dX6_init_15 ?_
  refine F_putI (i := i) dX6_init_16 pf_X6_18 (by omega) (by rw [cu_self]) rfl ?_
  refine F_return dX6_init_19 rfl rfl ?_
  have e9 : (cu (cu (cu cs i (cO 6 (fu (dfl 6) 0 (Sum.inl (-1))))) i (cO 6 (fu (fu (dfl 6) 0 (Sum.inl (-1))) 1 (Sum.inl 0)))) i (cO 6 (fu (fu (fu (dfl 6) 0 (Sum.inl (-1))) 1 (Sum.inl 0)) 2 (Sum.inl 0)))) = (cu cs i (cO 6 (fu (fu (fu (dfl 6) 0 (Sum.inl (-1))) 1 (Sum.inl 0)) 2 (Sum.inl 0)))) := by
    funext j
    simp only [cu]
    repeat' split
    all_goals first | rfl | (exfalso; omega)
  rw [e9]
  exact hq
theorem pf_X7_11 : FPF RX7 11 7 0 2 (.array .long) := ⟨RX7, TX7, 3, tyX7, rfl, i_X7, by decide, gX7_11, rfl, tyX7_ok, nmX7, rfl, rfl⟩
theorem pf_X7_15 : FPF RX7 15 7 1 0 .int := ⟨RX7, TX7, 3, tyX7, rfl, i_X7, by decide, gX7_15, rfl, tyX7_ok, nmX7, rfl, rfl⟩
theorem pf_X7_19 : FPF RX7 19 7 2 0 .int := ⟨RX7, TX7, 3, tyX7, rfl, i_X7, by decide, gX7_19, rfl, tyX7_ok, nmX7, rfl, rfl⟩
theorem dX7_init_0 : decode prog_9_method_1_code 0 = .ok (.aload_n 0, 1) := by decide +kernel
theorem dX7_init_1 : decode prog_9_method_1_code 1 = .ok (.invokespecial 5, 3) := by decide +kernel
theorem dX7_init_4 : decode prog_9_method_1_code 4 = .ok (.aload_n 0, 1) := by decide +kernel
theorem dX7_init_5 : decode prog_9_method_1_code 5 = .ok (.bipush 32, 2) := by decide +kernel
theorem dX7_init_7 : decode prog_9_method_1_code 7 = .ok (.newarray .long, 2) := by decide +kernel
theorem dX7_init_9 : decode prog_9_method_1_code 9 = .ok (.putfield 11, 3) := by decide +kernel
theorem dX7_init_12 : decode prog_9_method_1_code 12 = .ok (.aload_n 0, 1) := by decide +kernel
theorem dX7_init_13 : decode prog_9_method_1_code 13 = .ok (.iconst 2, 1) := by decide +kernel
theorem dX7_init_14 : decode prog_9_method_1_code 14 = .ok (.putfield 15, 3) := by decide +kernel
theorem dX7_init_17 : decode prog_9_method_1_code 17 = .ok (.aload_n 0, 1) := by decide +kernel
theorem dX7_init_18 : decode prog_9_method_1_code 18 = .ok (.iconst 1, 1) := by decide +kernel
theorem dX7_init_19 : decode prog_9_method_1_code 19 = .ok (.putfield 19, 3) := by decide +kernel
theorem dX7_init_22 : decode prog_9_method_1_code 22 = .ok (.return_, 1) := by decide +kernel
theorem kX7 {n i : Nat} {cs : Nat → CDs} {Q : Nat → (Nat → CDs) → Prop} (hi : i < n) (hc : cs i = cO 7 (dfl 7)) (hq : Q (n + 1) (cu (cu cs i (cO 7 (fu (fu (fu (dfl 7) 0 (Sum.inr (some n))) 1 (Sum.inl 2)) 2 (Sum.inl 1)))) n (cP 2 32 (fun _ => 0)))) : CtF 1 1 32 mX7_init i n cs Q := by
  refine CtF_of fX7_init rfl rfl (by decide) ?_
  refine F_aload 0 0 dX7_init_0 rfl rfl ?_
  refine F_objInit dX7_init_1 oi_X7 oi_im oi_cd (by decide) (Nat.le_of_ble_eq_true rfl) ?_
  refine F_aload 0 0 dX7_init_4 rfl rfl ?_
  refine F_bipush dX7_init_5 (by decide) ?_
  refine F_newaJ (N := 32) dX7_init_7 ac_long (by decide) (by decide) (by decide) rfl ?_
  refine F_putR (r := n) (i := i) dX7_init_9 pf_X7_11 refAJ (by omega) (by rw [cu_ne (by omega), hc]) rfl ?_
  refine F_aload 0 0 dX7_init_12 rfl rfl ?_
  refine F_iconst dX7_init_13 ?_
  refine F_putI (i := i) dX7_init_14 pf_X7_15 (by omega) (by rw [cu_self]) rfl ?_
  refine F_aload 0 0 dX7_init_17 rfl rfl ?_
  refine F_iconst dX7_init_18 ?_
  refine F_putI (i := i) dX7_init_19 pf_X7_19 (by omega) (by rw [cu_self]) rfl ?_
  refine F_return dX7_init_22 rfl rfl ?_
  have e9 : (cu (cu (cu (cu cs n (cP 2 32 (fun _ => 0))) i (cO 7 (fu (dfl 7) 0 (Sum.inr (some n))))) i (cO 7 (fu (fu (dfl 7) 0 (Sum.inr (some n))) 1 (Sum.inl 2)))) i (cO 7 (fu (fu (fu (dfl 7) 0 (Sum.inr (some n))) 1 (Sum.inl 2)) 2 (Sum.inl 1)))) = (cu (cu cs i (cO 7 (fu (fu (fu (dfl 7) 0 (Sum.inr (some n))) 1 (Sum.inl 2)) 2 (Sum.inl 1)))) n (cP 2 32 (fun _ => 0))) := by
    funext j
    simp only [cu]
    repeat' split
    all_goals first | rfl | (exfalso; omega)
  rw [e9]
  exact hq
theorem pf_X8_9 : FPF RX8 9 8 0 2 (.array .int) := ⟨RX8, TX8, 2, tyX8, rfl, i_X8, by decide, gX8_9, rfl, tyX8_ok, nmX8, rfl, rfl⟩
theorem pf_X8_15 : FPF RX8 15 8 1 0 .int := ⟨RX8, TX8, 2, tyX8, rfl, i_X8, by decide, gX8_15, rfl, tyX8_ok, nmX8, rfl, rfl⟩
theorem dX8_init_0 : decode prog_10_method_1_code 0 = .ok (.aload_n 0, 1) := by decide +kernel
theorem dX8_init_1 : decode prog_10_method_1_code 1 = .ok (.invokespecial 3, 3) := by decide +kernel
theorem dX8_init_4 : decode prog_10_method_1_code 4 = .ok (.aload_n 0, 1) := by decide +kernel
theorem dX8_init_5 : decode prog_10_method_1_code 5 = .ok (.bipush 60, 2) := by decide +kernel
theorem dX8_init_7 : decode prog_10_method_1_code 7 = .ok (.newarray .int, 2) := by decide +kernel
theorem dX8_init_9 : decode prog_10_method_1_code 9 = .ok (.putfield 9, 3) := by decide +kernel
theorem dX8_init_12 : decode prog_10_method_1_code 12 = .ok (.aload_n 0, 1) := by decide +kernel
theorem dX8_init_13 : decode prog_10_method_1_code 13 = .ok (.iconst 0, 1) := by decide +kernel
theorem dX8_init_14 : decode prog_10_method_1_code 14 = .ok (.putfield 15, 3) := by decide +kernel
theorem dX8_init_17 : decode prog_10_method_1_code 17 = .ok (.return_, 1) := by decide +kernel
theorem kX8 {n i : Nat} {cs : Nat → CDs} {Q : Nat → (Nat → CDs) → Prop} (hi : i < n) (hc : cs i = cO 8 (dfl 8)) (hq : Q (n + 1) (cu (cu cs i (cO 8 (fu (fu (dfl 8) 0 (Sum.inr (some n))) 1 (Sum.inl 0)))) n (cP 0 60 (fun _ => 0)))) : CtF 1 1 60 mX8_init i n cs Q := by
  refine CtF_of fX8_init rfl rfl (by decide) ?_
  refine F_aload 0 0 dX8_init_0 rfl rfl ?_
  refine F_objInit dX8_init_1 oi_X8 oi_im oi_cd (by decide) (Nat.le_of_ble_eq_true rfl) ?_
  refine F_aload 0 0 dX8_init_4 rfl rfl ?_
  refine F_bipush dX8_init_5 (by decide) ?_
  refine F_newaI (N := 60) dX8_init_7 ac_int (by decide) (by decide) (by decide) rfl ?_
  refine F_putR (r := n) (i := i) dX8_init_9 pf_X8_9 refAI (by omega) (by rw [cu_ne (by omega), hc]) rfl ?_
  refine F_aload 0 0 dX8_init_12 rfl rfl ?_
  refine F_iconst dX8_init_13 ?_
  refine F_putI (i := i) dX8_init_14 pf_X8_15 (by omega) (by rw [cu_self]) rfl ?_
  refine F_return dX8_init_17 rfl rfl ?_
  have e9 : (cu (cu (cu cs n (cP 0 60 (fun _ => 0))) i (cO 8 (fu (dfl 8) 0 (Sum.inr (some n))))) i (cO 8 (fu (fu (dfl 8) 0 (Sum.inr (some n))) 1 (Sum.inl 0)))) = (cu (cu cs i (cO 8 (fu (fu (dfl 8) 0 (Sum.inr (some n))) 1 (Sum.inl 0)))) n (cP 0 60 (fun _ => 0))) := by
    funext j
    simp only [cu]
    repeat' split
    all_goals first | rfl | (exfalso; omega)
  rw [e9]
  exact hq
theorem pf_X9_9 : FPF RX9 9 9 0 0 .boolean := ⟨RX9, TX9, 4, tyX9, rfl, i_X9, by decide, gX9_9, rfl, tyX9_ok, nmX9, rfl, rfl⟩
theorem pf_X9_15 : FPF RX9 15 9 1 0 .int := ⟨RX9, TX9, 4, tyX9, rfl, i_X9, by decide, gX9_15, rfl, tyX9_ok, nmX9, rfl, rfl⟩
theorem pf_X9_19 : FPF RX9 19 9 2 2 (.array .int) := ⟨RX9, TX9, 4, tyX9, rfl, i_X9, by decide, gX9_19, rfl, tyX9_ok, nmX9, rfl, rfl⟩
theorem pf_X9_23 : FPF RX9 23 9 3 2 (.array .int) := ⟨RX9, TX9, 4, tyX9, rfl, i_X9, by decide, gX9_23, rfl, tyX9_ok, nmX9, rfl, rfl⟩
theorem dX9_init_0 : decode prog_11_method_1_code 0 = .ok (.aload_n 0, 1) := by decide +kernel
theorem dX9_init_1 : decode prog_11_method_1_code 1 = .ok (.invokespecial 3, 3) := by decide +kernel
theorem dX9_init_4 : decode prog_11_method_1_code 4 = .ok (.aload_n 0, 1) := by decide +kernel
theorem dX9_init_5 : decode prog_11_method_1_code 5 = .ok (.iconst 0, 1) := by decide +kernel
theorem dX9_init_6 : decode prog_11_method_1_code 6 = .ok (.putfield 9, 3) := by decide +kernel
theorem dX9_init_9 : decode prog_11_method_1_code 9 = .ok (.aload_n 0, 1) := by decide +kernel
theorem dX9_init_10 : decode prog_11_method_1_code 10 = .ok (.iconst 0, 1) := by decide +kernel
theorem dX9_init_11 : decode prog_11_method_1_code 11 = .ok (.putfield 15, 3) := by decide +kernel
theorem dX9_init_14 : decode prog_11_method_1_code 14 = .ok (.aload_n 0, 1) := by decide +kernel
theorem dX9_init_15 : decode prog_11_method_1_code 15 = .ok (.bipush 8, 2) := by decide +kernel
theorem dX9_init_17 : decode prog_11_method_1_code 17 = .ok (.newarray .int, 2) := by decide +kernel
theorem dX9_init_19 : decode prog_11_method_1_code 19 = .ok (.putfield 19, 3) := by decide +kernel
theorem dX9_init_22 : decode prog_11_method_1_code 22 = .ok (.aload_n 0, 1) := by decide +kernel
theorem dX9_init_23 : decode prog_11_method_1_code 23 = .ok (.bipush 8, 2) := by decide +kernel
theorem dX9_init_25 : decode prog_11_method_1_code 25 = .ok (.newarray .int, 2) := by decide +kernel
theorem dX9_init_27 : decode prog_11_method_1_code 27 = .ok (.putfield 23, 3) := by decide +kernel
theorem dX9_init_30 : decode prog_11_method_1_code 30 = .ok (.return_, 1) := by decide +kernel
theorem kX9 {n i : Nat} {cs : Nat → CDs} {Q : Nat → (Nat → CDs) → Prop} (hi : i < n) (hc : cs i = cO 9 (dfl 9)) (hq : Q (n + 2) (cu (cu (cu cs i (cO 9 (fu (fu (fu (fu (dfl 9) 0 (Sum.inl 0)) 1 (Sum.inl 0)) 2 (Sum.inr (some n))) 3 (Sum.inr (some (n + 1)))))) n (cP 0 8 (fun _ => 0))) (n + 1) (cP 0 8 (fun _ => 0)))) : CtF 1 2 16 mX9_init i n cs Q := by
  refine CtF_of fX9_init rfl rfl (by decide) ?_
  refine F_aload 0 0 dX9_init_0 rfl rfl ?_
  refine F_objInit dX9_init_1 oi_X9 oi_im oi_cd (by decide) (Nat.le_of_ble_eq_true rfl) ?_
  refine F_aload 0 0 dX9_init_4 rfl rfl ?_
  refine F_iconst dX9_init_5 ?_
  refine F_putZ (i := i) dX9_init_6 pf_X9_9 (by omega) hc rfl ?_
  refine F_aload 0 0 dX9_init_9 rfl rfl ?_
  refine F_iconst dX9_init_10 ?_
  refine F_putI (i := i) dX9_init_11 pf_X9_15 (by omega) (by rw [cu_self]) rfl ?_
  refine F_aload 0 0 dX9_init_14 rfl rfl ?_
  refine F_bipush dX9_init_15 (by decide) ?_
  refine F_newaI (N := 8) dX9_init_17 ac_int (by decide) (by decide) (by decide) rfl ?_
  refine F_putR (r := n) (i := i) dX9_init_19 pf_X9_19 refAI (by omega) (by rw [cu_ne (by omega), cu_self]) rfl ?_
  refine F_aload 0 0 dX9_init_22 rfl rfl ?_
  refine F_bipush dX9_init_23 (by decide) ?_
  refine F_newaI (N := 8) dX9_init_25 ac_int (by decide) (by decide) (by decide) rfl ?_
  refine F_putR (r := (n + 1)) (i := i) dX9_init_27 pf_X9_23 refAI (by omega) (by rw [cu_ne (by omega), cu_self]) rfl ?_
  refine F_return dX9_init_30 rfl rfl ?_
  have e9 : (cu (cu (cu (cu (cu (cu cs i (cO 9 (fu (dfl 9) 0 (Sum.inl 0)))) i (cO 9 (fu (fu (dfl 9) 0 (Sum.inl 0)) 1 (Sum.inl 0)))) n (cP 0 8 (fun _ => 0))) i (cO 9 (fu (fu (fu (dfl 9) 0 (Sum.inl 0)) 1 (Sum.inl 0)) 2 (Sum.inr (some n))))) (n + 1) (cP 0 8 (fun _ => 0))) i (cO 9 (fu (fu (fu (fu (dfl 9) 0 (Sum.inl 0)) 1 (Sum.inl 0)) 2 (Sum.inr (some n))) 3 (Sum.inr (some (n + 1)))))) = (cu (cu (cu cs i (cO 9 (fu (fu (fu (fu (dfl 9) 0 (Sum.inl 0)) 1 (Sum.inl 0)) 2 (Sum.inr (some n))) 3 (Sum.inr (some (n + 1)))))) n (cP 0 8 (fun _ => 0))) (n + 1) (cP 0 8 (fun _ => 0))) := by
    funext j
    simp only [cu]
    repeat' split
    all_goals first | rfl | (exfalso; omega)
  rw [e9]
  exact hq
