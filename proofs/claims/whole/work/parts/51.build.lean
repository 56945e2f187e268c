/-! build -/
def in1 : Nat → List (Nat × Nat)
  | 0 => []
  | j + 1 => (j, j + 1) :: in1 j
def in2 : Nat → Nat → List (Nat × Nat)
  | 0, _ => []
  | m + 1, l => in1 l ++ in2 m (l + 1)
def bu1 : Nat → Nat → List (Nat × Nat)
  | 0, _ => []
  | m + 1, l => (l, l + 1) :: bu1 m (l + 1)
def bu2 : Nat → List (Nat × Nat)
  | 0 => []
  | n + 1 => bu1 (n + 1) 0 ++ bu2 n
def bu3 : Nat → List (Nat × Nat)
  | 0 => []
  | n + 1 => bu1 n 0 ++ bu3 n
def trL (w : Nat) : Nat → Nat → List (Nat × Nat)
  | 0, _ => []
  | m + 1, l => nbL w w (l % 2) ++ trL w m (l + 1)
def apL (w d p r : Nat) : Nat → Nat → List (Nat × Nat)
  | 0, _ => []
  | m + 1, j => if j + d < w then (if j &&& p = r then (j, j + d) :: apL w d p r m (j + 1) else apL w d p r m (j + 1)) else []
def mcL (w t : Nat) : Nat → Nat → Nat → Nat → Nat → List (Nat × Nat)
  | 0, _, _, _, _ => []
  | n + 1, p, q, r, d => if q < p then (if p / 2 < 1 then [] else mcL w t n (p / 2) t 0 (p / 2)) else apL w d p r w 0 ++ mcL w t n p (q / 2) p (q - p)
def mmL (w t : Nat) : Nat → Nat → Nat → Nat → Nat → Nat → List (Nat × Nat)
  | 0, _, _, _, _, _ => []
  | n + 1, p, q, r, d, f => if f = 0 then (if p / 2 < 1 then [] else mmL w t n (p / 2) t 0 (p / 2) 1) else apL w d p r w 0 ++ mmL w t n p (q / 2) p (q - p) (if q = p then 0 else 1)
def topN (w : Nat) : Nat := if w ≤ 2 then 1 else if w ≤ 4 then 2 else 4
/-- the comparators of the four kinds -/
def bld (w k : Nat) : List (Nat × Nat) := if k = 0 then in2 (w - 1) 1 else if k = 1 then bu2 (w - 1) else if k = 2 then trL w w 0 else mcL w (topN w) 40 (topN w) (topN w) 0 (topN w)
def bldM (w k : Nat) : List (Nat × Nat) := if k = 0 then in2 w 0 else if k = 1 then bu3 w else if k = 2 then trL w w 0 else mmL w (topN w) 60 (topN w) (topN w) 0 (topN w) 1
theorem bld_e1 : ∀ w : Nat, w < 9 → ∀ k : Nat, k < 4 → 2 ≤ w → bldM w k = bld w k ∧ (bld w k).length ≤ 40 ∧ (bld w k).all (fun c => decide (c.1 < w ∧ c.2 < w ∧ c.1 ≠ c.2)) = true := by decide +kernel
theorem bld_eq (w : Nat) (hw : w < 9) (h2 : 2 ≤ w) (k : Nat) (hk : k < 4) : bldM w k = bld w k ∧ (bld w k).length ≤ 40 ∧ ∀ c ∈ bld w k, c.1 < w ∧ c.2 < w ∧ c.1 ≠ c.2 := by
  obtain ⟨h1, h3, h4⟩ := bld_e1 w hw k hk h2
  exact ⟨h1, h3, fun c hc => of_decide_eq_true (List.all_eq_true.1 h4 c hc)⟩
/-! the class's side -/
theorem c_in1 {w : Nat} {y : Int} {Q : Hp → Prop} (hw : w ≤ 8) (hy : 0 ≤ y ∧ y ≤ 8) : ∀ (j : Nat) (z : Int) (h : Hp), z = j → j < w → AC w h (in1 j) (fun g => E 3 mX10_pushInsertion 2 [(0, vr 16), (1, vi (y + 1))] [] g (qv Q)) → E 3 mX10_pushInsertion 12 [(0, vr 16), (1, vi y), (2, vi z)] [] h (qv Q)
  | 0, z, h, hz, hj, A => sX10_pushInsertion_12 ⟨fun _ => ⟨by omega, AC_nil A⟩, fun c => absurd c (by omega)⟩
  | j + 1, z, h, hz, hj, A => sX10_pushInsertion_12 ⟨fun c => absurd c (by omega), fun _ => ⟨⟨by omega, by omega⟩, AC_push A (by omega) (by omega) (by omega) (by omega) (by omega) (fun g B _ => ⟨by omega, c_in1 hw hy j (z + (-1)) g (by omega) (by omega) B⟩)⟩⟩
theorem c_in2 {w : Nat} {Q : Hp → Prop} (hw : w ≤ 8) : ∀ (m l : Nat) (z : Int) (h : Hp), z = l → w = l + m → AC w h (in2 m l) Q → E 3 mX10_pushInsertion 2 [(0, vr 16), (1, vi z)] [] h (qv Q)
  | 0, l, z, h, hz, hm, A => by
    have e := AC_w A
    exact sX10_pushInsertion_2 ⟨by omega, fun _ => AC_nil A, fun c => absurd c (by omega)⟩
  | m + 1, l, z, h, hz, hm, A => by
    have e := AC_w A
    exact sX10_pushInsertion_2 ⟨by omega, fun c => absurd c (by omega), fun _ => c_in1 hw (by omega) l z h hz (by omega) (AC_mono (AC_app A) (fun g _ B => c_in2 hw m (l + 1) (z + 1) g (by omega) (by omega) B))⟩
theorem c_bu1 {w : Nat} {y : Int} {Q : Hp → Prop} (hw : w ≤ 8) (hy : 0 ≤ y ∧ y < w) : ∀ (m l : Nat) (z : Int) (h : Hp), z = l → y = l + m → AC w h (bu1 m l) (fun g => E 3 mX10_pushBubbles 7 [(0, vr 16), (1, vi (y + (-1)))] [] g (qv Q)) → E 3 mX10_pushBubbles 14 [(0, vr 16), (1, vi y), (2, vi z)] [] h (qv Q)
  | 0, l, z, h, hz, hj, A => sX10_pushBubbles_14 ⟨fun _ => ⟨by omega, AC_nil A⟩, fun c => absurd c (by omega)⟩
  | m + 1, l, z, h, hz, hj, A => sX10_pushBubbles_14 ⟨fun c => absurd c (by omega), fun _ => ⟨⟨by omega, by omega⟩, AC_push A (by omega) (by omega) (by omega) (by omega) (by omega) (fun g B _ => ⟨by omega, c_bu1 hw hy m (l + 1) (z + 1) g (by omega) (by omega) B⟩)⟩⟩
theorem c_bu2 {w : Nat} {Q : Hp → Prop} (hw : w ≤ 8) : ∀ (n : Nat) (z : Int) (h : Hp), z = n → n < w → AC w h (bu2 n) Q → E 3 mX10_pushBubbles 7 [(0, vr 16), (1, vi z)] [] h (qv Q)
  | 0, z, h, hz, hm, A => sX10_pushBubbles_7 ⟨fun _ => AC_nil A, fun c => absurd c (by omega)⟩
  | n + 1, z, h, hz, hm, A => sX10_pushBubbles_7 ⟨fun c => absurd c (by omega), fun _ => c_bu1 hw (by omega) (n + 1) 0 0 h (by omega) (by omega) (AC_mono (AC_app A) (fun g _ B => c_bu2 hw n (z + (-1)) g (by omega) (by omega) B))⟩
theorem c_tr {w : Nat} {Q : Hp → Prop} (hw : w ≤ 8) : ∀ (m l : Nat) (z : Int) (h : Hp), z = l → w = l + m → AC w h (trL w m l) Q → E 4 mX10_pushTransposition 2 [(0, vr 16), (1, vi z)] [] h (qv Q)
  | 0, l, z, h, hz, hm, A => by
    have e := AC_w A
    exact sX10_pushTransposition_2 ⟨by omega, fun _ => AC_nil A, fun c => absurd c (by omega)⟩
  | m + 1, l, z, h, hz, hm, A => by
    have e := AC_w A
    have e2 : j_irem z 2 = ((l % 2 : Nat) : Int) := by rw [hz]; exact jrem (b := 2) (by omega) (by omega)
    exact sX10_pushTransposition_2 ⟨by omega, fun c => absurd c (by omega), fun _ => ⟨by omega, c_nbs hw e2 (by omega) (AC_mono (AC_app A) (fun g _ B => ⟨by omega, c_tr hw m (l + 1) (z + 1) g (by omega) (by omega) B⟩))⟩⟩
theorem apL_n {w d p r m j : Nat} (c : ¬ j + d < w) : apL w d p r m j = [] := by
  cases m with
  | zero => rfl
  | succ m => show (if _ then _ else _) = _; rw [if_neg c]
theorem apL_c {w d p r m j : Nat} (c : j + d < w) (e : j &&& p = r) : apL w d p r (m + 1) j = (j, j + d) :: apL w d p r m (j + 1) := by
  show (if _ then _ else _) = _
  rw [if_pos c, if_pos e]
theorem apL_s {w d p r m j : Nat} (c : j + d < w) (e : ¬ j &&& p = r) : apL w d p r (m + 1) j = apL w d p r m (j + 1) := by
  show (if _ then _ else _) = _
  rw [if_pos c, if_neg e]
theorem c_ap {w d p r : Nat} {zd zp zr : Int} {Q : Hp → Prop} (hw : w ≤ 8) (hd : 1 ≤ d) (hd8 : d ≤ 8) (hp : p ≤ 8) (ed : zd = d) (ep : zp = p) (er : zr = r) : ∀ (m j : Nat) (z : Int) (h : Hp), z = j → w ≤ j + m → j ≤ 9 → AC w h (apL w d p r m j) Q → E 3 mX10_pushApart 3 [(0, vr 16), (1, vi zd), (2, vi zp), (3, vi zr), (4, vi z)] [] h (qv Q)
  | 0, j, z, h, hz, hm, h9, A => by
    have e := AC_w A
    exact sX10_pushApart_3 ⟨⟨by omega, by omega⟩, fun _ => AC_nil A, fun c => absurd c (by omega)⟩
  | m + 1, j, z, h, hz, hm, h9, A => by
    have e := AC_w A
    have ea : j_iand z zp = ((j &&& p : Nat) : Int) := by rw [hz, ep]; exact jand (by omega) (by omega)
    by_cases c : j + d < w
    · by_cases c2 : j &&& p = r
      · rw [apL_c c c2] at A
        exact sX10_pushApart_3 ⟨⟨by omega, by omega⟩, fun c => absurd c (by omega), fun _ => ⟨fun c3 => absurd c3 (by omega), fun _ => ⟨⟨by omega, by omega⟩, AC_push A (by omega) (by omega) (by omega) (by omega) (by omega) (fun g B _ => ⟨by omega, c_ap hw hd hd8 hp ed ep er m (j + 1) (z + 1) g (by omega) (by omega) (by omega) B⟩)⟩⟩⟩
      · rw [apL_s c c2] at A
        exact sX10_pushApart_3 ⟨⟨by omega, by omega⟩, fun c => absurd c (by omega), fun _ => ⟨fun _ => ⟨by omega, c_ap hw hd hd8 hp ed ep er m (j + 1) (z + 1) h (by omega) (by omega) (by omega) A⟩, fun c3 => absurd c3 (by omega)⟩⟩
    · rw [apL_n c] at A
      exact sX10_pushApart_3 ⟨⟨by omega, by omega⟩, fun _ => AC_nil A, fun c => absurd c (by omega)⟩
theorem half {z : Int} {p : Nat} (hz : z = p) (hp : p ≤ 8) : j_idiv z 2 = ((p / 2 : Nat) : Int) := by
  rw [hz]
  exact jdiv (b := 2) (by omega) (by omega)
theorem c_mx {w t : Nat} {zt : Int} {Q : Hp → Prop} (hw : w ≤ 8) (ht : t ≤ 4) (et : zt = t) : ∀ (n p q r d : Nat) (zp zq zr zd : Int) (h : Hp), zp = p → zq = q → zr = r → zd = d → 1 ≤ p → p ≤ 4 → q ≤ 4 → r ≤ 4 → d ≤ 4 → (q < p ∨ 1 ≤ d) → 8 * p + q < n → AC w h (mcL w t n p q r d) Q → E 4 mX10_pushMergeExchange 45 [(0, vr 16), (1, vi zt), (2, vi zp), (3, vi zr), (4, vi zd), (5, vi zq)] [] h (qv Q)
  | 0, p, q, r, d, zp, zq, zr, zd, h, ep, eq, er, ed, h1, h2, h3, h4, h5, h6, h7, A => absurd h7 (by omega)
  | n + 1, p, q, r, d, zp, zq, zr, zd, h, ep, eq, er, ed, h1, h2, h3, h4, h5, h6, h7, A => by
    have A : AC w h (if q < p then (if p / 2 < 1 then [] else mcL w t n (p / 2) t 0 (p / 2)) else apL w d p r w 0 ++ mcL w t n p (q / 2) p (q - p)) Q := A
    have hh := half ep (by omega)
    have hq := half eq (by omega)
    by_cases c : q < p
    · rw [if_pos c] at A
      refine sX10_pushMergeExchange_45 ⟨fun _ => ?_, fun c => absurd c (by omega)⟩
      by_cases c2 : p / 2 < 1
      · rw [if_pos c2] at A
        exact sX10_pushMergeExchange_32 ⟨fun _ => AC_nil A, fun c => absurd c (by omega)⟩
      · rw [if_neg c2] at A
        exact sX10_pushMergeExchange_32 ⟨fun c => absurd c (by omega), fun _ => c_mx hw ht et n (p / 2) t 0 (p / 2) _ _ _ _ h hh et (by omega) hh (by omega) (by omega) (by omega) (by omega) (by omega) (by omega) (by omega) A⟩
    · rw [if_neg c] at A
      exact sX10_pushMergeExchange_45 ⟨fun c => absurd c (by omega), fun _ => sX10_pushApart (c_ap hw (by omega) (by omega) (by omega) ed ep er w 0 0 h (by omega) (by omega) (by omega) (AC_mono (AC_app A) (fun g _ B => ⟨by omega, c_mx hw ht et n p (q / 2) p (q - p) _ _ _ _ g ep hq ep (by omega) h1 h2 (by omega) h2 (by omega) (by omega) (by omega) B⟩)))⟩
theorem c_mx0 {w : Nat} {h : Hp} {Q : Hp → Prop} (hw2 : 2 ≤ w) (hw : w ≤ 8) (A : AC w h (mcL w (topN w) 40 (topN w) (topN w) 0 (topN w)) Q) : CV 4 mX10_pushMergeExchange [vr 16] h Q := by
  have e := AC_w A
  have fin : ∀ z : Int, z = topN w → topN w ≤ 4 → 1 ≤ topN w → E 4 mX10_pushMergeExchange 32 [(0, vr 16), (1, vi z), (2, vi z)] [] h (qv Q) := fun z hz h4 h1 => sX10_pushMergeExchange_32 ⟨fun c => absurd c (by omega), fun _ => c_mx hw h4 hz 40 (topN w) (topN w) 0 (topN w) _ _ _ _ h hz hz (by omega) hz h1 h4 h4 (by omega) h4 (by omega) (by omega) A⟩
  unfold topN at fin
  refine sX10_pushMergeExchange (sX10_pushMergeExchange_4 ⟨fun c0 => absurd c0 (by omega), fun _ => ⟨⟨by omega, by omega⟩, fun c => ?_, fun c => ⟨⟨by omega, by omega⟩, sX10_pushMergeExchange_4 ⟨fun c0 => absurd c0 (by omega), fun _ => ⟨⟨by omega, by omega⟩, fun c2 => ?_, fun c2 => ⟨⟨by omega, by omega⟩, sX10_pushMergeExchange_4 ⟨fun c0 => absurd c0 (by omega), fun _ => ⟨⟨by omega, by omega⟩, fun c3 => ?_, fun c3 => absurd c3 (by omega)⟩⟩⟩⟩⟩⟩⟩⟩)
  · rw [if_pos (by omega)] at fin; exact fin _ (by omega) (by omega) (by omega)
  · rw [if_neg (by omega), if_pos (by omega)] at fin; exact fin _ (by omega) (by omega) (by omega)
  · rw [if_neg (by omega), if_neg (by omega)] at fin; exact fin _ (by omega) (by omega) (by omega)
/-! the reference's side -/
theorem m_in1 {k w : Nat} {y : Int} {Q : Int → Hp → Prop} (hk : k < 4) (hw : w ≤ 8) (hy : 0 ≤ y ∧ y ≤ 8) : ∀ (j : Nat) (z : Int) (h : Hp), z = j → j < w → AM k w h (in1 j) (fun g => E 3 mX11_build 62 [(0, vr 103), (1, vi k), (2, vi w), (3, vi 0), (4, vi (y + 1))] [] g (qi Q)) → E 3 mX11_build 76 [(0, vr 103), (1, vi k), (2, vi w), (3, vi 0), (4, vi y), (5, vi z)] [] h (qi Q)
  | 0, z, h, hz, hj, A => sX11_build_76 ⟨fun _ => ⟨fun _ => ⟨fun _ => ⟨by omega, AM_nil A⟩, fun c => absurd c (by omega)⟩, fun c => absurd c (by omega)⟩, fun c => absurd c (by omega)⟩
  | j + 1, z, h, hz, hj, A => sX11_build_76 ⟨fun c => absurd c (by omega), fun _ => ⟨by omega, AM_push hk A (by omega) (by omega) (by omega) (fun g B => ⟨by omega, m_in1 hk hw hy j (z + (-1)) g (by omega) (by omega) B⟩)⟩⟩
theorem m_in2 {k w : Nat} {Q : Int → Hp → Prop} (hk : k < 4) (hw : w ≤ 8) : ∀ (m l : Nat) (z : Int) (h : Hp), z = l → w = l + m → AM k w h (in2 m l) (fun g => Q (g 105 k) g) → E 3 mX11_build 62 [(0, vr 103), (1, vi k), (2, vi w), (3, vi 0), (4, vi z)] [] h (qi Q)
  | 0, l, z, h, hz, hm, A => sX11_build_62 ⟨fun _ => ⟨by omega, AM_nil (Q := fun g => Q (g 105 k) g) A⟩, fun c => absurd c (by omega)⟩
  | m + 1, l, z, h, hz, hm, A => sX11_build_62 ⟨fun c => absurd c (by omega), fun _ => ⟨fun c => absurd c (by omega), fun _ => m_in1 hk hw (by omega) l z h hz (by omega) (AM_mono (AM_app A) (fun g B => m_in2 hk hw m (l + 1) (z + 1) g (by omega) (by omega) B))⟩⟩
theorem m_bu1 {k w : Nat} {y : Int} {Q : Int → Hp → Prop} (hk : k < 4) (hw : w ≤ 8) (hy : 0 ≤ y ∧ y < w) : ∀ (m l : Nat) (z : Int) (h : Hp), z = l → w - 1 - y = l + m → AM k w h (bu1 m l) (fun g => E 3 mX11_build 62 [(0, vr 103), (1, vi k), (2, vi w), (3, vi 1), (4, vi (y + 1))] [] g (qi Q)) → E 3 mX11_build 106 [(0, vr 103), (1, vi k), (2, vi w), (3, vi 1), (4, vi y), (5, vi z)] [] h (qi Q)
  | 0, l, z, h, hz, hj, A => sX11_build_106 ⟨by omega, fun _ => ⟨fun _ => ⟨by omega, AM_nil A⟩, fun c => absurd c (by omega)⟩, fun c => absurd c (by omega)⟩
  | m + 1, l, z, h, hz, hj, A => sX11_build_106 ⟨by omega, fun c => absurd c (by omega), fun _ => ⟨by omega, AM_push hk A (by omega) (by omega) (by omega) (fun g B => ⟨by omega, m_bu1 hk hw hy m (l + 1) (z + 1) g (by omega) (by omega) B⟩)⟩⟩
theorem m_bu3 {k w : Nat} {Q : Int → Hp → Prop} (hk : k < 4) (hw : w ≤ 8) : ∀ (n l : Nat) (z : Int) (h : Hp), z = l → w = l + n → AM k w h (bu3 n) (fun g => Q (g 105 k) g) → E 3 mX11_build 62 [(0, vr 103), (1, vi k), (2, vi w), (3, vi 1), (4, vi z)] [] h (qi Q)
  | 0, l, z, h, hz, hm, A => sX11_build_62 ⟨fun _ => ⟨by omega, AM_nil (Q := fun g => Q (g 105 k) g) A⟩, fun c => absurd c (by omega)⟩
  | n + 1, l, z, h, hz, hm, A => sX11_build_62 ⟨fun c => absurd c (by omega), fun _ => ⟨fun _ => ⟨fun c => absurd c (by omega), fun _ => m_bu1 hk hw (by omega) n 0 0 h (by omega) (by omega) (AM_mono (AM_app A) (fun g B => m_bu3 hk hw n (l + 1) (z + 1) g (by omega) (by omega) B))⟩, fun c => absurd c (by omega)⟩⟩
theorem m_nb {k w : Nat} {y : Int} {Q : Int → Hp → Prop} (hk : k < 4) (hw : w ≤ 8) (hy : 0 ≤ y ∧ y < w) : ∀ (m l : Nat) (z : Int) (h : Hp), z = l → w ≤ l + m → l ≤ 9 → AM k w h (nbL w m l) (fun g => E 3 mX11_build 62 [(0, vr 103), (1, vi k), (2, vi w), (3, vi 2), (4, vi (y + 1))] [] g (qi Q)) → E 3 mX11_build 145 [(0, vr 103), (1, vi k), (2, vi w), (3, vi 2), (4, vi y), (5, vi z)] [] h (qi Q)
  | 0, l, z, h, hz, hm, h9, A => sX11_build_145 ⟨by omega, fun _ => ⟨by omega, AM_nil A⟩, fun c => absurd c (by omega)⟩
  | m + 1, l, z, h, hz, hm, h9, A => by
    by_cases c : l + 1 < w
    · rw [nbL_c c] at A
      exact sX11_build_145 ⟨by omega, fun c => absurd c (by omega), fun _ => ⟨by omega, AM_push hk A (by omega) (by omega) (by omega) (fun g B => ⟨by omega, m_nb hk hw hy m (l + 2) (z + 2) g (by omega) (by omega) (by omega) B⟩)⟩⟩
    · rw [nbL_n c] at A
      exact sX11_build_145 ⟨by omega, fun _ => ⟨by omega, AM_nil A⟩, fun c => absurd c (by omega)⟩
theorem m_tr {k w : Nat} {Q : Int → Hp → Prop} (hk : k < 4) (hw : w ≤ 8) : ∀ (m l : Nat) (z : Int) (h : Hp), z = l → w = l + m → AM k w h (trL w m l) (fun g => Q (g 105 k) g) → E 3 mX11_build 62 [(0, vr 103), (1, vi k), (2, vi w), (3, vi 2), (4, vi z)] [] h (qi Q)
  | 0, l, z, h, hz, hm, A => sX11_build_62 ⟨fun _ => ⟨by omega, AM_nil (Q := fun g => Q (g 105 k) g) A⟩, fun c => absurd c (by omega)⟩
  | m + 1, l, z, h, hz, hm, A => by
    have e2 : j_irem z 2 = ((l % 2 : Nat) : Int) := by rw [hz]; exact jrem (b := 2) (by omega) (by omega)
    exact sX11_build_62 ⟨fun c => absurd c (by omega), fun _ => ⟨fun _ => ⟨fun _ => ⟨fun c => absurd c (by omega), fun _ => m_nb hk hw (by omega) w (l % 2) _ h e2 (by omega) (by omega) (AM_mono (AM_app A) (fun g B => m_tr hk hw m (l + 1) (z + 1) g (by omega) (by omega) B))⟩, fun c => absurd c (by omega)⟩, fun c => absurd c (by omega)⟩⟩
theorem m_62e {k w : Nat} {Q : Int → Hp → Prop} {h : Hp} (hk : k < 4) (hw : w ≤ 8) (A : Q (h 105 k) h) : ∀ (m l : Nat) (z : Int), z = l → w = l + m → E 3 mX11_build 62 [(0, vr 103), (1, vi k), (2, vi w), (3, vi 3), (4, vi z)] [] h (qi Q)
  | 0, l, z, hz, hm => sX11_build_62 ⟨fun _ => ⟨by omega, A⟩, fun c => absurd c (by omega)⟩
  | m + 1, l, z, hz, hm => sX11_build_62 ⟨fun c => absurd c (by omega), fun _ => ⟨fun _ => ⟨fun _ => ⟨fun _ => ⟨by omega, m_62e hk hw A m (l + 1) (z + 1) (by omega) (by omega)⟩, fun c => absurd c (by omega)⟩, fun c => absurd c (by omega)⟩, fun c => absurd c (by omega)⟩⟩
theorem m_ap {k w d p r : Nat} {zt zq zd zp zr : Int} {Q : Hp → Prop} (hk : k < 4) (hw : w ≤ 8) (hd8 : d ≤ 8) (hp : p ≤ 8) (ed : zd = d) (ep : zp = p) (er : zr = r) : ∀ (m j : Nat) (z : Int) (h : Hp), z = j → w ≤ j + m → j ≤ 9 → AM k w h (apL w d p r m j) (fun g => E 2 mX11_merges 88 [(0, vr 103), (1, vi k), (2, vi zt), (3, vi zp), (4, vi zq)] [] g (qv Q)) → E 2 mX11_merges 47 [(0, vr 103), (1, vi k), (2, vi zt), (3, vi zp), (4, vi zq), (5, vi zr), (6, vi zd), (8, vi z)] [] h (qv Q)
  | 0, j, z, h, hz, hm, h9, A => by
    have e := AM_w A
    exact sX11_merges_47 ⟨⟨by omega, by omega⟩, fun _ => AM_nil A, fun c => absurd c (by omega)⟩
  | m + 1, j, z, h, hz, hm, h9, A => by
    have e := AM_w A
    have ea : j_iand z zp = ((j &&& p : Nat) : Int) := by rw [hz, ep]; exact jand (by omega) (by omega)
    by_cases c : j + d < w
    · by_cases c2 : j &&& p = r
      · rw [apL_c c c2] at A
        exact sX11_merges_47 ⟨⟨by omega, by omega⟩, fun c => absurd c (by omega), fun _ => ⟨fun c3 => absurd c3 (by omega), fun _ => ⟨by omega, AM_push hk A (by omega) (by omega) (by omega) (fun g B => ⟨by omega, m_ap hk hw hd8 hp ed ep er m (j + 1) (z + 1) g (by omega) (by omega) (by omega) B⟩)⟩⟩⟩
      · rw [apL_s c c2] at A
        exact sX11_merges_47 ⟨⟨by omega, by omega⟩, fun c => absurd c (by omega), fun _ => ⟨fun _ => ⟨by omega, m_ap hk hw hd8 hp ed ep er m (j + 1) (z + 1) h (by omega) (by omega) (by omega) A⟩, fun c3 => absurd c3 (by omega)⟩⟩
    · rw [apL_n c] at A
      exact sX11_merges_47 ⟨⟨by omega, by omega⟩, fun _ => AM_nil A, fun c => absurd c (by omega)⟩
theorem m_mx {k w t : Nat} {zt : Int} {Q : Hp → Prop} (hk : k < 4) (hw : w ≤ 8) (ht : t = 1 ∨ t = 2 ∨ t = 4) (et : zt = t) : ∀ (n p q r d f : Nat) (zp zq zr zd zf : Int) (h : Hp), zp = p → zq = q → zr = r → zd = d → zf = f → f ≤ 1 → (p = 1 ∨ p = 2 ∨ p = 4) → (q = 0 ∨ q = 1 ∨ q = 2 ∨ q = 4) → p ≤ t → r ≤ 4 → d ≤ 4 → (f = 1 → p ≤ q) → 10 * p + 2 * q + f < n → AM k w h (mmL w t n p q r d f) Q → E 2 mX11_merges 39 [(0, vr 103), (1, vi k), (2, vi zt), (3, vi zp), (4, vi zq), (5, vi zr), (6, vi zd), (7, vi zf)] [] h (qv Q)
  | 0, p, q, r, d, f, zp, zq, zr, zd, zf, h, ep, eq, er, ed, ef, h0, h1, h2, h3, h4, h5, h6, h7, A => absurd h7 (by omega)
  | n + 1, p, q, r, d, f, zp, zq, zr, zd, zf, h, ep, eq, er, ed, ef, h0, h1, h2, h3, h4, h5, h6, h7, A => by
    have A : AM k w h (if f = 0 then (if p / 2 < 1 then [] else mmL w t n (p / 2) t 0 (p / 2) 1) else apL w d p r w 0 ++ mmL w t n p (q / 2) p (q - p) (if q = p then 0 else 1)) Q := A
    have hh := half ep (by omega)
    have hq := half eq (by omega)
    by_cases c : f = 0
    · rw [if_pos c] at A
      refine sX11_merges_39 ⟨fun _ => ?_, fun c => absurd c (by omega)⟩
      by_cases c2 : p / 2 < 1
      · rw [if_pos c2] at A
        exact sX11_merges_23 ⟨fun _ => AM_nil A, fun c => absurd c (by omega)⟩
      · rw [if_neg c2] at A
        exact sX11_merges_23 ⟨fun c => absurd c (by omega), fun _ => m_mx hk hw ht et n (p / 2) t 0 (p / 2) 1 _ _ _ _ _ h hh et (by omega) hh (by omega) (by omega) (by omega) (by omega) (by omega) (by omega) (by omega) (by omega) (by omega) A⟩
    · rw [if_neg c] at A
      refine sX11_merges_39 ⟨fun c => absurd c (by omega), fun _ => m_ap hk hw (by omega) (by omega) ed ep er w 0 0 h (by omega) (by omega) (by omega) (AM_mono (AM_app A) (fun g B => sX11_merges_88 ⟨by omega, ?_⟩))⟩
      have ef2 : (if zq ≠ zp then (1 : Int) else 0) = ((if q = p then 0 else 1 : Nat) : Int) := by
        by_cases c3 : q = p
        · rw [if_neg (by omega), if_pos c3]; rfl
        · rw [if_pos (by omega), if_neg c3]; rfl
      have fl : (if q = p then 0 else 1) = 0 ∧ q = p ∨ (if q = p then 0 else 1) = 1 ∧ q ≠ p := by
        by_cases c3 : q = p
        · left; exact ⟨if_pos c3, c3⟩
        · right; exact ⟨if_neg c3, c3⟩
      refine m_mx hk hw ht et n p (q / 2) p (q - p) (if q = p then 0 else 1) _ _ _ _ _ g ep hq ep (by omega) ef2 ?_ h1 (by omega) h3 (by omega) (by omega) ?_ ?_ B
      · omega
      · omega
      · omega
theorem m_mx0 {k w : Nat} {h : Hp} {Q : Hp → Prop} (hk : k < 4) (hw2 : 2 ≤ w) (hw : w ≤ 8) (A : AM k w h (mmL w (topN w) 60 (topN w) (topN w) 0 (topN w) 1) Q) : CV 2 mX11_merges [vr 103, vi k] h Q := by
  have e := AM_w A
  have fin : ∀ z : Int, z = topN w → (topN w = 1 ∨ topN w = 2 ∨ topN w = 4) → E 2 mX11_merges 23 [(0, vr 103), (1, vi k), (2, vi z), (3, vi z)] [] h (qv Q) := fun z hz h4 => sX11_merges_23 ⟨fun c => absurd c (by omega), fun _ => m_mx hk hw h4 hz 60 (topN w) (topN w) 0 (topN w) 1 _ _ _ _ _ h hz hz (by omega) hz (by omega) (by omega) h4 (by omega) (by omega) (by omega) (by omega) (by omega) (by omega) A⟩
  unfold topN at fin
  refine sX11_merges (sX11_merges_2 ⟨⟨by omega, by omega⟩, fun c => ?_, fun c => ⟨by omega, sX11_merges_2 ⟨⟨by omega, by omega⟩, fun c2 => ?_, fun c2 => ⟨by omega, sX11_merges_2 ⟨⟨by omega, by omega⟩, fun c3 => ?_, fun c3 => absurd c3 (by omega)⟩⟩⟩⟩⟩)
  · rw [if_pos (by omega)] at fin; exact fin _ (by omega) (by omega)
  · rw [if_neg (by omega), if_pos (by omega)] at fin; exact fin _ (by omega) (by omega)
  · rw [if_neg (by omega), if_neg (by omega)] at fin; exact fin _ (by omega) (by omega)

theorem op_build {h : Hp} {k w d : Int} (hR : Rl h) : OpI 7 mX10_build 3 mX11_build [vi k, vi w, vi d] h := by
  obtain ⟨nets, hist, H⟩ := Rl_RlN hR
  by_cases hk : 0 ≤ k ∧ k < 4
  · obtain ⟨j, hj, rfl⟩ := toN hk.1 hk.2
    by_cases hw : 2 ≤ w ∧ w ≤ 8
    · obtain ⟨W, rfl⟩ : ∃ W : Nat, w = W := ⟨w.toNat, by omega⟩
      by_cases hd : 0 ≤ d ∧ d < 4
      · obtain ⟨K, hK, rfl⟩ := toN hd.1 hd.2
        obtain ⟨b1, b2, b3⟩ := bld_eq W (by omega) (by omega) K hK
        obtain ⟨n1, n2, n3⟩ := H.1 j hj
        have ok : okN (W, bld W K) := ⟨by show 2 ≤ W; omega, by show W ≤ 8; omega, b2, b3⟩
        refine op_chg (k := j) (N' := (W, bld W K)) (r := (bld W K).length) H hj ok ?_ (fun h1 ms => ?_)
        · have A : AC W (up (up h 16 0 W) 16 1 0) (bld W K) (fun g => CI 6 mX10_replaceBySpare [vr 68, vi j] g (fun r1 h1 => r1 = (bld W K).length ∧ CP h h1 j (nets j) (W, bld W K) hist)) := by
            refine ⟨[], by show 0 + _ ≤ 40; omega, ⟨?_, ?_, Row_nil⟩, fun g r1 r2 => ?_⟩
            · rw [up_no (by omega), up_eq]
            · rw [up_eq]; rfl
            · rw [List.nil_append] at r1
              have fr : ∀ x y : Int, ¬ (16 ≤ x ∧ x ≤ 18) → g x y = h x y := fun x y hx => by rw [r2 x y hx, up_no (by omega), up_no (by omega)]
              refine c_replace hj n1 ok (CNt_c (fun x y r1 r2 => fr x y (by omega)) n2) r1 (HiC_f (fun x y hx => fr x y (by unfold aH at hx; omega)) H.2.1) (fun g3 c3 => ⟨rfl, c3.1, c3.2.1, fun x y hx => ?_⟩)
              rw [c3.2.2 x y hx, fr x y (by unfold kC at hx; omega)]
          refine sX10_build ⟨fun _ => ⟨fun c => absurd c (by omega), fun _ => ⟨fun c => absurd c (by omega), fun _ => ⟨fun _ => ⟨by omega, fun c => ?_, fun c => ?_, fun c => ?_, fun c => ?_⟩, fun c => absurd c (by omega)⟩⟩⟩, fun c => absurd c (by omega)⟩
          · have e : K = 0 := by omega
            have eb : bld W K = in2 (W - 1) 1 := by rw [e]; rfl
            rw [eb] at A ⊢
            exact sX10_pushInsertion (c_in2 (by omega) (W - 1) 1 1 _ (by omega) (by omega) A)
          · have e : K = 1 := by omega
            have eb : bld W K = bu2 (W - 1) := by rw [e]; rfl
            rw [eb] at A ⊢
            have e0 := AC_w A
            exact sX10_pushBubbles ⟨⟨by omega, by omega⟩, c_bu2 (w := W) (by omega) (W - 1) _ _ (by omega) (by omega) A⟩
          · have e : K = 2 := by omega
            have eb : bld W K = trL W W 0 := by rw [e]; rfl
            rw [eb] at A ⊢
            exact sX10_pushTransposition (c_tr (by omega) W 0 0 _ (by omega) (by omega) A)
          · have e : K = 3 := by omega
            have eb : bld W K = mcL W (topN W) 40 (topN W) (topN W) 0 (topN W) := by rw [e]; rfl
            rw [eb] at A ⊢
            exact c_mx0 (by omega) (by omega) A
        · obtain ⟨m1, m2, m3, m4, m5⟩ := ms
          refine sX11_build ⟨fun _ => ⟨fun c => absurd c (by omega), fun _ => ⟨fun _ => ?_, fun c => absurd c (by omega)⟩⟩, fun c => absurd c (by omega)⟩
          refine m_remembers (nets := nets) (hist := hist) (fun j hj => (m1 j hj).1) m4 (fun j hj => (m1 j hj).2) m2 m3 (fun g q1 q2 => ?_)
          have A : AM j W (up (up g 104 j W) 105 j 0) (bldM W K) (fun g => (g 105 j) = (bld W K).length ∧ MP h1 g nets hist j (W, bld W K)) := by
            rw [b1]
            refine ⟨[], by show 0 + _ ≤ 40; omega, ⟨?_, ?_, Row_nil⟩, fun g4 r1 r2 => ?_⟩
            · rw [up_no (by omega), up_eq]
            · rw [up_eq]; rfl
            · rw [List.nil_append] at r1
              refine ⟨r1.2.1, MP_bec (g := g) q1 (fun x y hx => by unfold kM at hx; rw [q2 x y (by omega)]) r1 (fun x y hx => ?_)⟩
              rw [r2 x y (by omega), up_no (by omega), up_no (by omega)]
          refine ⟨by omega, fun c => ?_, fun c => ?_⟩
          · by_cases c0 : K = 0
            · have eb : bldM W K = in2 W 0 := by rw [c0]; rfl
              rw [eb] at A
              subst c0
              exact m_in2 hj (by omega) W 0 0 _ (by omega) (by omega) A
            · by_cases c1 : K = 1
              · have eb : bldM W K = bu3 W := by rw [c1]; rfl
                rw [eb] at A
                subst c1
                exact m_bu3 hj (by omega) W 0 0 _ (by omega) (by omega) A
              · have c2 : K = 2 := by omega
                have eb : bldM W K = trL W W 0 := by rw [c2]; rfl
                rw [eb] at A
                subst c2
                exact m_tr hj (by omega) W 0 0 _ (by omega) (by omega) A
          · have c2 : K = 3 := by omega
            have eb : bldM W K = mmL W (topN W) 60 (topN W) (topN W) 0 (topN W) 1 := by rw [c2]; rfl
            rw [eb] at A
            subst c2
            exact m_mx0 hj (by omega) (by omega) (AM_mono A (fun g2 B => m_62e hj (by omega) B W 0 0 (by omega) (by omega)))
      · have no : CI 3 mX11_build [vr 103, vi j, vi W, vi d] h (fun r2 h2 => -2 = r2 ∧ Rl h2) := sX11_build ⟨fun _ => ⟨fun c => absurd c (by omega), fun _ => ⟨fun c => absurd c (by omega), fun _ => ⟨rfl, hR⟩⟩⟩, fun c => absurd c (by omega)⟩
        exact sX10_build ⟨fun _ => ⟨fun c => absurd c (by omega), fun _ => ⟨fun _ => no, fun _ => ⟨fun c => absurd c (by omega), fun _ => no⟩⟩⟩, fun c => absurd c (by omega)⟩
    · have no : CI 3 mX11_build [vr 103, vi j, vi w, vi d] h (fun r2 h2 => -2 = r2 ∧ Rl h2) := sX11_build ⟨fun _ => ⟨fun _ => ⟨rfl, hR⟩, fun c => absurd c (by omega)⟩, fun c => absurd c (by omega)⟩
      exact sX10_build ⟨fun _ => ⟨fun _ => no, fun c => absurd c (by omega)⟩, fun c => absurd c (by omega)⟩
  · exact sX10_build ⟨fun c => absurd c (by omega), fun _ => sX11_build ⟨fun c => absurd c (by omega), fun _ => ⟨rfl, hR⟩⟩⟩
