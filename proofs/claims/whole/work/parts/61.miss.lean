/-! missing -/
def mkS (w y : Nat) : Int := j_iand (j_ixor y (-1)) ((j_ishl 1 w) - 1)
def isSb (w y : Nat) : Bool := (!(decide (1 ≤ w) && decide (y < 2 ^ w))) || (decide (-2147483648 ≤ (j_ishl 1 w) - 1) && decide ((j_ishl 1 w) - 1 < 2147483648) && decide (-2147483648 ≤ mkS w y + 1) && decide (mkS w y + 1 < 2147483648) && decide ((if (j_iand (mkS w y) (mkS w y + 1)) = 0 then (1 : Int) else 0) = (if badB y (w - 1) then 0 else 1)))
theorem isS0 : ∀ w : Nat, w < 9 → ∀ y : Nat, y < 256 → isSb w y = true := by decide +kernel
theorem isS (w : Nat) (hw : w < 9) (y : Nat) (hy : y < 256) (h1 : 1 ≤ w) (h2 : y < 2 ^ w) : rj ((j_ishl 1 w) - 1) ∧ rj (mkS w y + 1) ∧ (if (j_iand (mkS w y) (mkS w y + 1)) = 0 then (1 : Int) else 0) = if badB y (w - 1) then 0 else 1 := by
  have h := isS0 w hw y hy
  unfold isSb at h
  rw [decide_eq_true h1, decide_eq_true h2] at h
  simp only [Bool.and_self, Bool.not_true, Bool.false_or, Bool.and_eq_true, decide_eq_true_eq] at h
  exact ⟨⟨h.1.1.1.1, h.1.1.1.2⟩, ⟨h.1.1.2, h.1.2⟩, h.2⟩
theorem c_isSorted {h : Hp} {w y : Nat} {zy zw : Int} {Q : Int → Hp → Prop} (ey : zy = y) (ew : zw = w) (hw1 : 1 ≤ w) (hw : w ≤ 8) (hy : y < 2 ^ w) (hq : Q (if badB y (w - 1) then 0 else 1) h) : CI 0 mX10_isSorted [vi zy, vi zw] h Q := by
  subst ey
  subst ew
  have h256 := p256 hw
  obtain ⟨h1, h2, h3⟩ := isS w (by omega) y (by omega) hw1 hy
  refine sX10_isSorted ⟨h1, fun x2 hx2 => ?_⟩
  have e2 : x2 = mkS w y := hx2
  subst e2
  refine ⟨h2, ?_⟩
  rw [h3]
  exact hq
def anyP (w : Nat) (p : Nat → Nat → Bool) : Bool := anyB (fun j => anyB (fun i => p i j) j) w
theorem anyB_iff {p : Nat → Bool} {n : Nat} : anyB p n = true ↔ ∃ x : Nat, x < n ∧ p x = true := by
  constructor
  · intro h
    apply Classical.byContradiction
    intro hn
    have hall : ∀ x : Nat, x < n → p x = false := fun x hx => by
      cases hb : p x with
      | false => rfl
      | true => exact absurd ⟨x, hx, hb⟩ hn
    have := IsE_any (p := p) (n := n) (r := 0) (Or.inl ⟨rfl, hall⟩)
    rw [h] at this
    exact absurd this (by decide)
  · rintro ⟨x, h1, h2⟩
    exact anyB_t n x h1 h2
theorem anyP_iff {p : Nat → Nat → Bool} {w : Nat} : anyP w p = true ↔ ∃ i j : Nat, i < j ∧ j < w ∧ p i j = true := by
  unfold anyP
  rw [anyB_iff]
  constructor
  · rintro ⟨j, h1, h2⟩
    obtain ⟨i, h3, h4⟩ := anyB_iff.1 h2
    exact ⟨i, j, h3, h1, h4⟩
  · rintro ⟨i, j, h1, h2, h3⟩
    exact ⟨j, h2, anyB_iff.2 ⟨i, h1, h3⟩⟩
theorem anyP_f {p : Nat → Nat → Bool} {w : Nat} (h : ∀ i j : Nat, i < j → j < w → p i j = false) : anyP w p = false := by
  cases hb : anyP w p with
  | false => rfl
  | true =>
    obtain ⟨i, j, h1, h2, h3⟩ := anyP_iff.1 hb
    rw [h i j h1 h2] at h3
    exact absurd h3 (by decide)
theorem anyP_c {p q : Nat → Nat → Bool} {w : Nat} (h : ∀ i j : Nat, i < j → j < w → p i j = q i j) : anyP w p = anyP w q := by
  cases hb : anyP w q with
  | false =>
    refine anyP_f (fun i j h1 h2 => ?_)
    rw [h i j h1 h2]
    cases hc : q i j with
    | false => rfl
    | true => rw [anyP_iff.2 ⟨i, j, h1, h2, hc⟩] at hb; exact absurd hb (by decide)
  | true =>
    obtain ⟨i, j, h1, h2, h3⟩ := anyP_iff.1 hb
    exact anyP_iff.2 ⟨i, j, h1, h2, by rw [h i j h1 h2]; exact h3⟩
def srY (w y : Nat) : Bool := !badB y (w - 1)
def pk (w : Nat) (L : List Nat) (i j : Nat) : Bool := L.all (fun y => srY w (exq (i, j) y))
def allS (w : Nat) (L : List Nat) : Bool := L.all (fun y => srY w y)
def oneB (w : Nat) (L : List Nat) : Bool := anyP w (pk w L)
def twoB (w : Nat) (L : List Nat) : Bool := anyP w (fun i j => oneB w (L.map (exq (i, j))))
theorem pk_iff {w : Nat} {L : List Nat} {i j : Nat} : pk w L i j = true ↔ ∀ y ∈ L, srY w (exq (i, j) y) = true := by
  unfold pk
  exact List.all_eq_true
theorem pk_c {w : Nat} {L L' : List Nat} {i j : Nat} (h : (∀ y ∈ L, srY w (exq (i, j) y) = true) ↔ (∀ y ∈ L', srY w (exq (i, j) y) = true)) : pk w L i j = pk w L' i j := by
  cases hb : pk w L' i j with
  | true => exact pk_iff.2 (h.2 (pk_iff.1 hb))
  | false =>
    cases hc : pk w L i j with
    | false => rfl
    | true => rw [pk_iff.2 (h.1 (pk_iff.1 hc))] at hb; exact absurd hb (by decide)
theorem oneB_mem {w : Nat} {L L' : List Nat} (h : ∀ y : Nat, y ∈ L ↔ y ∈ L') : oneB w L = oneB w L' :=
  anyP_c (fun i j _ _ => pk_c ⟨fun a y hy => a y ((h y).2 hy), fun a y hy => a y ((h y).1 hy)⟩)
theorem srt_step {w y : Nat} (h : badB y (w - 1) = false) : ∀ (n i : Nat), i + n + 1 ≤ w → y.testBit i = true → y.testBit (i + n) = true
  | 0, i, _, hi => hi
  | n + 1, i, hn, hi => by
    have ih := srt_step h n i (by omega) hi
    have hb : ∀ v : Nat, v + 1 ≤ w - 1 → (y.testBit v && !y.testBit (v + 1)) = false := by
      intro v hv
      have mono : ∀ m u : Nat, u + m = w - 1 → badB y u = false := by
        intro m
        induction m with
        | zero => intro u hu; rw [show u = w - 1 by omega]; exact h
        | succ m ih2 =>
          intro u hu
          have := ih2 (u + 1) (by omega)
          have this : (badB y u || (y.testBit u && !y.testBit (u + 1))) = false := this
          exact (Bool.or_eq_false_iff.1 this).1
      have := mono (w - 1 - (v + 1)) (v + 1) (by omega)
      have this : (badB y v || (y.testBit v && !y.testBit (v + 1))) = false := this
      exact (Bool.or_eq_false_iff.1 this).2
    have := hb (i + n) (by omega)
    rw [ih] at this
    cases hc : y.testBit (i + n + 1) with
    | true => rfl
    | false => rw [hc] at this; exact absurd this (by decide)
theorem srt_exq {w y i j : Nat} (h : srY w y = true) (hij : i < j) (hj : j < w) : exq (i, j) y = y := by
  unfold srY at h
  have hb : badB y (w - 1) = false := by
    cases hc : badB y (w - 1) with
    | false => rfl
    | true => rw [hc] at h; exact absurd h (by decide)
  refine exq_id ?_
  unfold exB
  show (y.testBit i && !y.testBit j) = false
  cases hi : y.testBit i with
  | false => rfl
  | true =>
    have := srt_step hb (j - i) i (by omega) hi
    rw [show i + (j - i) = j by omega] at this
    rw [this]; rfl
theorem pk_flt {w : Nat} {L : List Nat} {i j : Nat} (hij : i < j) (hj : j < w) : pk w (L.filter (fun y => !srY w y)) i j = pk w L i j := by
  refine pk_c ⟨fun a y hy => ?_, fun a y hy => a y (List.mem_filter.1 hy).1⟩
  by_cases q : srY w y = true
  · rw [srt_exq q hij hj]; exact q
  · refine a y (List.mem_filter.2 ⟨hy, ?_⟩)
    cases hc : srY w y with
    | false => rfl
    | true => exact absurd hc q
theorem oneB_flt {w : Nat} {L : List Nat} : oneB w (L.filter (fun y => !srY w y)) = oneB w L := anyP_c (fun i j h1 h2 => pk_flt h1 h2)
theorem twoB_flt {w : Nat} {L : List Nat} : anyP w (fun i j => oneB w (((L.filter (fun y => !srY w y)).map (exq (i, j))).filter (fun y => !srY w y))) = twoB w L := by
  refine anyP_c (fun i j h1 h2 => ?_)
  show oneB w _ = oneB w _
  rw [oneB_flt]
  refine anyP_c (fun a b h3 h4 => pk_c ⟨fun c z hz => ?_, fun c z hz => ?_⟩)
  · obtain ⟨y, hy, rfl⟩ := List.mem_map.1 hz
    by_cases q : srY w y = true
    · rw [srt_exq q h1 h2, srt_exq q h3 h4]; exact q
    · refine c _ (List.mem_map.2 ⟨y, List.mem_filter.2 ⟨hy, ?_⟩, rfl⟩)
      cases hc : srY w y with
      | false => rfl
      | true => exact absurd hc q
  · obtain ⟨y, hy, rfl⟩ := List.mem_map.1 hz
    exact c _ (List.mem_map.2 ⟨y, (List.mem_filter.1 hy).1, rfl⟩)
/-! the class's side -/
def AR (h : Hp) (r : Int) (U : List Nat) : Prop := ∀ (i : Nat) (hi : i < U.length), h r i = ((U[i]'hi : Nat) : Int)
theorem AR_add {h : Hp} {r : Int} {U : List Nat} {y : Nat} (H : AR h r U) : AR (up h r (U.length : Nat) y) r (U ++ [y]) := by
  intro i hi
  rw [List.length_append, List.length_singleton] at hi
  by_cases q : i < U.length
  · rw [up_no (by omega), H i q, List.getElem_append_left q]
  · have e : i = U.length := by omega
    subst e
    rw [up_eq, List.getElem_append_right (Nat.le_refl _)]
    simp
theorem AR_c {h g : Hp} {r : Int} {U : List Nat} (H : AR h r U) (e : ∀ y : Int, g r y = h r y) : AR g r U := fun i hi => by rw [e]; exact H i hi
theorem c_pk {h : Hp} {r : Int} {w i j : Nat} {Q : Int → Hp → Prop} (hr : r = 95 ∨ r = 96) (hw1 : 1 ≤ w) (hw : w ≤ 8) (hij : i < j) (hj : j < w) : ∀ (rest pre : List Nat), AR h r (pre ++ rest) → (∀ y ∈ rest, y < 2 ^ w) → pre.length + rest.length ≤ 256 → Q (if pk w rest i j then 1 else 0) h → E 1 mX1_pairSorts 3 [(0, vr r), (1, vi ((pre ++ rest).length : Nat)), (2, vi w), (3, vi i), (4, vi j), (5, vi pre.length)] [] h (qi Q)
  | [], pre, A, hU, hl, hq => by
    rw [List.append_nil]
    exact sX1_pairSorts_3 ⟨fun _ => hq, fun c => absurd c (by omega)⟩
  | y :: t, pre, A, hU, hl, hq => by
    have h256 := p256 hw
    have hy := hU y (List.mem_cons_self ..)
    have len : (pre ++ y :: t).length = pre.length + (t.length + 1) := by rw [List.length_append, List.length_cons]
    rw [List.length_cons] at hl
    have e : h r pre.length = y := by
      have := A pre.length (by omega)
      rw [this]
      simp
    refine sX1_pairSorts_3 ⟨fun c => absurd c (by omega), fun _ => ⟨⟨hr, by omega⟩, ?_⟩⟩
    rw [e, bit_c (c := (i, j)) (by omega) (by show i < 8; omega) (by show j < 8; omega)]
    refine c_isSorted rfl rfl hw1 hw (exq_lt (by show i < w; omega) hj hy) ?_
    have ep : pk w (y :: t) i j = (srY w (exq (i, j) y) && pk w t i j) := rfl
    rw [ep] at hq
    cases hb : badB (exq (i, j) y) (w - 1) with
    | true =>
      refine ⟨fun c => absurd rfl c, fun _ => ?_⟩
      have : srY w (exq (i, j) y) = false := by unfold srY; rw [hb]; rfl
      rw [this] at hq
      exact hq
    | false =>
      refine ⟨fun _ => ⟨by omega, ?_⟩, fun c => absurd c (by decide)⟩
      have : srY w (exq (i, j) y) = true := by unfold srY; rw [hb]; rfl
      rw [this, Bool.true_and] at hq
      have := c_pk hr hw1 hw hij hj t (pre ++ [y]) (by rw [List.append_assoc]; exact A) (fun z hz => hU z (List.mem_cons_of_mem _ hz)) (by rw [List.length_append, List.length_singleton]; omega) hq
      rw [List.append_assoc, List.length_append (as := pre) (bs := [y])] at this
      exact this
theorem c_pairS {h : Hp} {r : Int} {w i j : Nat} {U : List Nat} {Q : Int → Hp → Prop} (hr : r = 95 ∨ r = 96) (hw1 : 1 ≤ w) (hw : w ≤ 8) (hij : i < j) (hj : j < w) (A : AR h r U) (hU : ∀ y ∈ U, y < 2 ^ w) (hl : U.length ≤ 256) (hq : Q (if pk w U i j then 1 else 0) h) : CI 1 mX1_pairSorts [vr r, vi U.length, vi w, vi i, vi j] h Q :=
  sX1_pairSorts (c_pk hr hw1 hw hij hj U [] A hU (by show 0 + _ ≤ 256; omega) hq)
theorem c_o12 {h : Hp} {r : Int} {w i : Nat} {U : List Nat} {Q : Int → Hp → Prop} (hr : r = 95 ∨ r = 96) (hw1 : 1 ≤ w) (hw : w ≤ 8) (A : AR h r U) (hU : ∀ y ∈ U, y < 2 ^ w) (hl : U.length ≤ 256) (hi : i < w) (hq1 : ∀ j : Nat, i < j → j < w → pk w U i j = true → Q 1 h) : ∀ (m j : Nat) (z : Int), z = j → j + m = w → i < j → (∀ j' : Nat, i < j' → j' < j → pk w U i j' = false) → ((∀ j' : Nat, i < j' → j' < w → pk w U i j' = false) → E 2 mX1_oneSorts 2 [(0, vr r), (1, vi U.length), (2, vi w), (3, vi ((i : Int) + 1))] [] h (qi Q)) → E 2 mX1_oneSorts 12 [(0, vr r), (1, vi U.length), (2, vi w), (3, vi i), (4, vi z)] [] h (qi Q)
  | 0, j, z, ez, hm, hij, I, hn => sX1_oneSorts_12 ⟨fun _ => ⟨by omega, hn (fun j' h1 h2 => I j' h1 (by omega))⟩, fun c => absurd c (by omega)⟩
  | m + 1, j, z, ez, hm, hij, I, hn => by
    subst ez
    refine sX1_oneSorts_12 ⟨fun c => absurd c (by omega), fun _ => c_pairS hr hw1 hw hij (by omega) A hU hl ?_⟩
    cases hb : pk w U i j with
    | true => exact ⟨fun c => absurd c (by decide), fun _ => hq1 j hij (by omega) hb⟩
    | false =>
      refine ⟨fun _ => ⟨by omega, c_o12 hr hw1 hw A hU hl hi hq1 m (j + 1) _ (by omega) (by omega) (by omega) (fun j' h1 h2 => ?_) hn⟩, fun c => absurd rfl c⟩
      by_cases q : j' = j
      · rw [q]; exact hb
      · exact I j' h1 (by omega)
theorem c_o2 {h : Hp} {r : Int} {w : Nat} {U : List Nat} {Q : Int → Hp → Prop} (hr : r = 95 ∨ r = 96) (hw1 : 1 ≤ w) (hw : w ≤ 8) (A : AR h r U) (hU : ∀ y ∈ U, y < 2 ^ w) (hl : U.length ≤ 256) (hq : Q (if oneB w U then 1 else 0) h) : ∀ (m i : Nat) (z : Int), z = i → i + m = w → (∀ i' j' : Nat, i' < i → i' < j' → j' < w → pk w U i' j' = false) → E 2 mX1_oneSorts 2 [(0, vr r), (1, vi U.length), (2, vi w), (3, vi z)] [] h (qi Q)
  | 0, i, z, ez, hm, I => by
    refine sX1_oneSorts_2 ⟨fun _ => ?_, fun c => absurd c (by omega)⟩
    have : oneB w U = false := anyP_f (fun i' j' h1 h2 => I i' j' (by omega) h1 h2)
    rw [this] at hq
    exact hq
  | m + 1, i, z, ez, hm, I => by
    subst ez
    refine sX1_oneSorts_2 ⟨fun c => absurd c (by omega), fun _ => ⟨by omega, ?_⟩⟩
    refine c_o12 hr hw1 hw A hU hl (by omega) (fun j h1 h2 h3 => ?_) (w - (i + 1)) (i + 1) _ (by omega) (by omega) (by omega) (fun j' h1 h2 => absurd h2 (by omega)) (fun a => c_o2 hr hw1 hw A hU hl hq m (i + 1) _ (by omega) (by omega) (fun i' j' h1 h2 h3 => ?_))
    · have : oneB w U = true := anyP_iff.2 ⟨i, j, h1, h2, h3⟩
      rw [this] at hq
      exact hq
    · by_cases q : i' = i
      · subst q; exact a j' h2 h3
      · exact I i' j' (by omega) h2 h3
theorem c_one {h : Hp} {r zl zw : Int} {w : Nat} {U : List Nat} {Q : Int → Hp → Prop} (hr : r = 95 ∨ r = 96) (el : zl = U.length) (ew : zw = w) (hw1 : 1 ≤ w) (hw : w ≤ 8) (A : AR h r U) (hU : ∀ y ∈ U, y < 2 ^ w) (hl : U.length ≤ 256) (hq : Q (if oneB w U then 1 else 0) h) : CI 2 mX1_oneSorts [vr r, vi zl, vi zw] h Q := by
  subst el
  subst ew
  exact sX1_oneSorts (c_o2 hr hw1 hw A hU hl hq w 0 0 (by omega) (by omega) (fun i' j' h1 => absurd h1 (by omega)))
theorem c_ku {w i j : Nat} {Q : Int → Hp → Prop} (hw1 : 1 ≤ w) (hw : w ≤ 8) (hij : i < j) (hj : j < w) : ∀ (rest pre V : List Nat) (h : Hp), AR h 95 (pre ++ rest) → (∀ y ∈ rest, y < 2 ^ w) → pre.length + rest.length ≤ 256 → V.length ≤ pre.length → AR h 96 V → (∀ g : Hp, AR g 96 (V ++ (rest.map (exq (i, j))).filter (fun y => !srY w y)) → (∀ x y : Int, x ≠ 96 → g x y = h x y) → Q ((V ++ (rest.map (exq (i, j))).filter (fun y => !srY w y)).length : Nat) g) → E 1 mX1_keepUnsorted 6 [(0, vr 91), (1, vi ((pre ++ rest).length : Nat)), (2, vi w), (3, vi i), (4, vi j), (5, vi V.length), (6, vi pre.length)] [] h (qi Q)
  | [], pre, V, h, A, hU, hl, hv, B, hq => by
    rw [List.append_nil]
    refine sX1_keepUnsorted_6 ⟨fun _ => ?_, fun c => absurd c (by omega)⟩
    rw [show (List.map (exq (i, j)) []).filter (fun y => !srY w y) = [] from rfl, List.append_nil] at hq
    exact hq h B (fun _ _ _ => rfl)
  | y :: t, pre, V, h, A, hU, hl, hv, B, hq => by
    have h256 := p256 hw
    have hy := hU y (List.mem_cons_self ..)
    have len : (pre ++ y :: t).length = pre.length + (t.length + 1) := by rw [List.length_append, List.length_cons]
    rw [List.length_cons] at hl
    have e : h 95 pre.length = y := by
      have := A pre.length (by omega)
      rw [this]
      simp
    have lt : exq (i, j) y < 2 ^ w := exq_lt (by show i < w; omega) hj hy
    refine sX1_keepUnsorted_6 ⟨fun c => absurd c (by omega), fun _ => ⟨by omega, fun x4 hx4 => ?_⟩⟩
    rw [e, bit_c (c := (i, j)) (by omega) (by show i < 8; omega) (by show j < 8; omega)] at hx4
    subst hx4
    rw [List.map_cons] at hq
    refine c_isSorted rfl rfl hw1 hw lt ?_
    cases hb : badB (exq (i, j) y) (w - 1) with
    | true =>
      have hs : (!srY w (exq (i, j) y)) = true := by unfold srY; rw [hb]; rfl
      rw [List.filter_cons_of_pos (p := fun y => !srY w y) hs] at hq
      refine ⟨fun c => absurd rfl c, fun _ => ⟨by omega, ?_⟩⟩
      have := c_ku hw1 hw hij hj t (pre ++ [y]) (V ++ [exq (i, j) y]) (up h 96 V.length (exq (i, j) y : Nat)) (by rw [List.append_assoc]; exact AR_c A (fun _ => by rw [up_no (by omega)])) (fun z hz => hU z (List.mem_cons_of_mem _ hz)) (by rw [List.length_append, List.length_singleton]; omega) (by rw [List.length_append, List.length_append, List.length_singleton]; exact Nat.add_le_add_right hv 1) (AR_add B) (fun g p1 p2 => by
        rw [List.append_assoc] at p1 ⊢
        exact hq g p1 (fun x y hx => by rw [p2 x y hx, up_no (by omega)]))
      rw [List.append_assoc, List.length_append (as := pre) (bs := [y]), List.length_append (as := V)] at this
      exact this
    | false =>
      have hs : ¬ (!srY w (exq (i, j) y)) = true := by unfold srY; rw [hb]; decide
      rw [List.filter_cons_of_neg (p := fun y => !srY w y) hs] at hq
      refine ⟨fun _ => ⟨by omega, ?_⟩, fun c => absurd c (by decide)⟩
      have := c_ku hw1 hw hij hj t (pre ++ [y]) V h (by rw [List.append_assoc]; exact A) (fun z hz => hU z (List.mem_cons_of_mem _ hz)) (by rw [List.length_append, List.length_singleton]; omega) (by rw [List.length_append]; omega) B hq
      rw [List.append_assoc, List.length_append (as := pre) (bs := [y])] at this
      exact this
def keU (w : Nat) (U : List Nat) (i j : Nat) : List Nat := (U.map (exq (i, j))).filter (fun y => !srY w y)
theorem keU_r {w : Nat} {U : List Nat} {i j : Nat} (hij : i < j) (hj : j < w) (hU : ∀ y ∈ U, y < 2 ^ w) : (keU w U i j).length ≤ U.length ∧ ∀ y ∈ keU w U i j, y < 2 ^ w := by
  unfold keU
  refine ⟨?_, fun y hy => ?_⟩
  · have := List.length_filter_le (fun y => !srY w y) (U.map (exq (i, j)))
    rw [List.length_map] at this
    exact this
  · obtain ⟨z, hz, rfl⟩ := List.mem_map.1 (List.mem_filter.1 hy).1
    exact exq_lt (by show i < w; omega) hj (hU z hz)
theorem c_t12 {w i : Nat} {U : List Nat} {Q : Int → Hp → Prop} (hw1 : 1 ≤ w) (hw : w ≤ 8) (hU : ∀ y ∈ U, y < 2 ^ w) (hl : U.length ≤ 256) (hi : i < w) : ∀ (m j : Nat) (z : Int) (h : Hp), AR h 95 U → z = j → j + m = w → i < j → (∀ j' : Nat, i < j' → j' < j → oneB w (keU w U i j') = false) → (∀ (j : Nat) (g : Hp), i < j → j < w → oneB w (keU w U i j) = true → (∀ x y : Int, x ≠ 96 → g x y = h x y) → Q 1 g) → (∀ g : Hp, (∀ x y : Int, x ≠ 96 → g x y = h x y) → (∀ j' : Nat, i < j' → j' < w → oneB w (keU w U i j') = false) → E 3 mX1_twoSort 2 [(0, vr 91), (1, vi U.length), (2, vi w), (3, vi ((i : Int) + 1))] [] g (qi Q)) → E 3 mX1_twoSort 12 [(0, vr 91), (1, vi U.length), (2, vi w), (3, vi i), (4, vi z)] [] h (qi Q)
  | 0, j, z, h, A, ez, hm, hij, I, hq1, hn => sX1_twoSort_12 ⟨fun _ => ⟨by omega, hn h (fun _ _ _ => rfl) (fun j' h1 h2 => I j' h1 (by omega))⟩, fun c => absurd c (by omega)⟩
  | m + 1, j, z, h, A, ez, hm, hij, I, hq1, hn => by
    subst ez
    obtain ⟨k1, k2⟩ := keU_r hij (by omega) hU
    refine sX1_twoSort_12 ⟨fun c => absurd c (by omega), fun _ => sX1_keepUnsorted (c_ku hw1 hw hij (by omega) U [] [] h A hU (by show 0 + _ ≤ 256; omega) (Nat.le_refl _) (fun i hi => absurd hi (Nat.not_lt_zero _)) (fun g p1 p2 => ?_))⟩
    rw [List.nil_append] at p1 ⊢
    refine c_one (U := keU w U i j) (Or.inr rfl) rfl rfl hw1 hw p1 k2 (by omega) ?_
    cases hb : oneB w (keU w U i j) with
    | true => exact ⟨fun c => absurd c (by decide), fun _ => hq1 j g hij (by omega) hb p2⟩
    | false =>
      refine ⟨fun _ => ⟨by omega, c_t12 hw1 hw hU hl hi m (j + 1) _ g (AR_c A (fun y => p2 _ y (by omega))) (by omega) (by omega) (by omega) (fun j' h1 h2 => ?_) (fun j g2 a1 a2 a3 a4 => hq1 j g2 a1 a2 a3 (fun x y hx => by rw [a4 x y hx, p2 x y hx])) (fun g2 a1 a2 => hn g2 (fun x y hx => by rw [a1 x y hx, p2 x y hx]) a2)⟩, fun c => absurd rfl c⟩
      by_cases q : j' = j
      · rw [q]; exact hb
      · exact I j' h1 (by omega)
theorem c_t2 {w : Nat} {U : List Nat} {Q : Int → Hp → Prop} (hw1 : 1 ≤ w) (hw : w ≤ 8) (hU : ∀ y ∈ U, y < 2 ^ w) (hl : U.length ≤ 256) : ∀ (m i : Nat) (z : Int) (h : Hp), AR h 95 U → z = i → i + m = w → (∀ i' j' : Nat, i' < i → i' < j' → j' < w → oneB w (keU w U i' j') = false) → (∀ g : Hp, (∀ x y : Int, x ≠ 96 → g x y = h x y) → Q (if anyP w (fun i j => oneB w (keU w U i j)) then 1 else 0) g) → E 3 mX1_twoSort 2 [(0, vr 91), (1, vi U.length), (2, vi w), (3, vi z)] [] h (qi Q)
  | 0, i, z, h, A, ez, hm, I, hq => by
    refine sX1_twoSort_2 ⟨fun _ => ?_, fun c => absurd c (by omega)⟩
    have hf : anyP w (fun i j => oneB w (keU w U i j)) = false := anyP_f (fun i' j' h1 h2 => I i' j' (by omega) h1 h2)
    rw [hf] at hq
    exact hq h (fun _ _ _ => rfl)
  | m + 1, i, z, h, A, ez, hm, I, hq => by
    subst ez
    refine sX1_twoSort_2 ⟨fun c => absurd c (by omega), fun _ => ⟨by omega, ?_⟩⟩
    refine c_t12 hw1 hw hU hl (by omega) (w - (i + 1)) (i + 1) _ h A (by omega) (by omega) (by omega) (fun j' h1 h2 => absurd h2 (by omega)) (fun j g h1 h2 h3 fr => ?_) (fun g fr a => c_t2 hw1 hw hU hl m (i + 1) _ g (AR_c A (fun y => fr _ y (by omega))) (by omega) (by omega) (fun i' j' h1 h2 h3 => ?_) (fun g2 f2 => hq g2 (fun x y hx => by rw [f2 x y hx, fr x y hx])))
    · have ht : anyP w (fun i j => oneB w (keU w U i j)) = true := anyP_iff.2 ⟨i, j, h1, h2, h3⟩
      rw [ht] at hq
      exact hq g fr
    · by_cases q : i' = i
      · subst q; exact a j' h2 h3
      · exact I i' j' (by omega) h2 h3
theorem c_two {h : Hp} {zl zw : Int} {w : Nat} {U : List Nat} {Q : Int → Hp → Prop} (el : zl = U.length) (ew : zw = w) (hw1 : 1 ≤ w) (hw : w ≤ 8) (A : AR h 95 U) (hU : ∀ y ∈ U, y < 2 ^ w) (hl : U.length ≤ 256) (hq : ∀ g : Hp, (∀ x y : Int, x ≠ 96 → g x y = h x y) → Q (if anyP w (fun i j => oneB w (keU w U i j)) then 1 else 0) g) : CI 3 mX1_twoSort [vr 91, vi zl, vi zw] h Q := by
  subst el
  subst ew
  exact sX1_twoSort (c_t2 hw1 hw hU hl w 0 0 h A (by omega) (by omega) (fun i' j' h1 => absurd h1 (by omega)) hq)
theorem c_l5 {w : Nat} {zl : Int} {L : List Nat} {Q : Int → Hp → Prop} (hw1 : 1 ≤ w) (hw : w ≤ 8) (hU : ∀ y ∈ L, y < 2 ^ w) (hl : L.length ≤ 256) : ∀ (rest pre V : List Nat) (h : Hp), pre ++ rest = L → OS h 85 w L → V.length ≤ pre.length → AR h 95 V → (∀ g : Hp, OS g 85 w L → AR g 95 (V ++ rest.filter (fun y => !srY w y)) → (∀ x y : Int, x ≠ 95 → g x y = h x y) → E 4 mX1_leastToSort 53 [(0, vr 91), (1, vr 85), (2, vi zl), (3, vi ((V ++ rest.filter (fun y => !srY w y)).length : Nat))] [] g (qi Q)) → E 4 mX1_leastToSort 5 [(0, vr 91), (1, vr 85), (2, vi zl), (3, vi V.length), (4, vi pre.length)] [] h (qi Q)
  | [], pre, V, h, hp, O, hv, B, hq => by
    have len : pre.length = L.length := by rw [← hp, List.append_nil]
    have e := O.2.1
    refine sX1_leastToSort_5 ⟨by omega, fun _ => ?_, fun c => absurd c (by omega)⟩
    rw [show (List.filter (fun y => !srY w y) []) = [] from rfl, List.append_nil] at hq
    exact hq h O B (fun _ _ _ => rfl)
  | y :: t, pre, V, h, hp, O, hv, B, hq => by
    have hy := hU y (by rw [← hp]; exact List.mem_append_right _ (List.mem_cons_self ..))
    have len : pre.length + (t.length + 1) = L.length := by rw [← hp, List.length_append, List.length_cons]
    have e0 := O.2.1
    have e : h 87 pre.length = y := by
      have hh := O.2.2.2 pre.length (by omega)
      rw [show (85 : Int) + 2 = 87 from rfl] at hh
      rw [hh]
      subst hp
      simp
    have fr0 : ∀ (g : Hp), (∀ x y : Int, x ≠ 95 → g x y = h x y) → OS g 85 w L := fun g fr => ⟨by rw [fr _ _ (by omega)]; exact O.1, by rw [fr _ _ (by omega)]; exact O.2.1, fun z hz => by rw [fr _ _ (by omega)]; exact O.2.2.1 z hz, fun i hi => by rw [fr _ _ (by omega)]; exact O.2.2.2 i hi⟩
    refine sX1_leastToSort_5 ⟨by omega, fun c => absurd c (by omega), fun _ => ⟨by omega, ?_⟩⟩
    rw [show (85 : Int) + 2 = 87 from rfl, e]
    refine c_isSorted rfl O.1 hw1 hw hy ?_
    cases hb : badB y (w - 1) with
    | true =>
      have hs : (!srY w y) = true := by unfold srY; rw [hb]; rfl
      rw [List.filter_cons_of_pos (p := fun y => !srY w y) hs] at hq
      refine ⟨fun c => absurd rfl c, fun _ => ⟨by omega, ?_⟩⟩
      rw [e]
      have fru : ∀ x z : Int, x ≠ 95 → up h 95 V.length (y : Nat) x z = h x z := fun x z hx => by rw [up_no (by omega)]
      have := c_l5 (zl := zl) (Q := Q) hw1 hw hU hl t (pre ++ [y]) (V ++ [y]) (up h 95 V.length (y : Nat)) (by rw [List.append_assoc]; exact hp) (fr0 _ fru) (by rw [List.length_append, List.length_append, List.length_singleton]; exact Nat.add_le_add_right hv 1) (AR_add B) (fun g p0 p1 p2 => by
        rw [List.append_assoc] at p1 ⊢
        exact hq g p0 p1 (fun x z hx => by rw [p2 x z hx, fru x z hx]))
      rw [List.length_append (as := pre) (bs := [y]), List.length_append (as := V) (bs := [y])] at this
      exact this
    | false =>
      have hs : ¬ (!srY w y) = true := by unfold srY; rw [hb]; decide
      rw [List.filter_cons_of_neg (p := fun y => !srY w y) hs] at hq
      refine ⟨fun _ => ⟨by omega, ?_⟩, fun c => absurd c (by decide)⟩
      have := c_l5 (zl := zl) (Q := Q) hw1 hw hU hl t (pre ++ [y]) V h (by rw [List.append_assoc]; exact hp) O (by rw [List.length_append]; omega) B hq
      rw [List.length_append (as := pre) (bs := [y])] at this
      exact this
/-- the least number of comparators more, or lim + 1 -/
def lts (w lim : Nat) (L : List Nat) : Nat := if allS w L then 0 else if 1 ≤ lim ∧ oneB w L = true then 1 else if 2 ≤ lim ∧ twoB w L = true then 2 else lim + 1
theorem flt_nil {w : Nat} {L : List Nat} : L.filter (fun y => !srY w y) = [] ↔ allS w L = true := by
  rw [List.filter_eq_nil_iff]
  unfold allS
  rw [List.all_eq_true]
  constructor
  · intro h y hy
    have := h y hy
    cases hc : srY w y with
    | true => rfl
    | false => rw [hc] at this; exact absurd rfl this
  · intro h y hy c
    rw [h y hy] at c
    exact absurd c (by decide)
theorem c_least {h : Hp} {w lim : Nat} {L : List Nat} {Q : Int → Hp → Prop} (hw1 : 1 ≤ w) (hw : w ≤ 8) (hlim : lim ≤ 2) (hU : ∀ y ∈ L, y < 2 ^ w) (hl : L.length ≤ 256) (O : OS h 85 w L) (hq : ∀ g : Hp, (∀ x y : Int, ¬ (x = 95 ∨ x = 96) → g x y = h x y) → Q (lts w lim L : Nat) g) : CI 4 mX1_leastToSort [vr 91, vr 85, vi lim] h Q := by
  refine sX1_leastToSort (c_l5 hw1 hw hU hl L [] [] h rfl O (Nat.le_refl _) (fun i hi => absurd hi (Nat.not_lt_zero _)) (fun g O2 B fr => ?_))
  rw [List.nil_append] at B ⊢
  have fl := List.length_filter_le (fun y => !srY w y) L
  have hU2 : ∀ y ∈ L.filter (fun y => !srY w y), y < 2 ^ w := fun y hy => hU y (List.mem_filter.1 hy).1
  have fr' : ∀ x y : Int, ¬ (x = 95 ∨ x = 96) → g x y = h x y := fun x y hx => fr x y (by omega)
  by_cases ha : allS w L = true
  · have e0 := flt_nil.2 ha
    refine sX1_leastToSort_53 ⟨fun c => absurd (by rw [e0]; rfl) c, fun _ => ?_⟩
    have := hq g fr'
    unfold lts at this
    rw [if_pos ha] at this
    exact this
  · have n0 : ((L.filter (fun y => !srY w y)).length : Int) ≠ 0 := by
      intro e
      have e2 : (L.filter (fun y => !srY w y)).length = 0 := by omega
      exact ha (flt_nil.1 (List.eq_nil_of_length_eq_zero e2))
    unfold lts at hq
    rw [if_neg ha] at hq
    have two : ∀ g1 : Hp, 2 ≤ lim → OS g1 85 w L → AR g1 95 (L.filter (fun y => !srY w y)) → (∀ x y : Int, ¬ (x = 95 ∨ x = 96) → g1 x y = h x y) → ¬ (1 ≤ lim ∧ oneB w L = true) → CI 3 mX1_twoSort [vr 91, vi ((L.filter (fun y => !srY w y)).length : Nat), vi (g1 85 2)] g1 (fun r7 h6 => (((r7 = 0) → (rj ((lim : Int) + 1)))) ∧ Q (if r7 = 0 then ((lim : Int) + 1) else 2) h6) := fun g1 l2 O1 B1 f1 no => by
      refine c_two rfl O1.1 hw1 hw B1 hU2 (by omega) (fun g2 f2 => ?_)
      have et : anyP w (fun i j => oneB w (keU w (L.filter (fun y => !srY w y)) i j)) = twoB w L := twoB_flt
      rw [et]
      have hq2 := hq g2 (fun x y hx => by rw [f2 x y (by omega), f1 x y hx])
      rw [if_neg no] at hq2
      cases hb : twoB w L with
      | true =>
        rw [if_pos ⟨l2, hb⟩] at hq2
        exact ⟨fun _ => by omega, hq2⟩
      | false =>
        rw [if_neg (fun c => by rw [hb] at c; exact absurd c.2 (by decide))] at hq2
        exact ⟨fun _ => by omega, hq2⟩
    refine sX1_leastToSort_53 ⟨fun _ => ⟨fun c => ⟨fun c2 => ⟨by omega, ?_⟩, fun c2 => absurd c2 (by omega)⟩, fun c => ⟨by omega, ?_⟩⟩, fun c => absurd c n0⟩
    · have hq2 := hq g fr'
      rw [if_neg (by omega), if_neg (by omega)] at hq2
      exact hq2
    · refine c_one (Or.inl rfl) rfl O2.1 hw1 hw B hU2 (by omega) ?_
      rw [oneB_flt]
      cases hb : oneB w L with
      | true =>
        refine ⟨fun c => absurd c (by decide), fun _ => ?_⟩
        have hq2 := hq g fr'
        rw [if_pos ⟨by omega, hb⟩] at hq2
        exact hq2
      | false =>
        have no : ¬ (1 ≤ lim ∧ oneB w L = true) := fun c => by rw [hb] at c; exact absurd c.2 (by decide)
        refine ⟨fun _ => ⟨fun c2 => ⟨by omega, ?_⟩, fun c2 => ⟨by omega, two g (by omega) O2 B fr' no⟩⟩, fun c => absurd rfl c⟩
        have hq2 := hq g fr'
        rw [if_neg no, if_neg (by omega)] at hq2
        exact hq2
