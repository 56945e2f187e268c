/-! prune, reduce -/
def anyB (p : Nat → Bool) : Nat → Bool
  | 0 => false
  | n + 1 => anyB p n || p n
theorem anyB_f {p : Nat → Bool} : ∀ (n : Nat), anyB p n = false → ∀ x : Nat, x < n → p x = false
  | 0, _, x, hx => absurd hx (by omega)
  | n + 1, e, x, hx => by
    have e : (anyB p n || p n) = false := e
    rw [Bool.or_eq_false_iff] at e
    by_cases q : x = n
    · rw [q]; exact e.2
    · exact anyB_f n e.1 x (by omega)
theorem anyB_t {p : Nat → Bool} : ∀ (n x : Nat), x < n → p x = true → anyB p n = true
  | 0, x, hx, _ => absurd hx (by omega)
  | n + 1, x, hx, e => by
    show (anyB p n || p n) = true
    by_cases q : x = n
    · rw [← q, e, Bool.or_true]
    · rw [anyB_t n x (by omega) e, Bool.true_or]
theorem IsE_any {p : Nat → Bool} {n : Nat} {r : Int} (h : IsE p n r) : r = if anyB p n then 1 else 0 := by
  rcases h with ⟨e, a⟩ | ⟨e, X, b, c⟩
  · cases hb : anyB p n with
    | false => exact e
    | true =>
      exfalso
      have : ∀ m : Nat, m ≤ n → anyB p m = false := by
        intro m
        induction m with
        | zero => intro _; rfl
        | succ m ih =>
          intro hm
          show (anyB p m || p m) = false
          rw [ih (by omega), a m (by omega)]; rfl
      rw [this n (Nat.le_refl _)] at hb
      exact absurd hb (by decide)
  · rw [anyB_t n X b c]; exact e
theorem IsL_any {p : Nat → Bool} {n : Nat} {z : Int} (h : IsL p n z) : (if z = -1 then (1 : Int) else 0) = if anyB p n then 0 else 1 := by
  rcases h with ⟨e, a⟩ | ⟨X, e, b, c, d⟩
  · have := IsE_any (p := p) (n := n) (r := 0) (Or.inl ⟨rfl, a⟩)
    cases hb : anyB p n with
    | false => rw [if_pos e]; rfl
    | true => rw [hb] at this; exact absurd this (by decide)
  · rw [anyB_t n X b c, if_neg (by omega)]; rfl
def idl (w : Nat) (pre : List (Nat × Nat)) (c : Nat × Nat) : Bool := !anyB (fun x => exB c (cry pre x)) (2 ^ w)
def prn (w : Nat) : List (Nat × Nat) → List (Nat × Nat) → List (Nat × Nat)
  | _, [] => []
  | pre, c :: r => if idl w pre c = true then prn w (pre ++ [c]) r else c :: prn w (pre ++ [c]) r
theorem prn_t {w : Nat} {pre r : List (Nat × Nat)} {c : Nat × Nat} (h : idl w pre c = true) : prn w pre (c :: r) = prn w (pre ++ [c]) r := by
  rw [prn, if_pos h]
theorem prn_f {w : Nat} {pre r : List (Nat × Nat)} {c : Nat × Nat} (h : ¬ idl w pre c = true) : prn w pre (c :: r) = c :: prn w (pre ++ [c]) r := by
  rw [prn, if_neg h]
theorem prn_snoc {w : Nat} {c : Nat × Nat} : ∀ (r pre : List (Nat × Nat)), prn w pre (r ++ [c]) = prn w pre r ++ (if idl w (pre ++ r) c = true then [] else [c])
  | [], pre => by
    rw [List.append_nil, List.nil_append]
    by_cases q : idl w pre c = true
    · rw [prn_t q, if_pos q]; rfl
    · rw [prn_f q, if_neg q]; rfl
  | d :: r, pre => by
    rw [List.cons_append]
    by_cases q : idl w pre d = true
    · rw [prn_t q, prn_t q, prn_snoc r (pre ++ [d]), List.append_assoc]; rfl
    · rw [prn_f q, prn_f q, prn_snoc r (pre ++ [d]), List.append_assoc]; rfl
theorem prn_ok {w : Nat} : ∀ (r pre : List (Nat × Nat)), okL w r → (prn w pre r).length ≤ r.length ∧ okL w (prn w pre r)
  | [], pre, h => ⟨Nat.le_refl _, h⟩
  | d :: r, pre, h => by
    obtain ⟨i1, i2⟩ := prn_ok r (pre ++ [d]) (okL_tail h)
    by_cases q : idl w pre d = true
    · rw [prn_t q]
      exact ⟨by rw [List.length_cons]; omega, i2⟩
    · rw [prn_f q]
      refine ⟨by rw [List.length_cons, List.length_cons]; omega, fun e he => ?_⟩
      rcases List.mem_cons.1 he with q2 | q2
      · rw [q2]; exact h d (List.mem_cons_self ..)
      · exact i2 e q2
theorem exq_id {c : Nat × Nat} {y : Nat} (h : exB c y = false) : exq c y = y := by
  unfold exq
  rw [if_neg]
  intro q
  unfold exB at h
  rw [q.1, q.2] at h
  exact absurd h (by decide)
theorem SW_c {h g : Hp} {w : Nat} {f f' : Nat → Nat} (S : SW h w f) (fr : ∀ y : Int, g 83 y = h 83 y ∧ g 84 y = h 84 y) (e : ∀ x : Nat, x < 64 * wds w → f' x = f x) : SW g w f' := by
  obtain ⟨s1, s2, s3⟩ := S
  refine ⟨by rw [(fr 1).1]; exact s1, by rw [(fr 2).1]; exact s2, fun v k h1 h2 => ?_⟩
  obtain ⟨L, l1, l2⟩ := s3 v k h1 h2
  exact ⟨L, by rw [(fr _).2]; exact l1, fun b hb => by rw [l2 b hb, e _ (by omega)]⟩
theorem c_pr {a : Int} {k w n : Nat} {Q : Int → Hp → Prop} (ha : nA a) (ha16 : a ≤ 12) (hw : w ≤ 8) (hn : n ≤ 40) : ∀ (rest pre ks : List (Nat × Nat)) (h : Hp), CNt h a (w, pre ++ rest) → okL w rest → okL w pre → pre.length + rest.length = n → CNt h 16 (w, ks) → ks.length ≤ pre.length → SW h w (fun x => cry pre x) → (∀ g : Hp, CNt g 16 (w, ks ++ prn w pre rest) → (∀ x y : Int, ¬ ((16 ≤ x ∧ x ≤ 18) ∨ x = 84) → g x y = h x y) → CI 6 mX10_replaceBySpare [vr 68, vi k] g (fun r4 h3 => (rj ((n : Int) - r4)) ∧ Q ((n : Int) - r4) h3)) → E 7 mX10_prune 46 [(0, vr 68), (1, vi k), (2, vr a), (3, vi n), (4, vi pre.length)] [] h (qi Q)
  | [], pre, ks, h, A, hok, hop, hl, B, hk, S, hq => by
    have hl' : pre.length = n := by rw [← hl]; rfl
    refine sX10_prune_46 ⟨fun _ => hq h ?_ (fun _ _ _ => rfl), fun c => absurd c (by omega)⟩
    rw [show prn w pre [] = [] from rfl, List.append_nil]
    exact B
  | c :: r, pre, ks, h, A, hok, hop, hl, B, hk, S, hq => by
    have hl' : pre.length + (r.length + 1) = n := by rw [← hl]; rfl
    obtain ⟨b1, b2⟩ := Row_mid (pre := pre) (r := r) (c := c) A.2.2
    rw [Int.zero_add] at b1 b2
    have hc := hok c (List.mem_cons_self ..)
    have hop' : okL w (pre ++ [c]) := fun d hd => by
      rcases List.mem_append.1 hd with q | q
      · exact hop d q
      · rw [List.mem_singleton.1 q]; exact hc
    refine sX10_prune_46 ⟨fun c => absurd c (by omega), fun _ => ⟨⟨ha, by omega⟩, c_exch hw b1 b2 hc hop S (fun e he he2 => ⟨fun c1 => ⟨by omega, ?_⟩, fun c1 => ⟨⟨ha, by omega⟩, ?_⟩⟩)⟩⟩
    · have hi : idl w pre c = true := by
        have := IsE_any he2
        unfold idl
        cases hb : anyB (fun x => exB c (cry pre x)) (2 ^ w) with
        | false => rfl
        | true => rw [hb, c1] at this; exact absurd this (by decide)
      have hall : ∀ x : Nat, x < 64 * wds w → exB c (cry pre x) = false := by
        rcases he with ⟨_, a⟩ | ⟨q, _⟩
        · exact a
        · exact absurd q (by omega)
      have := c_pr (Q := Q) ha ha16 hw hn r (pre ++ [c]) ks h (by rw [List.append_assoc]; exact A) (okL_tail hok) hop' (by rw [List.length_append, List.length_singleton]; omega) B (by rw [List.length_append]; omega) (SW_c S (fun _ => ⟨rfl, rfl⟩) (fun x hx => by rw [cry_app]; exact exq_id (hall x hx))) (by rw [prn_t hi] at hq; exact hq)
      rw [List.length_append, List.length_singleton] at this
      exact this
    · have hi : ¬ idl w pre c = true := by
        have := IsE_any he2
        unfold idl
        cases hb : anyB (fun x => exB c (cry pre x)) (2 ^ w) with
        | false => rw [hb] at this; exact absurd this c1
        | true => decide
      rw [b1, b2]
      refine c_push1 (by omega) B (by omega) hc.1 hc.2.1 hc.2.2 (fun g r1 r2 => ⟨⟨ha, by omega⟩, ?_⟩)
      rw [r2 _ _ (by omega), r2 _ _ (by omega)]
      have S1 : SW g w (fun x => cry pre x) := SW_c S (fun y => ⟨r2 _ _ (by omega), r2 _ _ (by omega)⟩) (fun _ _ => rfl)
      refine c_pass hw b1 b2 hc S1 (fun g2 S2 f2 => ⟨by omega, ?_⟩)
      have S3 : SW g2 w (fun x => cry (pre ++ [c]) x) := SW_c S2 (fun _ => ⟨rfl, rfl⟩) (fun x _ => by rw [cry_app]; rfl)
      have := c_pr (Q := Q) ha ha16 hw hn r (pre ++ [c]) (ks ++ [c]) g2 (by rw [List.append_assoc]; exact CNt_c (fun x y p1 p2 => by rw [f2 x y (by omega), r2 x y (by omega)]) A) (okL_tail hok) hop' (by rw [List.length_append, List.length_singleton]; omega) (CNt_c (fun x y p1 p2 => f2 x y (by omega)) r1) (by rw [List.length_append, List.length_append, List.length_singleton]; omega) S3 (fun g3 s1 s2 => hq g3 (by rw [prn_f hi]; rw [List.append_assoc] at s1; exact s1) (fun x y hx => by rw [s2 x y hx, f2 x y (by omega), r2 x y (by omega)]))
      rw [List.length_append, List.length_singleton] at this
      exact this
theorem del_mid {pre X : List (Nat × Nat)} {c : Nat × Nat} : del (pre ++ c :: X) pre.length = pre ++ X := by
  unfold del
  rw [List.take_left, show pre ++ c :: X = (pre ++ [c]) ++ X by rw [List.append_assoc]; rfl, show pre.length + 1 = (pre ++ [c]).length by rw [List.length_append]; rfl, List.drop_left]
theorem m_pr {k w : Nat} {zl : Int} {Q : Int → Hp → Prop} (hk : k < 4) (hw : w ≤ 8) (hz : 0 ≤ zl ∧ zl ≤ 40) : ∀ (m : Nat) (pre X : List (Nat × Nat)) (z : Int) (h : Hp), pre.length = m → z = (m : Int) - 1 → MNt h k (w, pre ++ X) → okL w pre → pre.length + X.length ≤ 40 → (∀ g : Hp, MNt g k (w, prn w [] pre ++ X) → (∀ x y : Int, ¬ ((x = 105 ∧ y = k) ∨ ((x = 106 ∨ x = 107) ∧ 40 * (k : Int) ≤ y ∧ y < 40 * k + 40)) → g x y = h x y) → Q (zl - g 105 k) g) → E 2 mX11_prune 29 [(0, vr 103), (1, vi k), (2, vi zl), (3, vi z)] [] h (qi Q)
  | 0, pre, X, z, h, hp, ez, M, hok, hl, hq => by
    have e : h 105 k = (pre ++ X).length := M.2.1
    rw [List.length_append] at e
    have ep : pre = [] := List.eq_nil_of_length_eq_zero hp
    refine sX11_prune_29 ⟨fun _ => ⟨by omega, hq h ?_ (fun _ _ _ => rfl)⟩, fun c => absurd c (by omega)⟩
    subst ep
    exact M
  | m + 1, pre, X, z, h, hp, ez, M, hok, hl, hq => by
    obtain ⟨pre', c, rfl⟩ : ∃ (p : List (Nat × Nat)) (c : Nat × Nat), pre = p ++ [c] := by
      rcases List.eq_nil_or_concat pre with q | ⟨p, c, q⟩
      · rw [q] at hp; exact absurd hp.symm (Nat.succ_ne_zero m)
      · exact ⟨p, c, by rw [q, List.concat_eq_append]⟩
    rw [List.length_append, List.length_singleton] at hp hl
    have okp : okL w pre' := fun d hd => hok d (List.mem_append_left _ hd)
    have hc := hok c (List.mem_append_right _ (List.mem_singleton.2 rfl))
    have M' : MNt h k (w, pre' ++ c :: X) := by rw [List.append_assoc] at M; exact M
    refine sX11_prune_29 ⟨fun c => absurd c (by omega), fun _ => m_idle (pre := pre') (post := X) (c := c) (by omega) hk hw M' okp hc (by omega) (fun r hr => ?_)⟩
    have hr' := IsE_any hr
    rw [prn_snoc] at hq
    refine ⟨fun c1 => ⟨by omega, ?_⟩, fun c1 => ?_⟩
    · have hi : ¬ idl w ([] ++ pre') c = true := by
        unfold idl
        rw [List.nil_append]
        cases hb : anyB (fun x => exB c (cry pre' x)) (2 ^ w) with
        | false => rw [hb] at hr'; have : r = 0 := hr'; exact absurd c1 (by omega)
        | true => decide
      rw [if_neg hi] at hq
      refine m_pr hk hw hz m pre' (c :: X) _ h (by omega) (by omega) M' okp (by rw [List.length_cons]; omega) (fun g q1 q2 => hq g ?_ q2)
      rw [List.append_assoc]; exact q1
    · have hi : idl w ([] ++ pre') c = true := by
        unfold idl
        rw [List.nil_append]
        cases hb : anyB (fun x => exB c (cry pre' x)) (2 ^ w) with
        | false => rfl
        | true => rw [hb] at hr'; have : r = 1 := hr'; exact absurd c1 (by omega)
      rw [if_pos hi] at hq
      have hz' : z = pre'.length := by omega
      rw [hz']
      refine m_takes (N := (w, pre' ++ c :: X)) (p := pre'.length) hk M' (by show (pre' ++ c :: X).length ≤ 40; rw [List.length_append, List.length_cons]; omega) (by show _ < (pre' ++ c :: X).length; rw [List.length_append, List.length_cons]; omega) (fun g r1 r2 => ⟨by omega, ?_⟩)
      have r1 : MNt g k (w, del (pre' ++ c :: X) pre'.length) := r1
      rw [del_mid] at r1
      refine m_pr hk hw hz m pre' X _ g (by omega) (by omega) r1 okp (by omega) (fun g2 q1 q2 => hq g2 ?_ (fun x y hx => by rw [q2 x y hx, r2 x y hx]))
      rw [List.append_nil]; exact q1
theorem op_prune {h : Hp} {k : Int} (hR : Rl h) : OpI 7 mX10_prune 2 mX11_prune [vi k] h := by
  obtain ⟨nets, hist, H⟩ := Rl_RlN hR
  by_cases hk : 0 ≤ k ∧ k < 4
  · obtain ⟨j, hj, rfl⟩ := toN hk.1 hk.2
    obtain ⟨n1, n2, n3⟩ := H.1 j hj
    have w8 := n1.2.1
    have l40 := n1.2.2.1
    have okl : okL (nets j).1 (nets j).2 := n1.2.2.2
    obtain ⟨p1, p2⟩ := prn_ok (nets j).2 [] okl
    have ok : okN ((nets j).1, prn (nets j).1 [] (nets j).2) := ⟨n1.1, w8, by show (prn (nets j).1 [] (nets j).2).length ≤ 40; omega, p2⟩
    refine op_chg (k := j) (N' := ((nets j).1, prn (nets j).1 [] (nets j).2)) (r := ((nets j).2.length : Int) - (prn (nets j).1 [] (nets j).2).length) H hj ok ?_ (fun h1 ms => ?_)
    · refine sX10_prune ⟨fun _ => ⟨⟨by omega, by omega, by omega⟩, ?_⟩, fun c => absurd c (by omega)⟩
      rw [n2.1]
      have fr0 : ∀ x y : Int, ¬ (16 ≤ x ∧ x ≤ 18) → up (up h 16 0 (nets j).1) 16 1 0 x y = h x y := fun x y hx => by rw [up_no (by omega), up_no (by omega)]
      refine c_start (w := (nets j).1) w8 (by rw [fr0 _ _ (by omega)]; exact n2.1) (fun g S fr => ?_)
      rw [n2.2.1]
      refine c_pr (w := (nets j).1) (by omega) (by omega) w8 l40 (nets j).2 [] [] g (CNt_c (fun x y q1 q2 => by rw [fr x y (by omega), fr0 x y (by omega)]) n2) okl (fun d hd => absurd hd List.not_mem_nil) (by show 0 + _ = _; omega) ⟨?_, ?_, Row_nil⟩ (Nat.le_refl _) S (fun g2 q1 q2 => ?_)
      · rw [fr _ _ (by omega), up_no (by omega), up_eq]
      · rw [fr _ _ (by omega), up_eq]; rfl
      · have fr2 : ∀ x y : Int, ¬ ((16 ≤ x ∧ x ≤ 18) ∨ x = 83 ∨ x = 84) → g2 x y = h x y := fun x y hx => by rw [q2 x y (by omega), fr x y (by omega), fr0 x y (by omega)]
        refine c_replace hj n1 ok (CNt_c (fun x y r1 r2 => fr2 x y (by omega)) n2) q1 (HiC_f (fun x y hx => fr2 x y (by unfold aH at hx; omega)) H.2.1) (fun g3 c3 => ⟨?_, rfl, c3.1, c3.2.1, fun x y hx => ?_⟩)
        · show rj (((nets j).2.length : Int) - ((prn (nets j).1 [] (nets j).2).length : Int))
          omega
        · rw [c3.2.2 x y hx, fr2 x y (by unfold kC at hx; omega)]
    · obtain ⟨m1, m2, m3, m4, e⟩ := ms
      refine sX11_prune ⟨fun _ => ?_, fun c => absurd c (by omega)⟩
      refine m_remembers (nets := nets) (hist := hist) (fun j hj => (m1 j hj).1) m4 (fun j hj => (m1 j hj).2) m2 m3 (fun g q1 q2 => ?_)
      have M : MNt g j (nets j) := MNt_c (fun x y p1 p2 => q2 x y (by omega)) (m1 j hj).2
      rw [M.2.1]
      refine ⟨⟨by omega, by omega⟩, ?_⟩
      refine m_pr (w := (nets j).1) hj w8 (by omega) (nets j).2.length (nets j).2 [] _ g rfl rfl (by rw [List.append_nil]; exact M) okl (by show _ + 0 ≤ 40; omega) (fun g2 r1 r2 => ?_)
      rw [List.append_nil] at r1
      refine ⟨by rw [r1.2.1], MP_bec (g := g) q1 (fun x y hx => by unfold kM at hx; rw [q2 x y (by omega)]) r1 (fun x y hx => r2 x y (by omega))⟩
  · exact sX10_prune ⟨fun c => absurd c (by omega), fun _ => sX11_prune ⟨fun c => absurd c (by omega), fun _ => ⟨rfl, hR⟩⟩⟩
/-! reduce -/
def ndl (w : Nat) (cs : List (Nat × Nat)) (p : Nat) : Bool := !anyB (fun x => badB (cry (del cs p) x) (w - 1)) (2 ^ w)
def lastQ (q : Nat → Bool) : Nat → Int
  | 0 => -1
  | n + 1 => if q n = true then (n : Int) else lastQ q n
theorem lastQ_r {q : Nat → Bool} : ∀ n : Nat, -1 ≤ lastQ q n ∧ lastQ q n < n
  | 0 => ⟨by show -1 ≤ (-1 : Int); omega, by show (-1 : Int) < 0; omega⟩
  | n + 1 => by
    have := lastQ_r (q := q) n
    unfold lastQ
    split <;> omega
def red (w : Nat) : Nat → List (Nat × Nat) → List (Nat × Nat)
  | 0, cs => cs
  | m + 1, cs => if lastQ (ndl w cs) cs.length = -1 then cs else red w m (del cs (lastQ (ndl w cs) cs.length).toNat)
theorem red_ok {w : Nat} : ∀ (m : Nat) (cs : List (Nat × Nat)), okN (w, cs) → okN (w, red w m cs)
  | 0, cs, h => h
  | m + 1, cs, h => by
    have lr := lastQ_r (q := ndl w cs) cs.length
    unfold red
    by_cases q : lastQ (ndl w cs) cs.length = -1
    · rw [if_pos q]; exact h
    · rw [if_neg q]
      exact red_ok m _ (okN_del (N := (w, cs)) h (by show _ < cs.length; omega))
theorem sorts_v {w p : Nat} {cs : List (Nat × Nat)} {z : Int} (hp : p < cs.length) (h : IsL (fun x => badB (cry (skp p 0 cs) x) (w - 1)) (2 ^ w) z) : (if z = -1 then (1 : Int) else 0) = if ndl w cs p then 1 else 0 := by
  rw [skp0 hp] at h
  rw [IsL_any h]
  unfold ndl
  cases anyB (fun x => badB (cry (del cs p) x) (w - 1)) (2 ^ w) <;> rfl
theorem c_ln {a : Int} {N : NetT} {Q : Int → Hp → Prop} (ha : nA a) (hok : okN N) : ∀ (n : Nat) (z : Int) (h : Hp), z = (n : Int) - 1 → n ≤ N.2.length → CNt h a N → (∀ g : Hp, (∀ x y : Int, ¬ (x = 83 ∨ x = 84) → g x y = h x y) → Q (lastQ (ndl N.1 N.2) n) g) → E 4 mX10_lastNeedless 7 [(0, vr 68), (1, vr a), (2, vi z)] [] h (qi Q)
  | 0, z, h, ez, hn, A, hq => sX10_lastNeedless_7 ⟨fun _ => hq h (fun _ _ _ => rfl), fun c => absurd c (by omega)⟩
  | n + 1, z, h, ez, hn, A, hq => by
    have l40 := hok.2.2.1
    have ez' : z = n := by omega
    rw [ez']
    refine sX10_lastNeedless_7 ⟨fun c => absurd c (by omega), fun _ => c_sorts ha hok A (fun zz g hz fr => ?_)⟩
    rw [sorts_v (by omega) hz]
    by_cases q : ndl N.1 N.2 n = true
    · rw [q]
      refine ⟨fun c => absurd c (by decide), fun _ => ?_⟩
      have := hq g fr
      unfold lastQ at this
      rw [if_pos q] at this
      exact this
    · rw [if_neg q]
      refine ⟨fun _ => ⟨by omega, c_ln ha hok n _ g (by omega) (by omega) (CNt_c (fun x y p1 p2 => fr x y (by omega)) A) (fun g2 f2 => ?_)⟩, fun c => absurd rfl c⟩
      have := hq g2 (fun x y hx => by rw [f2 x y hx, fr x y hx])
      unfold lastQ at this
      rw [if_neg q] at this
      exact this
theorem c_last {h : Hp} {a : Int} {N : NetT} {Q : Int → Hp → Prop} (ha : nA a) (hok : okN N) (A : CNt h a N) (hq : ∀ g : Hp, (∀ x y : Int, ¬ (x = 83 ∨ x = 84) → g x y = h x y) → Q (lastQ (ndl N.1 N.2) N.2.length) g) : CI 4 mX10_lastNeedless [vr 68, vr a] h Q := by
  have e := A.2.1
  have l40 := hok.2.2.1
  exact sX10_lastNeedless ⟨⟨ha, by omega⟩, c_ln ha hok N.2.length _ h (by omega) (Nat.le_refl _) A hq⟩
theorem c_rd61 {k w : Nat} {zl : Int} {Q : Int → Hp → Prop} : ∀ (m : Nat) (cs : List (Nat × Nat)) (z3 z4 : Int) (h : Hp), z3 = lastQ (ndl w cs) cs.length → z4 + m = 40 → 0 ≤ z4 → okN (w, cs) → CNt h 16 (w, cs) → (∀ g : Hp, CNt g 16 (w, red w m cs) → (∀ x y : Int, ¬ ((16 ≤ x ∧ x ≤ 18) ∨ x = 83 ∨ x = 84) → g x y = h x y) → CI 6 mX10_replaceBySpare [vr 68, vi k] g (fun r4 h3 => (rj (zl - r4)) ∧ Q (zl - r4) h3)) → E 7 mX10_reduce 61 [(0, vr 68), (1, vi k), (2, vi zl), (3, vi z3), (4, vi z4)] [] h (qi Q)
  | 0, cs, z3, z4, h, e3, e4, p4, hok, A, hq => sX10_reduce_61 ⟨fun _ => hq h A (fun _ _ _ => rfl), fun c => absurd c (by omega)⟩
  | m + 1, cs, z3, z4, h, e3, e4, p4, hok, A, hq => by
    have lr := lastQ_r (q := ndl w cs) cs.length
    refine sX10_reduce_61 ⟨fun c => absurd c (by omega), fun _ => ⟨fun c => ?_, fun c => ?_⟩⟩
    · refine hq h ?_ (fun _ _ _ => rfl)
      unfold red
      rw [if_pos (by omega)]
      exact A
    · have hp : (lastQ (ndl w cs) cs.length).toNat < cs.length := by omega
      have ez : z3 = ((lastQ (ndl w cs) cs.length).toNat : Nat) := by omega
      rw [ez]
      have hok2 := okN_del (N := (w, cs)) hok hp
      refine c_drop (N := (w, cs)) (by omega) A hok.2.2.1 hp (fun g r1 r2 => ?_)
      refine c_last (by omega) hok2 r1 (fun g2 f2 => ⟨by omega, ?_⟩)
      refine c_rd61 m (del cs (lastQ (ndl w cs) cs.length).toNat) _ _ g2 rfl (by omega) (by omega) hok2 (CNt_c (fun x y p1 p2 => f2 x y (by omega)) r1) (fun g3 s1 s2 => hq g3 ?_ (fun x y hx => by rw [s2 x y hx, f2 x y (by omega), r2 x y (by omega)]))
      unfold red
      rw [if_neg (by omega)]
      exact s1
theorem m_rd41 {k w : Nat} {zl : Int} {Q : Int → Hp → Prop} (hk : k < 4) (hz : 0 ≤ zl ∧ zl ≤ 40) : ∀ (m : Nat) (cs : List (Nat × Nat)) (h : Hp), cs.length ≤ m → okN (w, cs) → MNt h k (w, cs) → (∀ g : Hp, MNt g k (w, red w m cs) → (∀ x y : Int, ¬ ((x = 105 ∧ y = k) ∨ ((x = 106 ∨ x = 107) ∧ 40 * (k : Int) ≤ y ∧ y < 40 * k + 40)) → g x y = h x y) → Q (zl - g 105 k) g) → E 2 mX11_reduce 41 [(0, vr 103), (1, vi k), (2, vi zl), (3, vi ((cs.length : Int) - 1))] [] h (qi Q)
  | 0, cs, h, hl, hok, M, hq => by
    have e : h 105 k = cs.length := M.2.1
    exact sX11_reduce_41 ⟨fun _ => ⟨by omega, hq h M (fun _ _ _ => rfl)⟩, fun c => absurd c (by omega)⟩
  | m + 1, cs, h, hl, hok, M, hq => by
    have e : h 105 k = cs.length := M.2.1
    have l40 : cs.length ≤ 40 := hok.2.2.1
    have inner : ∀ (n : Nat) (z : Int), z = (n : Int) - 1 → n ≤ cs.length → lastQ (ndl w cs) cs.length = lastQ (ndl w cs) n → E 2 mX11_reduce 41 [(0, vr 103), (1, vi k), (2, vi zl), (3, vi z)] [] h (qi Q) := by
      intro n
      induction n with
      | zero =>
        intro z ez _ el
        refine sX11_reduce_41 ⟨fun _ => ⟨by omega, hq h ?_ (fun _ _ _ => rfl)⟩, fun c => absurd c (by omega)⟩
        unfold red
        rw [if_pos (by rw [el]; rfl)]
        exact M
      | succ n ih =>
        intro z ez hn el
        have ez' : z = n := by omega
        rw [ez']
        refine sX11_reduce_41 ⟨fun c => absurd c (by omega), fun _ => m_isSorter (N := (w, cs)) hk hok M (fun zz hzz => ?_)⟩
        have sv : (if zz = -1 then (1 : Int) else 0) = if ndl w cs n then 1 else 0 := sorts_v (by omega) hzz
        rw [sv]
        by_cases q : ndl w cs n = true
        · rw [if_pos q]
          have el2 : lastQ (ndl w cs) cs.length = n := by
            rw [el]
            show (if ndl w cs n = true then (n : Int) else _) = n
            rw [if_pos q]
          refine ⟨fun c => absurd c (by decide), fun _ => ?_⟩
          refine m_takes (N := (w, cs)) (p := n) hk M l40 (by show n < cs.length; omega) (fun g r1 r2 => ?_)
          have r1' : MNt g k (w, del cs n) := r1
          have hok2 : okN (w, del cs n) := okN_del (N := (w, cs)) hok (by show n < cs.length; omega)
          have ld : (del cs n).length + 1 = cs.length := by
            unfold del
            rw [List.length_append, List.length_take, List.length_drop]
            omega
          have g5 : g 105 k = (del cs n).length := r1'.2.1
          rw [g5]
          refine ⟨by omega, m_rd41 hk hz m (del cs n) g (by omega) hok2 r1' (fun g2 s1 s2 => hq g2 ?_ (fun x y hx => by rw [s2 x y hx, r2 x y hx]))⟩
          unfold red
          rw [if_neg (by omega), el2]
          exact s1
        · rw [if_neg q]
          refine ⟨fun _ => ⟨by omega, ih _ (by omega) (by omega) ?_⟩, fun c => absurd rfl c⟩
          rw [el]
          show (if ndl w cs n = true then (n : Int) else _) = _
          rw [if_neg q]
    exact inner cs.length _ rfl (Nat.le_refl _) rfl
theorem op_reduce {h : Hp} {k : Int} (hR : Rl h) : OpI 7 mX10_reduce 2 mX11_reduce [vi k] h := by
  obtain ⟨nets, hist, H⟩ := Rl_RlN hR
  by_cases hk : 0 ≤ k ∧ k < 4
  · obtain ⟨j, hj, rfl⟩ := toN hk.1 hk.2
    obtain ⟨n1, n2, n3⟩ := H.1 j hj
    have w8 := n1.2.1
    have l40 := n1.2.2.1
    obtain ⟨z, hz⟩ := IsL_ex (fun x => badB (cry (skp (-1) 0 (nets j).2) x) ((nets j).1 - 1)) (2 ^ (nets j).1)
    by_cases hs : z = -1
    · have ok : okN ((nets j).1, red (nets j).1 40 (nets j).2) := red_ok 40 (nets j).2 n1
      have rl : (red (nets j).1 40 (nets j).2).length ≤ 40 := ok.2.2.1
      refine op_chg (k := j) (N' := ((nets j).1, red (nets j).1 40 (nets j).2)) (r := ((nets j).2.length : Int) - (red (nets j).1 40 (nets j).2).length) H hj ok ?_ (fun h1 ms => ?_)
      · refine sX10_reduce ⟨fun _ => ⟨by omega, c_sorts (N := nets j) (by omega) n1 n2 (fun z' g hz' fr => ?_)⟩, fun c => absurd c (by omega)⟩
        rw [← IsL_u hz hz', if_pos hs]
        have A1 : CNt g (4 * j) (nets j) := CNt_c (fun x y p1 p2 => fr x y (by omega)) n2
        refine ⟨fun _ => ⟨⟨by omega, by omega⟩, ?_⟩, fun c => absurd c (by decide)⟩
        refine c_takeOver (N := nets j) (by omega) (by omega) (by omega) l40 A1 (fun g2 q1 q2 => ?_)
        refine c_last (by omega) n1 q1 (fun g3 f3 => ?_)
        rw [A1.2.1]
        refine c_rd61 (w := (nets j).1) 40 (nets j).2 _ _ g3 rfl (by omega) (by omega) n1 (CNt_c (fun x y p1 p2 => f3 x y (by omega)) q1) (fun g4 s1 s2 => ?_)
        have fr2 : ∀ x y : Int, ¬ ((16 ≤ x ∧ x ≤ 18) ∨ x = 83 ∨ x = 84) → g4 x y = h x y := fun x y hx => by rw [s2 x y hx, f3 x y (by omega), q2 x y (by omega), fr x y (by omega)]
        refine c_replace hj n1 ok (CNt_c (fun x y r1 r2 => fr2 x y (by omega)) n2) s1 (HiC_f (fun x y hx => fr2 x y (by unfold aH at hx; omega)) H.2.1) (fun g5 c3 => ⟨?_, rfl, c3.1, c3.2.1, fun x y hx => ?_⟩)
        · show rj (((nets j).2.length : Int) - ((red (nets j).1 40 (nets j).2).length : Int))
          omega
        · rw [c3.2.2 x y hx, fr2 x y (by unfold kC at hx; omega)]
      · obtain ⟨m1, m2, m3, m4, e⟩ := ms
        refine sX11_reduce ⟨fun _ => m_isSorter (N := nets j) hj n1 (m1 j hj).2 (fun z' hz' => ?_), fun c => absurd c (by omega)⟩
        rw [← IsL_u hz hz', if_pos hs]
        refine ⟨fun _ => ?_, fun c => absurd c (by decide)⟩
        refine m_remembers (nets := nets) (hist := hist) (fun j hj => (m1 j hj).1) m4 (fun j hj => (m1 j hj).2) m2 m3 (fun g q1 q2 => ?_)
        have M : MNt g j (nets j) := MNt_c (fun x y p1 p2 => q2 x y (by omega)) (m1 j hj).2
        rw [M.2.1]
        refine ⟨⟨by omega, by omega⟩, ?_⟩
        refine m_rd41 (w := (nets j).1) hj (by omega) 40 (nets j).2 g l40 n1 M (fun g2 r1 r2 => ?_)
        exact ⟨by rw [r1.2.1], MP_bec (g := g) q1 (fun x y hx => by unfold kM at hx; rw [q2 x y (by omega)]) r1 (fun x y hx => r2 x y (by omega))⟩
    · refine op_keep (r := -5) H ?_ (fun h1 ms => ?_)
      · refine sX10_reduce ⟨fun _ => ⟨by omega, c_sorts (N := nets j) (by omega) n1 n2 (fun z' g hz' fr => ?_)⟩, fun c => absurd c (by omega)⟩
        rw [← IsL_u hz hz', if_neg hs]
        exact ⟨fun c => absurd rfl c, fun _ => ⟨rfl, fun x y hx => fr x y (by unfold kC0 at hx; omega)⟩⟩
      · obtain ⟨m1, m2, m3, m4, e⟩ := ms
        refine sX11_reduce ⟨fun _ => m_isSorter (N := nets j) hj n1 (m1 j hj).2 (fun z' hz' => ?_), fun c => absurd c (by omega)⟩
        rw [← IsL_u hz hz', if_neg hs]
        exact ⟨fun c => absurd rfl c, fun _ => ⟨rfl, fun _ _ _ => rfl⟩⟩
  · exact sX10_reduce ⟨fun c => absurd c (by omega), fun _ => sX11_reduce ⟨fun c => absurd c (by omega), fun _ => ⟨rfl, hR⟩⟩⟩
