theorem Rl_same {h h' : Hp} (e : ∀ a i, aN a i ∨ aT a i ∨ aK a i ∨ aR a i ∨ aS a i → h' a i = h a i) (H : Rl h) : Rl h' :=
  ⟨RNH_c (fun a i q => e a i (Or.inl q)) H.1, Txt_c (fun a i q => e a i (Or.inr (Or.inl q))) H.2.1, Key_c (fun a i q => e a i (Or.inr (Or.inr (Or.inl q)))) H.2.2.1, Tri_c (fun a i q => e a i (Or.inr (Or.inr (Or.inr (Or.inl q))))) H.2.2.2.1, Shl_c (fun a i q => e a i (Or.inr (Or.inr (Or.inr (Or.inr q))))) H.2.2.2.2⟩
theorem op_clearText {h : Hp} (hR : Rl h) : OpI 1 mX10_clearText 0 mX11_clearText [] h := by
  obtain ⟨h1, h2, h3, h4, h5⟩ := id hR
  obtain ⟨t1, t2, t3, t4⟩ := id h2
  refine sX10_clearText (sX11_clearText ⟨?_, RNH_c (fun a i q => ?_) h1, ⟨?_, ?_, ?_, fun i q1 q2 => ?_⟩, Key_c (fun a i q => ?_) h3, Tri_c (fun a i q => ?_) h4, Shl_c (fun a i q => ?_) h5⟩)
  · rw [up_no (by omega)]; exact t1.symm
  · unfold aN at q; rw [up_no (by omega), up_no (by omega)]
  · grind [up]
  · grind [up]
  · grind [up]
  · grind [up]
  · unfold aK at q; rw [up_no (by omega), up_no (by omega)]
  · unfold aR at q; rw [up_no (by omega), up_no (by omega)]
  · unfold aS at q; rw [up_no (by omega), up_no (by omega)]
theorem op_setKey {h : Hp} {k v : Int} (hR : Rl h) : OpI 0 mX10_setKey 1 mX11_setKey [vi k, vi v] h := by
  obtain ⟨h1, h2, h3, h4, h5⟩ := id hR
  have no1 : (k < 0 ∨ k > 7) → CI 1 mX11_setKey [vr 103, vi k, vi v] h (fun r2 h2 => -1 = r2 ∧ Rl h2) := fun c => sX11_setKey ⟨fun d => absurd d (by omega), fun _ => ⟨rfl, hR⟩⟩
  have no2 : (k ≥ 0 ∧ k ≤ 7) → (v < 0 ∨ v > 99) → CI 1 mX11_setKey [vr 103, vi k, vi v] h (fun r2 h2 => -2 = r2 ∧ Rl h2) := fun c c2 => sX11_setKey ⟨fun d => ⟨fun d2 => absurd d2 (by omega), fun _ => ⟨rfl, hR⟩⟩, fun d => absurd d (by omega)⟩
  refine sX10_setKey ⟨fun c1 => no1 (by omega), fun c1 => ⟨fun c2 => ⟨fun c3 => no2 (by omega) (by omega), fun c3 => ⟨fun c4 => ⟨by omega, ?_⟩, fun c4 => no2 (by omega) (by omega)⟩⟩, fun c2 => no1 (by omega)⟩⟩
  obtain ⟨k1, k2, k3⟩ := h3 k (by omega) (by omega)
  refine sX11_setKey ⟨fun d => ⟨fun d2 => ⟨by omega, ?_, RNH_c (fun a i q => ?_) h1, Txt_c (fun a i q => ?_) h2, fun i q1 q2 => ?_, Tri_c (fun a i q => ?_) h4, Shl_c (fun a i q => ?_) h5⟩, fun d2 => absurd d2 (by omega)⟩, fun d => absurd d (by omega)⟩
  · rw [up_no (by omega)]; exact k1.symm
  · unfold aN at q; rw [up_no (by omega), up_no (by omega)]
  · unfold aT at q; rw [up_no (by omega), up_no (by omega)]
  · have := h3 i q1 q2
    grind [up]
  · unfold aR at q; rw [up_no (by omega), up_no (by omega)]
  · unfold aS at q; rw [up_no (by omega), up_no (by omega)]
theorem op_result {h : Hp} {c : Int} (hR : Rl h) : OpI 1 mX10_result 1 mX11_result [vi c] h := by
  obtain ⟨h1, h2, h3, h4, h5⟩ := id hR
  rcases h4 with ⟨a1, a2⟩ | ⟨a1, a2, a3, a4, a5⟩
  · refine sX10_result ⟨fun c1 => absurd a1 c1, fun _ => sX11_result ⟨⟨fun c => absurd a2 c, fun c => absurd a2 c.1⟩, ?_, hR⟩⟩
    rw [if_neg (by omega)]
  · refine sX10_result ⟨fun c1 => ⟨fun c => by omega, sX11_result ⟨⟨fun c => by omega, fun c => by omega⟩, ?_, hR⟩⟩, fun c1 => absurd c1 (by omega)⟩
    by_cases hc : c < 0 ∨ c ≥ h 76 1
    · rw [if_pos hc, if_pos (show h 103 7 ≠ 0 by omega), if_pos (by omega)]
    · rw [if_neg hc, if_pos (show h 103 7 ≠ 0 by omega), if_neg (by omega)]
      exact (a5 c (by omega) (by omega)).1.symm
theorem op_origin {h : Hp} {c : Int} (hR : Rl h) : OpI 1 mX10_origin 1 mX11_origin [vi c] h := by
  obtain ⟨h1, h2, h3, h4, h5⟩ := id hR
  rcases h4 with ⟨a1, a2⟩ | ⟨a1, a2, a3, a4, a5⟩
  · refine sX10_origin ⟨fun c1 => absurd a1 c1, fun _ => sX11_origin ⟨⟨fun c => absurd a2 c, fun c => absurd a2 c.1⟩, ?_, hR⟩⟩
    rw [if_neg (by omega)]
  · refine sX10_origin ⟨fun c1 => ⟨fun c => by omega, sX11_origin ⟨⟨fun c => by omega, fun c => by omega⟩, ?_, hR⟩⟩, fun c1 => absurd c1 (by omega)⟩
    by_cases hc : c < 0 ∨ c ≥ h 76 1
    · rw [if_pos hc, if_pos (show h 103 7 ≠ 0 by omega), if_pos (by omega)]
    · rw [if_neg hc, if_pos (show h 103 7 ≠ 0 by omega), if_neg (by omega)]
      exact (a5 c (by omega) (by omega)).2.symm
/-! isStable -/
def Stb (f g : Int → Int) (n : Int) : Prop := ∀ v u : Int, 0 ≤ v → v < u → u < n → f v = f u → g v ≤ g u
theorem stb_in {h : Hp} {Q : Int → Hp → Prop} (hn : h 76 1 ≤ 8) (q0 : ¬ Stb (h 77) (h 78) (h 76 1) → Q 0 h) : ∀ (m : Nat) (v u : Int), 0 ≤ v → v < u → (m : Int) = h 76 1 - u → u ≤ h 76 1 → ((∀ u', u ≤ u' → u' < h 76 1 → h 77 v = h 77 u' → h 78 v ≤ h 78 u') → E 0 mX9_keptOrder 2 [(0, vr 76), (1, vi (v + 1))] [] h (qi Q)) → E 0 mX9_keptOrder 14 [(0, vr 76), (1, vi v), (2, vi u)] [] h (qi Q)
  | 0, v, u, hv, hu, hm, hle, k => sX9_keptOrder_14 ⟨fun _ => ⟨by omega, k (fun u' h1 h2 => by omega)⟩, fun c => absurd c (by omega)⟩
  | m + 1, v, u, hv, hu, hm, hle, k => by
    have ih := stb_in (Q := Q) hn q0 m v (u + 1) hv (by omega) (by omega) (by omega)
    refine sX9_keptOrder_14 ⟨fun c => absurd c (by omega), fun c => ⟨by omega, fun c2 => ⟨by omega, ih (fun hh => k (fun u' h1 h2 h3 => ?_))⟩, fun c2 => ⟨by omega, fun c3 => ⟨by omega, ih (fun hh => k (fun u' h1 h2 h3 => ?_))⟩, fun c3 => q0 (fun S => ?_)⟩⟩⟩
    · by_cases e : u' = u
      · subst e; exact absurd h3 c2
      · exact hh u' (by omega) h2 h3
    · by_cases e : u' = u
      · subst e; exact c3
      · exact hh u' (by omega) h2 h3
    · have := S v u hv hu c c2
      omega
theorem stb_out {h : Hp} {Q : Int → Hp → Prop} (h0 : 0 ≤ h 76 1) (hn : h 76 1 ≤ 8) (q0 : ¬ Stb (h 77) (h 78) (h 76 1) → Q 0 h) (q1 : Stb (h 77) (h 78) (h 76 1) → Q 1 h) : ∀ (m : Nat) (v : Int), 0 ≤ v → (m : Int) = h 76 1 - v → v ≤ h 76 1 → (∀ v' u, 0 ≤ v' → v' < v → v' < u → u < h 76 1 → h 77 v' = h 77 u → h 78 v' ≤ h 78 u) → E 0 mX9_keptOrder 2 [(0, vr 76), (1, vi v)] [] h (qi Q)
  | 0, v, hv, hm, hle, inv => sX9_keptOrder_2 ⟨fun _ => q1 (fun v' u h1 h2 h3 h4 => inv v' u h1 (by omega) h2 h3 h4), fun c => absurd c (by omega)⟩
  | m + 1, v, hv, hm, hle, inv => by
    refine sX9_keptOrder_2 ⟨fun c => absurd c (by omega), fun c => ⟨by omega, stb_in hn q0 (h 76 1 - (v + 1)).toNat v (v + 1) hv (by omega) (by omega) (by omega) (fun hh => stb_out h0 hn q0 q1 m (v + 1) (by omega) (by omega) (by omega) (fun v' u h1 h2 h3 h4 h5 => ?_))⟩⟩
    by_cases e : v' = v
    · subst e; exact hh u (by omega) h4 h5
    · exact inv v' u h1 (by omega) h3 h4 h5
theorem stm_in {h : Hp} {Q : Int → Hp → Prop} (hn : h 103 7 ≤ 8) (q0 : ¬ Stb (h 109) (h 110) (h 103 7) → Q 0 h) : ∀ (m : Nat) (w u : Int), 0 ≤ u → w < h 103 7 → (m : Int) = w - u → u ≤ w → ((∀ u', u ≤ u' → u' < w → h 109 u' = h 109 w → h 110 u' ≤ h 110 w) → E 0 mX11_isStable 12 [(0, vr 103), (1, vi (w + 1))] [] h (qi Q)) → E 0 mX11_isStable 22 [(0, vr 103), (1, vi w), (2, vi u)] [] h (qi Q)
  | 0, w, u, hv, hu, hm, hle, k => sX11_isStable_22 ⟨fun _ => ⟨by omega, k (fun u' h1 h2 => by omega)⟩, fun c => absurd c (by omega)⟩
  | m + 1, w, u, hv, hu, hm, hle, k => by
    have ih := stm_in (Q := Q) hn q0 m w (u + 1) (by omega) hu (by omega) (by omega)
    refine sX11_isStable_22 ⟨fun c => absurd c (by omega), fun c => ⟨by omega, fun c2 => ⟨by omega, ih (fun hh => k (fun u' h1 h2 h3 => ?_))⟩, fun c2 => ⟨by omega, fun c3 => ⟨by omega, ih (fun hh => k (fun u' h1 h2 h3 => ?_))⟩, fun c3 => q0 (fun S => ?_)⟩⟩⟩
    · by_cases e : u' = u
      · subst e; exact absurd h3 c2
      · exact hh u' (by omega) h2 h3
    · by_cases e : u' = u
      · subst e; exact c3
      · exact hh u' (by omega) h2 h3
    · have := S u w hv c hu c2
      omega
theorem stm_out {h : Hp} {Q : Int → Hp → Prop} (hn : h 103 7 ≤ 8) (q0 : ¬ Stb (h 109) (h 110) (h 103 7) → Q 0 h) (q1 : Stb (h 109) (h 110) (h 103 7) → Q 1 h) : ∀ (m : Nat) (w : Int), 0 ≤ w → (m : Int) = h 103 7 - w → w ≤ h 103 7 → (∀ v' u, 0 ≤ v' → v' < u → u < w → h 109 v' = h 109 u → h 110 v' ≤ h 110 u) → E 0 mX11_isStable 12 [(0, vr 103), (1, vi w)] [] h (qi Q)
  | 0, w, hv, hm, hle, inv => sX11_isStable_12 ⟨fun _ => q1 (fun v' u h1 h2 h3 h4 => inv v' u h1 h2 (by omega) h4), fun c => absurd c (by omega)⟩
  | m + 1, w, hv, hm, hle, inv => by
    refine sX11_isStable_12 ⟨fun c => absurd c (by omega), fun c => stm_in hn q0 w.toNat w 0 (by omega) c (by omega) (by omega) (fun hh => stm_out hn q0 q1 m (w + 1) (by omega) (by omega) (by omega) (fun v' u h1 h2 h3 h5 => ?_))⟩
    by_cases e : u = w
    · subst e; exact hh v' h1 h2 h5
    · exact inv v' u h1 h2 (by omega) h5
theorem op_isStable {h : Hp} (hR : Rl h) : OpI 1 mX10_isStable 0 mX11_isStable [] h := by
  obtain ⟨h1, h2, h3, h4, h5⟩ := id hR
  rcases h4 with ⟨a1, a2⟩ | ⟨a1, a2, a3, a4, a5⟩
  · exact sX10_isStable ⟨fun _ => sX11_isStable ⟨fun c => absurd a2 c, fun _ => ⟨rfl, hR⟩⟩, fun c => absurd a1 c⟩
  · have key : Stb (h 109) (h 110) (h 103 7) ↔ Stb (h 77) (h 78) (h 76 1) := by
      rw [a2]
      constructor
      · intro S v u q1 q2 q3 q4
        have e1 := a5 v q1 (by omega)
        have e2 := a5 u (by omega) q3
        have := S v u q1 q2 q3 (by rw [e1.1, e2.1]; exact q4)
        rw [e1.2, e2.2] at this
        exact this
      · intro S v u q1 q2 q3 q4
        have e1 := a5 v q1 (by omega)
        have e2 := a5 u (by omega) q3
        rw [e1.1, e2.1] at q4
        rw [e1.2, e2.2]
        exact S v u q1 q2 q3 q4
    refine sX10_isStable ⟨fun c => absurd c (by omega), fun _ => sX9_keptOrder (stb_out (by omega) a4 (fun q => ?_) (fun q => ?_) (h 76 1).toNat 0 (by omega) (by omega) (by omega) (fun v' u q1 q2 => by omega))⟩
    · refine sX11_isStable ⟨fun _ => stm_out (by omega) (fun _ => ⟨rfl, hR⟩) (fun q2 => absurd (key.mp q2) q) (h 103 7).toNat 0 (by omega) (by omega) (by omega) (fun v' u q1 q2 q3 => by omega), fun c => absurd c (by omega)⟩
    · refine sX11_isStable ⟨fun _ => stm_out (by omega) (fun q2 => absurd (key.mpr q) q2) (fun _ => ⟨rfl, hR⟩) (h 103 7).toNat 0 (by omega) (by omega) (by omega) (fun v' u q1 q2 q3 => by omega), fun c => absurd c (by omega)⟩
/-! castBlock -/
theorem ekm {h : Hp} {Q : Int → Hp → Prop} {l n : Int} (hq : Q 0 h) : E 0 mX6_isOfKind 7 [(1, vi l), (2, vi (-1)), (3, vi n)] [] h (qi Q) := sX6_isOfKind_7 ⟨fun _ => hq, fun _ => ⟨fun _ => hq, fun c => absurd c (by omega)⟩⟩
theorem ek0 {h : Hp} {Q : Int → Hp → Prop} {l n : Int} (hn : 0 ≤ n ∧ n + 1 ≤ 6) (hq : Q (if l = 0 then 1 else 0) h) : E 0 mX6_isOfKind 7 [(1, vi l), (2, vi 0), (3, vi n)] [] h (qi Q) := by
  refine sX6_isOfKind_7 ⟨fun c => absurd c (by omega), fun _ => ⟨fun c => absurd c (by omega), fun _ => ⟨fun c => absurd c (by omega), fun _ => ⟨fun c => ⟨⟨by omega, by omega⟩, ?_⟩, fun c => ?_⟩⟩⟩⟩
  · show E 0 mX6_isOfKind 7 [(1, vi l), (2, vi (-1)), (3, vi (n + 1))] [] h (qi Q)
    rw [if_neg (by omega)] at hq
    exact ekm hq
  · rwa [if_pos (by omega)] at hq
theorem ek1 {h : Hp} {Q : Int → Hp → Prop} {l n : Int} (hn : 0 ≤ n ∧ n + 2 ≤ 6) (hq : Q (if l = 1 ∨ l = 0 then 1 else 0) h) : E 0 mX6_isOfKind 7 [(1, vi l), (2, vi 1), (3, vi n)] [] h (qi Q) := by
  refine sX6_isOfKind_7 ⟨fun c => absurd c (by omega), fun _ => ⟨fun c => absurd c (by omega), fun _ => ⟨fun c => absurd c (by omega), fun _ => ⟨fun c => ⟨⟨by omega, by omega⟩, ?_⟩, fun c => ?_⟩⟩⟩⟩
  · show E 0 mX6_isOfKind 7 [(1, vi l), (2, vi 0), (3, vi (n + 1))] [] h (qi Q)
    have e : (if l = 1 ∨ l = 0 then (1 : Int) else 0) = (if l = 0 then 1 else 0) := ite_if (fun q => by omega) (fun q => by omega)
    rw [e] at hq
    exact ek0 (by omega) hq
  · rwa [if_pos (by omega)] at hq
theorem ek2 {h : Hp} {Q : Int → Hp → Prop} {l n : Int} (hn : 0 ≤ n ∧ n + 3 ≤ 6) (hq : Q (if l = 2 ∨ l = 1 ∨ l = 0 then 1 else 0) h) : E 0 mX6_isOfKind 7 [(1, vi l), (2, vi 2), (3, vi n)] [] h (qi Q) := by
  refine sX6_isOfKind_7 ⟨fun c => absurd c (by omega), fun _ => ⟨fun c => absurd c (by omega), fun _ => ⟨fun c => absurd c (by omega), fun _ => ⟨fun c => ⟨⟨by omega, by omega⟩, ?_⟩, fun c => ?_⟩⟩⟩⟩
  · show E 0 mX6_isOfKind 7 [(1, vi l), (2, vi 1), (3, vi (n + 1))] [] h (qi Q)
    have e : (if l = 2 ∨ l = 1 ∨ l = 0 then (1 : Int) else 0) = (if l = 1 ∨ l = 0 then 1 else 0) := ite_if (fun q => by omega) (fun q => by omega)
    rw [e] at hq
    exact ek1 (by omega) hq
  · rwa [if_pos (by omega)] at hq
theorem ek3 {h : Hp} {Q : Int → Hp → Prop} {l n : Int} (hn : 0 ≤ n ∧ n + 2 ≤ 6) (hq : Q (if l = 3 ∨ l = 0 then 1 else 0) h) : E 0 mX6_isOfKind 7 [(1, vi l), (2, vi 3), (3, vi n)] [] h (qi Q) := by
  refine sX6_isOfKind_7 ⟨fun c => absurd c (by omega), fun _ => ⟨fun c => absurd c (by omega), fun _ => ⟨fun c => absurd c (by omega), fun _ => ⟨fun c => ⟨⟨by omega, by omega⟩, ?_⟩, fun c => ?_⟩⟩⟩⟩
  · show E 0 mX6_isOfKind 7 [(1, vi l), (2, vi 0), (3, vi (n + 1))] [] h (qi Q)
    have e : (if l = 3 ∨ l = 0 then (1 : Int) else 0) = (if l = 0 then 1 else 0) := ite_if (fun q => by omega) (fun q => by omega)
    rw [e] at hq
    exact ek0 (by omega) hq
  · rwa [if_pos (by omega)] at hq
theorem ek4 {h : Hp} {Q : Int → Hp → Prop} {l n : Int} (hn : 0 ≤ n ∧ n + 3 ≤ 6) (hq : Q (if l = 4 ∨ l = 3 ∨ l = 0 then 1 else 0) h) : E 0 mX6_isOfKind 7 [(1, vi l), (2, vi 4), (3, vi n)] [] h (qi Q) := by
  refine sX6_isOfKind_7 ⟨fun c => absurd c (by omega), fun _ => ⟨fun c => absurd c (by omega), fun _ => ⟨fun c => absurd c (by omega), fun _ => ⟨fun c => ⟨⟨by omega, by omega⟩, ?_⟩, fun c => ?_⟩⟩⟩⟩
  · show E 0 mX6_isOfKind 7 [(1, vi l), (2, vi 3), (3, vi (n + 1))] [] h (qi Q)
    have e : (if l = 4 ∨ l = 3 ∨ l = 0 then (1 : Int) else 0) = (if l = 3 ∨ l = 0 then 1 else 0) := ite_if (fun q => by omega) (fun q => by omega)
    rw [e] at hq
    exact ek3 (by omega) hq
  · rwa [if_pos (by omega)] at hq
theorem ek5 {h : Hp} {Q : Int → Hp → Prop} {l n : Int} (hn : 0 ≤ n ∧ n + 4 ≤ 6) (hq : Q (if l = 5 ∨ l = 4 ∨ l = 3 ∨ l = 0 then 1 else 0) h) : E 0 mX6_isOfKind 7 [(1, vi l), (2, vi 5), (3, vi n)] [] h (qi Q) := by
  refine sX6_isOfKind_7 ⟨fun c => absurd c (by omega), fun _ => ⟨fun c => absurd c (by omega), fun _ => ⟨fun c => absurd c (by omega), fun _ => ⟨fun c => ⟨⟨by omega, by omega⟩, ?_⟩, fun c => ?_⟩⟩⟩⟩
  · show E 0 mX6_isOfKind 7 [(1, vi l), (2, vi 4), (3, vi (n + 1))] [] h (qi Q)
    have e : (if l = 5 ∨ l = 4 ∨ l = 3 ∨ l = 0 then (1 : Int) else 0) = (if l = 4 ∨ l = 3 ∨ l = 0 then 1 else 0) := ite_if (fun q => by omega) (fun q => by omega)
    rw [e] at hq
    exact ek4 (by omega) hq
  · rwa [if_pos (by omega)] at hq
theorem mkm {h : Hp} {Q : Int → Hp → Prop} {s l : Int} (hl : 0 ≤ l) (hq : Q (-8) h) : E 2 mX11_castBlock 40 [(0, vr 103), (1, vi s), (2, vi l), (3, vi (-1))] [] h (qi Q) := sX11_castBlock_40 ⟨fun _ => ⟨fun c => absurd c (by omega), by rwa [if_pos (by omega)]⟩, fun c => absurd c (by omega)⟩
theorem mk0 {h : Hp} {Q : Int → Hp → Prop} {s l : Int} (hs : ix s 3) (hl : 0 ≤ l) (hq : Q (if l = 0 then h 113 s else -8) h) : E 2 mX11_castBlock 40 [(0, vr 103), (1, vi s), (2, vi l), (3, vi 0)] [] h (qi Q) := by
  refine sX11_castBlock_40 ⟨fun c => absurd c (by omega), fun _ => ⟨fun c => ⟨fun _ => hs, ?_⟩, fun c x8 e8 => ?_⟩⟩
  · rw [if_neg (by omega)]; rwa [if_pos (by omega)] at hq
  · have e9 : x8 = (-1) := by rw [e8]; rfl
    rw [e9]
    rw [if_neg (by omega)] at hq
    exact mkm hl hq
theorem mk1 {h : Hp} {Q : Int → Hp → Prop} {s l : Int} (hs : ix s 3) (hl : 0 ≤ l) (hq : Q (if l = 1 ∨ l = 0 then h 113 s else -8) h) : E 2 mX11_castBlock 40 [(0, vr 103), (1, vi s), (2, vi l), (3, vi 1)] [] h (qi Q) := by
  refine sX11_castBlock_40 ⟨fun c => absurd c (by omega), fun _ => ⟨fun c => ⟨fun _ => hs, ?_⟩, fun c x8 e8 => ?_⟩⟩
  · rw [if_neg (by omega)]; rwa [if_pos (by omega)] at hq
  · have e9 : x8 = 0 := by rw [e8]; rfl
    rw [e9]
    refine mk0 hs hl ?_
    by_cases hc : l = 0
    · rw [if_pos hc]; rwa [if_pos (by omega)] at hq
    · rw [if_neg hc]; rwa [if_neg (by omega)] at hq
theorem mk2 {h : Hp} {Q : Int → Hp → Prop} {s l : Int} (hs : ix s 3) (hl : 0 ≤ l) (hq : Q (if l = 2 ∨ l = 1 ∨ l = 0 then h 113 s else -8) h) : E 2 mX11_castBlock 40 [(0, vr 103), (1, vi s), (2, vi l), (3, vi 2)] [] h (qi Q) := by
  refine sX11_castBlock_40 ⟨fun c => absurd c (by omega), fun _ => ⟨fun c => ⟨fun _ => hs, ?_⟩, fun c x8 e8 => ?_⟩⟩
  · rw [if_neg (by omega)]; rwa [if_pos (by omega)] at hq
  · have e9 : x8 = 1 := by rw [e8]; rfl
    rw [e9]
    refine mk1 hs hl ?_
    by_cases hc : l = 1 ∨ l = 0
    · rw [if_pos hc]; rwa [if_pos (by omega)] at hq
    · rw [if_neg hc]; rwa [if_neg (by omega)] at hq
theorem mk3 {h : Hp} {Q : Int → Hp → Prop} {s l : Int} (hs : ix s 3) (hl : 0 ≤ l) (hq : Q (if l = 3 ∨ l = 0 then h 113 s else -8) h) : E 2 mX11_castBlock 40 [(0, vr 103), (1, vi s), (2, vi l), (3, vi 3)] [] h (qi Q) := by
  refine sX11_castBlock_40 ⟨fun c => absurd c (by omega), fun _ => ⟨fun c => ⟨fun _ => hs, ?_⟩, fun c x8 e8 => ?_⟩⟩
  · rw [if_neg (by omega)]; rwa [if_pos (by omega)] at hq
  · have e9 : x8 = 0 := by rw [e8]; rfl
    rw [e9]
    refine mk0 hs hl ?_
    by_cases hc : l = 0
    · rw [if_pos hc]; rwa [if_pos (by omega)] at hq
    · rw [if_neg hc]; rwa [if_neg (by omega)] at hq
theorem mk4 {h : Hp} {Q : Int → Hp → Prop} {s l : Int} (hs : ix s 3) (hl : 0 ≤ l) (hq : Q (if l = 4 ∨ l = 3 ∨ l = 0 then h 113 s else -8) h) : E 2 mX11_castBlock 40 [(0, vr 103), (1, vi s), (2, vi l), (3, vi 4)] [] h (qi Q) := by
  refine sX11_castBlock_40 ⟨fun c => absurd c (by omega), fun _ => ⟨fun c => ⟨fun _ => hs, ?_⟩, fun c x8 e8 => ?_⟩⟩
  · rw [if_neg (by omega)]; rwa [if_pos (by omega)] at hq
  · have e9 : x8 = 3 := by rw [e8]; rfl
    rw [e9]
    refine mk3 hs hl ?_
    by_cases hc : l = 3 ∨ l = 0
    · rw [if_pos hc]; rwa [if_pos (by omega)] at hq
    · rw [if_neg hc]; rwa [if_neg (by omega)] at hq
theorem mk5 {h : Hp} {Q : Int → Hp → Prop} {s l : Int} (hs : ix s 3) (hl : 0 ≤ l) (hq : Q (if l = 5 ∨ l = 4 ∨ l = 3 ∨ l = 0 then h 113 s else -8) h) : E 2 mX11_castBlock 40 [(0, vr 103), (1, vi s), (2, vi l), (3, vi 5)] [] h (qi Q) := by
  refine sX11_castBlock_40 ⟨fun c => absurd c (by omega), fun _ => ⟨fun c => ⟨fun _ => hs, ?_⟩, fun c x8 e8 => ?_⟩⟩
  · rw [if_neg (by omega)]; rwa [if_pos (by omega)] at hq
  · have e9 : x8 = 4 := by rw [e8]; rfl
    rw [e9]
    refine mk4 hs hl ?_
    by_cases hc : l = 4 ∨ l = 3 ∨ l = 0
    · rw [if_pos hc]; rwa [if_pos (by omega)] at hq
    · rw [if_neg hc]; rwa [if_neg (by omega)] at hq
theorem op_castBlock {h : Hp} {s k : Int} (hR : Rl h) : OpI 1 mX10_castBlock 2 mX11_castBlock [vi s, vi k] h := by
  obtain ⟨h1, h2, h3, h4, h5⟩ := id hR
  by_cases hs : 0 ≤ s ∧ s < 3
  · obtain ⟨b1, b2, b3, b4⟩ := h5 s hs.1 hs.2
    by_cases hk : 0 ≤ k ∧ k < 6
    · by_cases he : h (80 + s) 0 = -1
      · refine sX10_castBlock ⟨fun _ => ⟨fun c => absurd c (by omega), fun _ => ⟨fun _ => ⟨by omega, fun c => absurd he c, fun _ => ?_⟩, fun c => absurd c (by omega)⟩⟩, fun c => absurd c (by omega)⟩
        exact sX11_castBlock ⟨fun _ => ⟨fun _ => ⟨by omega, fun c => absurd c (by omega), fun _ => ⟨rfl, hR⟩⟩, fun c => absurd c (by omega)⟩, fun c => absurd c (by omega)⟩
      · refine sX10_castBlock ⟨fun _ => ⟨fun c => absurd c (by omega), fun _ => ⟨fun _ => ⟨by omega, fun _ => ⟨by omega, sX6_isOfKind ⟨by omega, ?_⟩⟩, fun c => absurd c he⟩, fun c => absurd c (by omega)⟩⟩, fun c => absurd c (by omega)⟩
        have hkd : h (80 + s) 0 = 0 ∨ h (80 + s) 0 = 1 ∨ h (80 + s) 0 = 2 ∨ h (80 + s) 0 = 3 ∨ h (80 + s) 0 = 4 ∨ h (80 + s) 0 = 5 := by unfold okB at b4; omega
        have fin : ∀ (P : Prop) [Decidable P] (v : Int), h (80 + s) 0 = v → 0 ≤ v → (E 2 mX11_castBlock 40 [(0, vr 103), (1, vi s), (2, vi k), (3, vi v)] [] h (qi (fun r2 h2 => (if P then h 113 s else -8) = r2 ∧ Rl h2))) → (((if P then (1 : Int) else 0) ≠ 0 → ix s 3) ∧ ((if P then (1 : Int) else 0) ≠ 0 → sA (80 + s))) ∧ CI 2 mX11_castBlock [vr 103, vi s, vi k] h (fun r2 h2 => (if (if P then (1 : Int) else 0) = 0 then -8 else h (80 + s) 0) = r2 ∧ Rl h2) := by
          intro P _ v e1 e2 hE
          refine ⟨⟨fun _ => by omega, fun _ => by omega⟩, sX11_castBlock ⟨fun _ => ⟨fun _ => ⟨by omega, fun _ => ⟨by omega, ?_⟩, fun c => absurd c (by omega)⟩, fun c => absurd c (by omega)⟩, fun c => absurd c (by omega)⟩⟩
          have e3 : (if (if P then (1 : Int) else 0) = 0 then -8 else h (80 + s) 0) = if P then h 113 s else -8 := by
            by_cases hp : P
            · simp [hp, b1]
            · simp [hp]
          rw [e3, show h 113 s = v by omega]
          rw [show h 113 s = v by omega] at hE
          exact hE
        rcases hkd with e | e | e | e | e | e
        · rw [e]; exact ek0 (by omega) (fin _ 0 e (by omega) (mk0 (by omega) (by omega) ⟨rfl, hR⟩))
        · rw [e]; exact ek1 (by omega) (fin _ 1 e (by omega) (mk1 (by omega) (by omega) ⟨rfl, hR⟩))
        · rw [e]; exact ek2 (by omega) (fin _ 2 e (by omega) (mk2 (by omega) (by omega) ⟨rfl, hR⟩))
        · rw [e]; exact ek3 (by omega) (fin _ 3 e (by omega) (mk3 (by omega) (by omega) ⟨rfl, hR⟩))
        · rw [e]; exact ek4 (by omega) (fin _ 4 e (by omega) (mk4 (by omega) (by omega) ⟨rfl, hR⟩))
        · rw [e]; exact ek5 (by omega) (fin _ 5 e (by omega) (mk5 (by omega) (by omega) ⟨rfl, hR⟩))
    · have nb : CI 2 mX11_castBlock [vr 103, vi s, vi k] h (fun r2 h2 => -2 = r2 ∧ Rl h2) := sX11_castBlock ⟨fun _ => ⟨fun c => absurd c (by omega), fun _ => ⟨rfl, hR⟩⟩, fun c => absurd c (by omega)⟩
      exact sX10_castBlock ⟨fun _ => ⟨fun _ => nb, fun c => ⟨fun c2 => absurd c2 (by omega), fun _ => nb⟩⟩, fun c => absurd c (by omega)⟩
  · exact sX10_castBlock ⟨fun c => absurd c (by omega), fun _ => sX11_castBlock ⟨fun c => absurd c (by omega), fun _ => ⟨rfl, hR⟩⟩⟩
/-! place, discard -/
theorem op_discard {h : Hp} {s : Int} (hR : Rl h) : OpI 1 mX10_discard 2 mX11_discard [vi s] h := by
  obtain ⟨h1, h2, h3, h4, h5⟩ := id hR
  by_cases hs : 0 ≤ s ∧ s < 3
  · obtain ⟨b1, b2, b3, b4⟩ := h5 s hs.1 hs.2
    refine sX10_discard ⟨fun _ => ⟨by omega, fun he => ⟨by omega, ?_⟩, fun he => ?_⟩, fun c => absurd c (by omega)⟩
    · have e1 : up h (80 + s) 0 (-1) 113 s = h 113 s := up_no (by omega)
      refine sX11_discard ⟨fun _ => ⟨by omega, fun _ => ⟨by omega, by rw [e1]; exact b1.symm, RNH_c (fun a i q => ?_) h1, Txt_c (fun a i q => ?_) h2, Key_c (fun a i q => ?_) h3, Tri_c (fun a i q => ?_) h4, fun t q1 q2 => ?_⟩, fun c => absurd c (by rw [e1, b1]; unfold okB at b4; omega)⟩, fun c => absurd c (by omega)⟩
      · unfold aN at q; rw [up_no (by omega), up_no (by omega)]
      · unfold aT at q; rw [up_no (by omega), up_no (by omega)]
      · unfold aK at q; rw [up_no (by omega), up_no (by omega)]
      · unfold aR at q; rw [up_no (by omega), up_no (by omega)]
      · have b := h5 t q1 q2
        unfold okB at b ⊢
        by_cases e : t = s
        · subst e; grind [up]
        · repeat rw [up_no (by omega)]
          exact b
    · exact sX11_discard ⟨fun _ => ⟨by omega, fun c => absurd c (by omega), fun _ => ⟨rfl, hR⟩⟩, fun c => absurd c (by omega)⟩
  · exact sX10_discard ⟨fun c => absurd c (by omega), fun _ => sX11_discard ⟨fun c => absurd c (by omega), fun _ => ⟨rfl, hR⟩⟩⟩
def al (k a b : Int) : Prop := k = 0 ∨ ((k = 1 ∨ k = 2) ∧ 0 ≤ a ∧ a < 8 ∧ 0 ≤ b ∧ b < 8 ∧ a ≠ b) ∨ (k = 3 ∧ 0 ≤ a ∧ a ≤ 1) ∨ ((k = 4 ∨ k = 5) ∧ 0 ≤ a ∧ a ≤ 1 ∧ 0 ≤ b ∧ b ≤ 9)
theorem c_allows {h : Hp} {k a b : Int} {Q : Int → Hp → Prop} (q1 : al k a b → Q 1 h) (q0 : ¬ al k a b → Q 0 h) : CI 0 mX6_allows [vi k, vi a, vi b] h Q := by
  have two : ∀ (P : Prop) [Decidable P], (P → al k a b) → (al k a b → P) → Q (if P then (1 : Int) else 0) h := by
    intro P _ p1 p2
    by_cases hp : P
    · rw [if_pos hp]; exact q1 (p1 hp)
    · rw [if_neg hp]; exact q0 (fun z => hp (p2 z))
  refine sX6_allows ⟨fun e => q1 (Or.inl e), fun e => two _ (fun q => ?_) (fun q => ?_), fun e => two _ (fun q => ?_) (fun q => ?_), fun e => two _ (fun q => ?_) (fun q => ?_), fun e => two _ (fun q => ?_) (fun q => ?_), fun e => two _ (fun q => ?_) (fun q => ?_), fun e => q0 (fun q => ?_)⟩
  all_goals (unfold al at *; omega)
def nb (f : Int → Int) : Int := (if f 0 = -1 then 0 else 1) + (if f 1 = -1 then 0 else 1) + (if f 2 = -1 then 0 else 1)
theorem c_count {h : Hp} {Q : Int → Hp → Prop} (hq : Q (nb (fun s => h (80 + s) 0)) h) : CI 1 mX10_countBlocks [vr 68] h Q := by
  have st : ∀ (c s : Int) (v : Int), 0 ≤ c → c ≤ 3 → 0 ≤ s → s < 3 → (v = if h (80 + s) 0 = -1 then c else c + 1) → E 1 mX10_countBlocks 4 [(0, vr 68), (1, vi v), (2, vi (s + 1))] [] h (qi Q) → E 1 mX10_countBlocks 4 [(0, vr 68), (1, vi c), (2, vi s)] [] h (qi Q) := by
    intro c s v h1 h2 h3 h4 h5 k
    refine sX10_countBlocks_4 ⟨fun z => absurd z (by omega), fun _ => ⟨by omega, fun z => ⟨by omega, ?_⟩, fun z => ⟨by omega, ?_⟩⟩⟩
    · rw [if_pos z] at h5; rwa [h5] at k
    · rw [if_neg z] at h5; rwa [h5] at k
  refine sX10_countBlocks (st 0 0 _ (by omega) (by omega) (by omega) (by omega) rfl (st _ (0 + 1) _ (by split <;> omega) (by split <;> omega) (by omega) (by omega) rfl (st _ (0 + 1 + 1) _ (by split <;> split <;> omega) (by split <;> split <;> omega) (by omega) (by omega) rfl ?_)))
  refine sX10_countBlocks_4 ⟨fun _ => ?_, fun z => absurd z (by omega)⟩
  have e : nb (fun s => h (80 + s) 0) = (if h (80 + (0 + 1 + 1)) 0 = -1 then (if h (80 + (0 + 1)) 0 = -1 then (if h (80 + 0) 0 = -1 then (0 : Int) else 0 + 1) else (if h (80 + 0) 0 = -1 then (0 : Int) else 0 + 1) + 1) else (if h (80 + (0 + 1)) 0 = -1 then (if h (80 + 0) 0 = -1 then (0 : Int) else 0 + 1) else (if h (80 + 0) 0 = -1 then (0 : Int) else 0 + 1) + 1) + 1) := by
    unfold nb
    show (if h (80 + 0) 0 = -1 then (0 : Int) else 1) + (if h (80 + 1) 0 = -1 then 0 else 1) + (if h (80 + 2) 0 = -1 then 0 else 1) = _
    rw [show (80 : Int) + (0 + 1 + 1) = 80 + 2 by omega, show (80 : Int) + (0 + 1) = 80 + 1 by omega]
    split <;> split <;> split <;> omega
  rw [← e]
  exact hq
theorem m_count {h : Hp} {Q : Int → Hp → Prop} (hk : ∀ s, 0 ≤ s → s < 3 → -1 ≤ h 113 s) (hq : Q (nb (h 113)) h) : E 2 mX11_place 131 [(0, vr 103), (6, vi 0), (7, vi 0)] [] h (qi Q) := by
  have st : ∀ (c s : Int) (v : Int), 0 ≤ c → c ≤ 3 → 0 ≤ s → s < 3 → (v = c + (if h 113 s = -1 then 0 else 1)) → E 2 mX11_place 131 [(0, vr 103), (6, vi v), (7, vi (s + 1))] [] h (qi Q) → E 2 mX11_place 131 [(0, vr 103), (6, vi c), (7, vi s)] [] h (qi Q) := by
    intro c s v h1 h2 h3 h4 h5 k
    have := hk s h3 h4
    refine sX11_place_131 ⟨fun z => absurd z (by omega), fun _ => ⟨by omega, by split <;> omega, fun x5 e5 => ⟨by omega, ?_⟩⟩⟩
    have : x5 = v := by rw [e5, h5]; congr 1; split <;> split <;> omega
    rwa [this]
  refine st 0 0 _ (by omega) (by omega) (by omega) (by omega) rfl (st _ (0 + 1) _ (by split <;> omega) (by split <;> omega) (by omega) (by omega) rfl (st _ (0 + 1 + 1) _ (by split <;> split <;> omega) (by split <;> split <;> omega) (by omega) (by omega) rfl ?_))
  refine sX11_place_131 ⟨fun _ => ?_, fun z => absurd z (by omega)⟩
  have e : nb (h 113) = 0 + (if h 113 0 = -1 then 0 else 1) + (if h 113 (0 + 1) = -1 then 0 else 1) + (if h 113 (0 + 1 + 1) = -1 then 0 else 1) := by
    unfold nb
    rw [show (0 : Int) + 1 + 1 = 2 by omega, show (0 : Int) + 1 = 1 by omega]
    omega
  rw [← e]
  exact hq
theorem jand01 (P R : Prop) [Decidable P] [Decidable R] : j_iand (if P then (1 : Int) else 0) (if R then (1 : Int) else 0) = if P ∧ R then 1 else 0 := by
  by_cases p : P <;> by_cases r : R <;> simp [p, r] <;> decide
theorem op_place {h : Hp} {s k a b : Int} (hR : Rl h) : OpI 2 mX10_place 2 mX11_place [vi s, vi k, vi a, vi b] h := by
  obtain ⟨h1, h2, h3, h4, h5⟩ := id hR
  by_cases hs : 0 ≤ s ∧ s < 3
  · have tail : ∀ (h' : Hp) (Q : Int → Hp → Prop), (al k a b → E 2 mX11_place 131 [(0, vr 103), (6, vi 0), (7, vi 0)] [] (up (up (up h' 113 s k) 114 s a) 115 s b) (qi Q)) → (¬ al k a b → Q (-2) h') → CI 2 mX11_place [vr 103, vi s, vi k, vi a, vi b] h' Q := by
      intro h' Q k1 k0
      have e95 : ∀ (P : Prop) [Decidable P], (P ↔ al k a b) → E 2 mX11_place 95 [(0, vr 103), (1, vi s), (2, vi k), (3, vi a), (4, vi b), (5, vi (if P then (1 : Int) else 0))] [] h' (qi Q) := by
        intro P _ e
        refine sX11_place_95 ⟨fun z => ⟨by omega, k1 (e.mp (ite1' z))⟩, fun z => k0 (fun q => ite0 z (e.mpr q))⟩
      have e77 : ∀ (P : Prop) [Decidable P], ((P ∧ (k ≥ 4 → 0 ≤ b ∧ b ≤ 9)) ↔ al k a b) → E 2 mX11_place 77 [(0, vr 103), (1, vi s), (2, vi k), (3, vi a), (4, vi b), (5, vi (if P then (1 : Int) else 0))] [] h' (qi Q) := by
        intro P _ e
        refine sX11_place_77 ⟨fun z => e95 P ⟨fun p => e.mp ⟨p, fun q => absurd q (by omega)⟩, fun q => (e.mpr q).1⟩, fun z x4 e4 => ?_⟩
        rw [e4, jand01]
        exact e95 _ ⟨fun p => e.mp ⟨p.1, fun _ => by omega⟩, fun q => ⟨(e.mpr q).1, by have := (e.mpr q).2 z; omega⟩⟩
      have e61 : ∀ (P : Prop) [Decidable P], ((P ∧ (k ≥ 3 → 0 ≤ a ∧ a ≤ 1) ∧ (k ≥ 4 → 0 ≤ b ∧ b ≤ 9)) ↔ al k a b) → E 2 mX11_place 61 [(0, vr 103), (1, vi s), (2, vi k), (3, vi a), (4, vi b), (5, vi (if P then (1 : Int) else 0))] [] h' (qi Q) := by
        intro P _ e
        refine sX11_place_61 ⟨fun z => e77 P ⟨fun p => e.mp ⟨p.1, fun q => absurd q (by omega), p.2⟩, fun q => ⟨(e.mpr q).1, (e.mpr q).2.2⟩⟩, fun z x4 e4 => ?_⟩
        rw [e4, jand01]
        exact e77 _ ⟨fun p => e.mp ⟨p.1.1, fun _ => by omega, p.2⟩, fun q => ⟨⟨(e.mpr q).1, by have := (e.mpr q).2.1 z; omega⟩, (e.mpr q).2.2⟩⟩
      refine sX11_place ⟨fun _ => ⟨fun e => e61 _ ?_, fun e => ⟨fun e2 => e61 _ ?_, fun e2 => e61 _ ?_⟩⟩, fun c => absurd c (by omega)⟩
      all_goals (unfold al; omega)
    refine sX10_place ⟨fun _ => c_allows (fun q => ⟨fun _ => ⟨by omega, c_count ?_⟩, fun c => absurd c (by decide)⟩) (fun q => ⟨fun c => absurd rfl c, fun _ => tail h _ (fun z => absurd z q) (fun _ => ⟨rfl, hR⟩)⟩), fun c => absurd c (by omega)⟩
    have hsh : ∀ t, 0 ≤ t → t < 3 → (up (up (up (up (up (up h (80 + s) 0 k) (80 + s) 1 a) (80 + s) 2 b) 113 s k) 114 s a) 115 s b) 113 t = (up (up (up h (80 + s) 0 k) (80 + s) 1 a) (80 + s) 2 b) (80 + t) 0 ∧ okB ((up (up (up h (80 + s) 0 k) (80 + s) 1 a) (80 + s) 2 b) (80 + t) 0) ((up (up (up h (80 + s) 0 k) (80 + s) 1 a) (80 + s) 2 b) (80 + t) 1) ((up (up (up h (80 + s) 0 k) (80 + s) 1 a) (80 + s) 2 b) (80 + t) 2) := by
      intro t q1 q2
      have bb := h5 t q1 q2
      unfold okB at bb ⊢
      unfold al at q
      by_cases e : t = s
      · subst e; grind [up]
      · repeat rw [up_no (by omega)]
        exact ⟨bb.1, bb.2.2.2⟩
    refine tail _ _ (fun _ => m_count (fun t q1 q2 => ?_) ⟨?_, RNH_c (fun a i q => ?_) h1, Txt_c (fun a i q => ?_) h2, Key_c (fun a i q => ?_) h3, Tri_c (fun a i q => ?_) h4, fun t q1 q2 => ?_⟩) (fun z => absurd q z)
    · have := hsh t q1 q2
      rw [this.1]
      have := this.2
      unfold okB at this
      omega
    · unfold nb
      rw [(hsh 0 (by omega) (by omega)).1, (hsh 1 (by omega) (by omega)).1, (hsh 2 (by omega) (by omega)).1]
    · unfold aN at q; rw [up_no (by omega), up_no (by omega), up_no (by omega), up_no (by omega), up_no (by omega), up_no (by omega)]
    · unfold aT at q; rw [up_no (by omega), up_no (by omega), up_no (by omega), up_no (by omega), up_no (by omega), up_no (by omega)]
    · unfold aK at q; rw [up_no (by omega), up_no (by omega), up_no (by omega), up_no (by omega), up_no (by omega), up_no (by omega)]
    · unfold aR at q; rw [up_no (by omega), up_no (by omega), up_no (by omega), up_no (by omega), up_no (by omega), up_no (by omega)]
    · have hh := hsh t q1 q2
      have bb := h5 t q1 q2
      have r0 : ∀ i, (up (up (up (up (up (up h (80 + s) 0 k) (80 + s) 1 a) (80 + s) 2 b) 113 s k) 114 s a) 115 s b) (80 + t) i = (up (up (up h (80 + s) 0 k) (80 + s) 1 a) (80 + s) 2 b) (80 + t) i := fun i => by rw [up_no (by omega), up_no (by omega), up_no (by omega)]
      rw [r0, r0, r0]
      refine ⟨hh.1, ?_, ?_, hh.2⟩
      · by_cases e : t = s
        · subst e; grind [up]
        · repeat rw [up_no (by omega)]
          exact bb.2.1
      · by_cases e : t = s
        · subst e; grind [up]
        · repeat rw [up_no (by omega)]
          exact bb.2.2.1
  · exact sX10_place ⟨fun c => absurd c (by omega), fun _ => sX11_place ⟨fun c => absurd c (by omega), fun _ => ⟨rfl, hR⟩⟩⟩
