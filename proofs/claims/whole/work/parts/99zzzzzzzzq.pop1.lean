/-! plane nets: flipped, turned, side by side -/
theorem cirs_map {g : vT → vT} (A : rn_L) : cirs (A.map (List.map g)) = cirs A := by
  unfold cirs
  rw [List.countP_map]
  congr 1
  funext L
  cases L <;> rfl
section FLP
variable {A : rn_L} {sg : Nat → Bool} {f : Nat → Nat} {T : ow_NT} {x : Nat}
def ntF (T : ow_NT) (x : Nat) : ow_NT := (T.1, T.2.1, np_swap T.2.2.1 (2 * x) (2 * x + 1), su T.2.2.2 x (-T.2.2.2 x))
theorem pm1_F (hT : pm1 T) : pm1 (ntF T x) := by
  intro k hk
  show su T.2.2.2 x (-T.2.2.2 x) k = 1 ∨ su T.2.2.2 x (-T.2.2.2 x) k = -1
  have hk : k < T.1 := hk
  by_cases e : k = x
  · rw [show su T.2.2.2 x (-T.2.2.2 x) k = -T.2.2.2 x from if_pos e]
    rw [e] at hk
    rcases hT x hk with h | h <;> rw [h]
    · exact Or.inr rfl
    · exact Or.inl rfl
  · rw [show su T.2.2.2 x (-T.2.2.2 x) k = T.2.2.2 k from if_neg e]
    exact hT k hk
theorem vn_F (hv : vn T.1 T.2.2.1) (hx : x < T.1) : vn T.1 (np_swap T.2.2.1 (2 * x) (2 * x + 1)) := vD_vn.mp (vD_swap (vD_vn.mpr hv) (show 2 * x < 2 * T.1 by omega) (show 2 * x + 1 < 2 * T.1 by omega))
theorem mt_ev (x : Nat) : mt (2 * x) = 2 * x + 1 := by
  unfold mt
  rw [if_pos (by omega)]
theorem mt_od (x : Nat) : mt (2 * x + 1) = 2 * x := by
  unfold mt
  rw [if_neg (by omega)]
  omega
theorem sw_mt (v x : Nat) : mt (np_sw v (2 * x) (2 * x + 1)) = np_sw (mt v) (2 * x) (2 * x + 1) := by
  by_cases e1 : v = 2 * x
  · rw [e1, np_sw_v, mt_od, mt_ev, np_sw_w]
  · by_cases e2 : v = 2 * x + 1
    · rw [e2, np_sw_w, mt_od, mt_ev, np_sw_v]
    · have h := mt_h2 v
      rw [np_sw_o e1 e2, np_sw_o (by omega) (by omega)]
theorem pl_flip (hv : vn T.1 T.2.2.1) (hc : T.1 ≤ 12) (hT : pm1 T) (hx : x < T.1) : nt_plane T = true ↔ nt_plane (ntF T x) = true := by
  rw [plane_iff hv hc, plane_iff (T := ntF T x) (vn_F hv hx) hc]
  have hsl : ∀ v, v < 2 * T.1 → np_sw v (2 * x) (2 * x + 1) < 2 * T.1 := fun v h => np_sw_D (D := fun k => k < 2 * T.1) (by omega) (by omega) h
  have h := pl_hm (c := T.1) (S := T.2.2.1) (SA := np_swap T.2.2.1 (2 * x) (2 * x + 1)) (b := stG T.2.2.2) (bA := stG (su T.2.2.2 x (-T.2.2.2 x))) (ψA := fun v => np_sw v (2 * x) (2 * x + 1)) hv (vn_F hv hx) (fun v hvl => ?_) (fun u v _ _ e => ?_)
  · exact h
  · refine ⟨hsl v hvl, ?_, sw_mt v x, ?_⟩
    · show T.2.2.1.1 (np_sw v (2 * x) (2 * x + 1)) = np_sw ((np_swap T.2.2.1 (2 * x) (2 * x + 1)).1 v) (2 * x) (2 * x + 1)
      rw [np_swap_1 (D := fun k => k < 2 * T.1) (vD_vn.mpr hv) (by omega) (by omega) hvl, np_sw_i]
    · show stG T.2.2.2 (np_sw v (2 * x) (2 * x + 1)) = stG (su T.2.2.2 x (-T.2.2.2 x)) v
      unfold stG
      by_cases e1 : v = 2 * x
      · rw [e1, np_sw_v, show su T.2.2.2 x (-T.2.2.2 x) (2 * x / 2) = -T.2.2.2 x from if_pos (by omega), show (2 * x + 1) / 2 = x by omega, show (2 * x + 1) % 2 = 1 by omega, show 2 * x % 2 = 0 by omega]
        rcases hT x hx with h | h <;> rw [h] <;> rfl
      · by_cases e2 : v = 2 * x + 1
        · rw [e2, np_sw_w, show su T.2.2.2 x (-T.2.2.2 x) ((2 * x + 1) / 2) = -T.2.2.2 x from if_pos (by omega), show 2 * x / 2 = x by omega, show (2 * x + 1) % 2 = 1 by omega, show 2 * x % 2 = 0 by omega]
          rcases hT x hx with h | h <;> rw [h] <;> rfl
        · rw [np_sw_o e1 e2, show su T.2.2.2 x (-T.2.2.2 x) (v / 2) = T.2.2.2 (v / 2) from if_neg (by omega)]
  · have e : np_sw u (2 * x) (2 * x + 1) = np_sw v (2 * x) (2 * x + 1) := e
    rw [← np_sw_i (2 * x) (2 * x + 1) u, e, np_sw_i]
theorem gl_flp {p : vT} (hp : p.2 < 2) : gl f (flp (fun y => decide (f y = x)) p) = np_sw (gl f p) (2 * x) (2 * x + 1) := by
  unfold gl
  rw [flp_1, flp_2]
  by_cases e : f p.1 = x
  · rw [decide_eq_true e, if_pos rfl, e]
    rcases (show p.2 = 0 ∨ p.2 = 1 by omega) with h | h
    · rw [h, show 2 * x + 0 = 2 * x from rfl, np_sw_v]
    · rw [h, np_sw_w]
      rfl
  · rw [decide_eq_false e, if_neg (by decide), np_sw_o (by omega) (by omega)]
theorem iso_flip (h : isoV A sg f T) (hT : pm1 T) (hx : x < T.1) : isoV (A.map (List.map (flp (fun y => decide (f y = x))))) (fun y => if f y = x then !sg y else sg y) f (ntF T x) := by
  have hv := isoV_vn h
  have hF := h.1.1
  have lt2 : ∀ p, p ∈ A.flatten → p.2 < 2 := fun p hp => (hF.2 p hp).2.1
  refine isoV_of (isoS_iff.mp ⟨?_, ?_, h.1.2.2.1, ?_, ?_, ?_, ?_, ?_⟩) (vn_F hv hx)
  · rw [fl_map2]
    exact wkF_flp hF
  · rw [fl_map2, List.length_map]
    exact h.1.2.1
  · intro p hp
    rw [fl_map2] at hp
    obtain ⟨q, q1, rfl⟩ := List.mem_map.mp hp
    rw [flp_1]
    exact h.1.2.2.2.1 q q1
  · intro p q hp hq e
    rw [fl_map2] at hp hq
    obtain ⟨p', p1, rfl⟩ := List.mem_map.mp hp
    obtain ⟨q', q1, rfl⟩ := List.mem_map.mp hq
    rw [flp_1, flp_1] at e ⊢
    exact h.1.2.2.2.2.1 p' q' p1 q1 e
  · intro L hL p hp
    obtain ⟨L0, l1, rfl⟩ := List.mem_map.mp hL
    obtain ⟨q, q1, rfl⟩ := List.mem_map.mp hp
    have nL := L_nd hF.1 l1
    have qF : q ∈ A.flatten := List.mem_flatten.mpr ⟨L0, l1, q1⟩
    have sF : sc L0 q ∈ A.flatten := List.mem_flatten.mpr ⟨L0, l1, sc_in q1 nL⟩
    rw [sc_map nL (fun a b ha hb e => ?_) q1, gl_flp (lt2 q qF), gl_flp (lt2 _ sF), ← (h.2 L0 l1 q q1).1]
    · show (np_swap T.2.2.1 (2 * x) (2 * x + 1)).1 (np_sw (gl f q) (2 * x) (2 * x + 1)) = _
      rw [np_swap_1 (D := fun k => k < 2 * T.1) (vD_vn.mpr hv) (by omega) (by omega) (np_sw_D (D := fun k => k < 2 * T.1) (by omega) (by omega) (gl_lt h qF)), np_sw_i]
    · have aF : a ∈ A.flatten := List.mem_flatten.mpr ⟨L0, l1, ha⟩
      have bF : b ∈ A.flatten := List.mem_flatten.mpr ⟨L0, l1, hb⟩
      have := congrArg (gl f) e
      rw [gl_flp (lt2 a aF), gl_flp (lt2 b bF)] at this
      exact gl_gin h.1 a b aF bF (by rw [← np_sw_i (2 * x) (2 * x + 1) (gl f a), this, np_sw_i])
  · intro p hp
    rw [fl_map2] at hp
    obtain ⟨q, q1, rfl⟩ := List.mem_map.mp hp
    rw [flp_1]
    have hs := h.1.2.2.2.2.2.2.1 q q1
    show su T.2.2.2 x (-T.2.2.2 x) (f q.1) < 0 ↔ (if f q.1 = x then !sg q.1 else sg q.1) = true
    by_cases e : f q.1 = x
    · rw [show su T.2.2.2 x (-T.2.2.2 x) (f q.1) = -T.2.2.2 x from if_pos e, if_pos e]
      rw [e] at hs
      rcases hT x hx with h9 | h9
      · rw [h9] at hs ⊢
        cases hq : sg q.1 with
        | true => exact absurd (hs.mpr hq) (by decide)
        | false => exact ⟨fun _ => rfl, fun _ => by decide⟩
      · rw [h9] at hs ⊢
        rw [hs.mp (by decide)]
        exact ⟨fun h8 => absurd h8 (by decide), fun h8 => absurd h8 (by decide)⟩
    · rw [show su T.2.2.2 x (-T.2.2.2 x) (f q.1) = T.2.2.2 (f q.1) from if_neg e, if_neg e]
      exact hs
  · rw [cirs_map]
    exact h.1.2.2.2.2.2.2.2
end FLP
/-! components turned round -/
section TRN
variable {A : rn_L} {sg : Nat → Bool} {f : Nat → Nat} {T : ow_NT} {t : Nat → Bool}
theorem turn_G {S : ow_NP} {G : Nat → Int32} : ∀ n x, (np_turn t S G n).2 x = if ((decide (2 * x < n) && t (2 * x)) != (decide (2 * x + 1 < n) && t (2 * x + 1))) = true then -G x else G x
  | 0, x => by
    rw [decide_eq_false (Nat.not_lt_zero _), decide_eq_false (Nat.not_lt_zero _)]
    rfl
  | n + 1, x => by
    have ih := turn_G (S := S) (G := G) n x
    rw [np_turn]
    by_cases e : t n = true
    · rw [if_pos e]
      show su (np_turn t S G n).2 (n / 2) (-((np_turn t S G n).2 (n / 2))) x = _
      by_cases ex : x = n / 2
      · rw [show su (np_turn t S G n).2 (n / 2) (-((np_turn t S G n).2 (n / 2))) x = -((np_turn t S G n).2 (n / 2)) from if_pos ex, ← ex, ih]
        by_cases e0 : n = 2 * x
        · rw [decide_eq_false (show ¬ 2 * x < n by omega), decide_eq_false (show ¬ 2 * x + 1 < n by omega), decide_eq_true (show 2 * x < n + 1 by omega), decide_eq_false (show ¬ 2 * x + 1 < n + 1 by omega), ← e0, e]
          rfl
        · have e1 : n = 2 * x + 1 := by omega
          rw [decide_eq_true (show 2 * x < n by omega), decide_eq_false (show ¬ 2 * x + 1 < n by omega), decide_eq_true (show 2 * x < n + 1 by omega), decide_eq_true (show 2 * x + 1 < n + 1 by omega), ← e1, e]
          cases t (2 * x)
          · rfl
          · show - - G x = G x
            exact Int32.neg_neg
      · rw [show su (np_turn t S G n).2 (n / 2) (-((np_turn t S G n).2 (n / 2))) x = (np_turn t S G n).2 x from if_neg ex, ih]
        have k1 : decide (2 * x < n + 1) = decide (2 * x < n) := decide_eq_decide.mpr (by omega)
        have k2 : decide (2 * x + 1 < n + 1) = decide (2 * x + 1 < n) := decide_eq_decide.mpr (by omega)
        rw [k1, k2]
    · rw [if_neg e, ih]
      have e : t n = false := by cases h : t n with
        | true => exact absurd h e
        | false => rfl
      by_cases e0 : n = 2 * x
      · rw [decide_eq_false (show ¬ 2 * x < n by omega), decide_eq_false (show ¬ 2 * x + 1 < n by omega), decide_eq_true (show 2 * x < n + 1 by omega), decide_eq_false (show ¬ 2 * x + 1 < n + 1 by omega), ← e0, e]
        rfl
      · by_cases e1 : n = 2 * x + 1
        · rw [decide_eq_true (show 2 * x < n by omega), decide_eq_false (show ¬ 2 * x + 1 < n by omega), decide_eq_true (show 2 * x < n + 1 by omega), decide_eq_true (show 2 * x + 1 < n + 1 by omega), ← e1, e]
          rfl
        · have k1 : decide (2 * x < n + 1) = decide (2 * x < n) := decide_eq_decide.mpr (by omega)
          have k2 : decide (2 * x + 1 < n + 1) = decide (2 * x + 1 < n) := decide_eq_decide.mpr (by omega)
          rw [k1, k2]
def ntT (T : ow_NT) (t : Nat → Bool) : ow_NT := (T.1, T.2.1, (np_turn t T.2.2.1 T.2.2.2 (2 * T.1)).1, (np_turn t T.2.2.1 T.2.2.2 (2 * T.1)).2)
theorem ntT_1 {k : Nat} (hk : k < 2 * T.1) : (ntT T t).2.2.1.1 k = (if t k = true then T.2.2.1.2 k else T.2.2.1.1 k) ∧ (ntT T t).2.2.1.2 k = if t k = true then T.2.2.1.1 k else T.2.2.1.2 k := by
  have := turn_eq (t := t) (S := T.2.2.1) (G := T.2.2.2) (2 * T.1) k
  show (np_turn t T.2.2.1 T.2.2.2 (2 * T.1)).1.1 k = _ ∧ (np_turn t T.2.2.1 T.2.2.2 (2 * T.1)).1.2 k = _
  rw [this.1, this.2]
  by_cases e : t k = true
  · have h9 : k < 2 * T.1 ∧ t k = true := ⟨hk, e⟩
    constructor
    · rw [if_pos h9, if_pos e]
    · rw [if_pos h9, if_pos e]
  · have h9 : ¬ (k < 2 * T.1 ∧ t k = true) := fun h => e h.2
    constructor
    · rw [if_neg h9, if_neg e]
    · rw [if_neg h9, if_neg e]
theorem ntT_G {x : Nat} (hx : x < T.1) : (ntT T t).2.2.2 x = if (t (2 * x) != t (2 * x + 1)) = true then -T.2.2.2 x else T.2.2.2 x := by
  have := turn_G (t := t) (S := T.2.2.1) (G := T.2.2.2) (2 * T.1) x
  rw [decide_eq_true (show 2 * x < 2 * T.1 by omega), decide_eq_true (show 2 * x + 1 < 2 * T.1 by omega), Bool.true_and, Bool.true_and] at this
  exact this
theorem pm1_T (hT : pm1 T) : pm1 (ntT T t) := by
  intro x hx
  have hx : x < T.1 := hx
  rw [ntT_G (T := T) hx]
  split
  · rcases hT x hx with h | h <;> rw [h]
    · exact Or.inr rfl
    · exact Or.inl rfl
  · exact hT x hx
theorem vn_T (hv : vn T.1 T.2.2.1) (ht : ∀ k, k < 2 * T.1 → t (T.2.2.1.1 k) = t k) : vn T.1 (ntT T t).2.2.1 := by
  have ht2 : ∀ k, k < 2 * T.1 → t (T.2.2.1.2 k) = t k := fun k hk => by
    have := ht _ (hv k hk).2.1
    rw [(hv k hk).2.2.2] at this
    exact this.symm
  intro k hk
  obtain ⟨h1, h2, h3, h4⟩ := hv k hk
  rw [(ntT_1 hk).1, (ntT_1 hk).2]
  by_cases e : t k = true
  · rw [if_pos e, if_pos e]
    refine ⟨h2, h1, ?_, ?_⟩
    · rw [(ntT_1 h2).2, if_pos (by rw [ht2 k hk]; exact e), h4]
    · rw [(ntT_1 h1).1, if_pos (by rw [ht k hk]; exact e), h3]
  · rw [if_neg e, if_neg e]
    refine ⟨h1, h2, ?_, ?_⟩
    · rw [(ntT_1 h1).2, if_neg (by rw [ht k hk]; exact e), h3]
    · rw [(ntT_1 h2).1, if_neg (by rw [ht2 k hk]; exact e), h4]
def dT (t : Nat → Bool) (d : Nat) : Nat := if t (d / 2) = true then 2 * (d / 2) + (1 - d % 2) else d
theorem dT_h (d : Nat) : dT t d / 2 = d / 2 := by
  unfold dT
  split <;> omega
theorem dT_dT (d : Nat) : dT t (dT t d) = d := by
  have h := dT_h (t := t) d
  unfold dT at h ⊢
  by_cases e : t (d / 2) = true
  · rw [if_pos e] at h ⊢
    rw [h, if_pos e]
    omega
  · rw [if_neg e, if_neg e]
theorem dT_0 (v : Nat) : dT t (2 * v) = if t v = true then 2 * v + 1 else 2 * v := by
  unfold dT
  rw [show 2 * v / 2 = v by omega]
  split <;> omega
theorem dT_1 (v : Nat) : dT t (2 * v + 1) = if t v = true then 2 * v else 2 * v + 1 := by
  unfold dT
  rw [show (2 * v + 1) / 2 = v by omega]
  split <;> omega
theorem dT_al (hv : vn T.1 T.2.2.1) (ht : ∀ k, k < 2 * T.1 → t (T.2.2.1.1 k) = t k) {d : Nat} (hd : d < 4 * T.1) : dT t (pn_al (ntT T t).2.2.1 d) = pn_al T.2.2.1 (dT t d) := by
  have ht2 : ∀ k, k < 2 * T.1 → t (T.2.2.1.2 k) = t k := fun k hk => by
    have := ht _ (hv k hk).2.1
    rw [(hv k hk).2.2.2] at this
    exact this.symm
  obtain ⟨v, hvl, e⟩ : ∃ v, v < 2 * T.1 ∧ (d = 2 * v ∨ d = 2 * v + 1) := ⟨d / 2, by omega, by omega⟩
  rcases e with rfl | rfl
  · rw [pn_al0, dT_1, (ntT_1 hvl).1, dT_0]
    by_cases e : t v = true
    · rw [if_pos e, if_pos e, if_pos (by rw [ht2 v hvl]; exact e), pn_al1]
    · rw [if_neg e, if_neg e, if_neg (by rw [ht v hvl]; exact e), pn_al0]
  · rw [pn_al1, dT_0, (ntT_1 hvl).2, dT_1]
    by_cases e : t v = true
    · rw [if_pos e, if_pos e, if_pos (by rw [ht v hvl]; exact e), pn_al0]
    · rw [if_neg e, if_neg e, if_neg (by rw [ht2 v hvl]; exact e), pn_al1]
theorem stG_T (hT : pm1 T) {v : Nat} (hv : v < 2 * T.1) : stG (ntT T t).2.2.2 v = if (t v != t (mt v)) = true then !stG T.2.2.2 v else stG T.2.2.2 v := by
  unfold stG
  rw [ntT_G (show v / 2 < T.1 by omega)]
  have e : (t (2 * (v / 2)) != t (2 * (v / 2) + 1)) = (t v != t (mt v)) := by
    unfold mt
    by_cases e : v % 2 = 0
    · rw [if_pos e, show 2 * (v / 2) = v by omega]
    · rw [if_neg e, show 2 * (v / 2) + 1 = v by omega, show 2 * (v / 2) = v - 1 by omega]
      cases t v <;> cases t (v - 1) <;> rfl
  rw [e]
  cases (t v != t (mt v)) with
  | false => rfl
  | true =>
    rw [if_pos rfl, if_pos rfl]
    rcases hT (v / 2) (by omega) with h | h <;> rw [h] <;> cases decide (v % 2 = 0) <;> rfl
theorem dT_rt (hT : pm1 T) {d : Nat} (hd : d < 4 * T.1) : dT t (pn_rt (stG (ntT T t).2.2.2) d) = pn_rt (stG T.2.2.2) (dT t d) := by
  obtain ⟨v, hvl, e⟩ : ∃ v, v < 2 * T.1 ∧ (d = 2 * v ∨ d = 2 * v + 1) := ⟨d / 2, by omega, by omega⟩
  have hs := stG_T (t := t) hT hvl
  rcases e with rfl | rfl
  · rw [pn_at0, dT_0, hs]
    cases h1 : t v <;> cases h2 : t (mt v) <;> cases h3 : stG T.2.2.2 v <;> simp [pn_at0, pn_at1, dT_0, dT_1, h1, h2, h3]
  · rw [pn_at1, dT_1, hs]
    cases h1 : t v <;> cases h2 : t (mt v) <;> cases h3 : stG T.2.2.2 v <;> simp [pn_at0, pn_at1, dT_0, dT_1, h1, h2, h3]
theorem pl_turn (hv : vn T.1 T.2.2.1) (hc : T.1 ≤ 12) (hT : pm1 T) (ht : ∀ k, k < 2 * T.1 → t (T.2.2.1.1 k) = t k) (hp : nt_plane T = true) : nt_plane (ntT T t) = true := by
  have hv' := vn_T hv ht
  rw [plane_iff (T := ntT T t) hv' hc]
  obtain ⟨R, hR, g, X, f1, f2, f3, f4⟩ := (plane_iff hv hc).mp hp
  have dl : ∀ d, d < 4 * T.1 → dT t d < 4 * T.1 := fun d hd => by
    have := dT_h (t := t) d
    omega
  refine ⟨R, fun v hvl => ?_, fun d => g (dT t d), X.map (dT t), fun d hd => ?_, fun x hx => ?_, ?_, ?_⟩
  · obtain ⟨r, r1, r2, r3⟩ := hR v hvl
    refine ⟨r, r1, r2, r3 (fun v => rch T.1 (ntT T t).2.2.1 r v) (rch_rf _ _ _) (fun j hj hp9 => ?_) (fun j hj hp9 => rch_m hp9 hj)⟩
    by_cases e : t j = true
    · -- the one before in the turned net
      have h1 := (hv j hj).1
      have h3 := (hv j hj).2.2.1
      have : (ntT T t).2.2.1.1 (T.2.2.1.1 j) = j := by
        rw [(ntT_1 h1).1, if_pos (by rw [ht j hj]; exact e), h3]
      have h5 := rch_n (rch_rf T.1 (ntT T t).2.2.1 (T.2.2.1.1 j)) h1
      rw [this] at h5
      exact rch_tr hp9 (rch_sy hv' h1 h5)
    · have := rch_n hp9 hj
      rw [(ntT_1 hj).1, if_neg e] at this
      exact this
  · show g (dT t (pn_rt (stG (ntT T t).2.2.2) (pn_al (ntT T t).2.2.1 d))) = g (dT t d)
    rw [dT_rt hT (pn_al_lt hv' hd), dT_al hv ht hd]
    exact f1 _ (dl d hd)
  · obtain ⟨q, q1, q2⟩ := List.mem_map.mp hx
    rw [← q2]
    exact dl q (f2 q q1)
  · unfold pm_dv
    rw [List.map_map]
    have : X.map ((fun d => g (dT t d)) ∘ dT t) = X.map g := List.map_congr_left (fun q _ => by
      show g (dT t (dT t q)) = g q
      rw [dT_dT])
    rw [this]
    exact f3
  · rw [List.length_map]
    exact f4
end TRN
