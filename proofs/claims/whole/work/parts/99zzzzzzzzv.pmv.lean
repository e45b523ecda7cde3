/-! every move of a plane net makes plane nets -/
theorem pl_cg {T T' : ow_NT} (e1 : T'.1 = T.1) (hN : ∀ k, k < 2 * T.1 → T'.2.2.1.1 k = T.2.2.1.1 k) (hG : ∀ x, x < T.1 → T'.2.2.2 x = T.2.2.2 x) (hv : vn T.1 T.2.2.1) (hv' : vn T'.1 T'.2.2.1) (hc : T.1 ≤ 12) : nt_plane T' = true ↔ nt_plane T = true := by
  rw [plane_iff hv hc, plane_iff hv' (by omega)]
  rw [e1] at hv' ⊢
  exact pl_hm (ψA := fun v => v) hv' hv (fun v hvl => ⟨hvl, hN v hvl, rfl, by
    show stG T'.2.2.2 v = stG T.2.2.2 v
    unfold stG
    rw [hG _ (by omega)]⟩) (fun u v _ _ e => e)
section PMV
variable {R Q : ow_NT}
theorem cpyN {k : Nat} (hk : k < 2 * R.1) : (nt_copy Q R).2.2.1.1 k = R.2.2.1.1 k ∧ (nt_copy Q R).2.2.1.2 k = R.2.2.1.2 k := by
  have key : ∀ (f g : Nat → Nat), va_cpy f g 0 0 (2 * R.1) k = f k := fun f g => by
    rw [pk_cpy_in (Nat.zero_le k) (by omega), Nat.zero_add, Nat.sub_zero]
  exact ⟨key _ _, key _ _⟩
theorem cpyG {x : Nat} (hx : x < R.1) : (nt_copy Q R).2.2.2 x = R.2.2.2 x := by
  show va_cpy R.2.2.2 Q.2.2.2 0 0 R.1 x = _
  rw [pk_cpy_in (Nat.zero_le x) (by omega), Nat.zero_add, Nat.sub_zero]
theorem pl_copy (hv : vn R.1 R.2.2.1) (hc : R.1 ≤ 12) : nt_plane (nt_copy Q R) = true ↔ nt_plane R = true := pl_cg rfl (fun k hk => (cpyN hk).1) (fun x hx => cpyG hx) hv (vn_copy hv) hc
theorem pm1_copy (h : pm1 R) : pm1 (nt_copy Q R) := fun x hx => by
  have hx : x < R.1 := hx
  rw [cpyG hx]
  exact h x hx
/-- a kink alone -/
theorem fig8 {b : Nat → Bool} (hb : pn_fl b) : vn 1 (fun v => 1 - v, fun v => 1 - v) ∧ pn_pl 1 (fun v => 1 - v, fun v => 1 - v) b := by
  have hv : vn 1 (fun v => 1 - v, fun v => 1 - v) := fun k hk => by
    show 1 - k < 2 * 1 ∧ 1 - k < 2 * 1 ∧ 1 - (1 - k) = k ∧ 1 - (1 - k) = k
    omega
  refine ⟨hv, ?_⟩
  have hm0 := hb 0
  have hm1 : mt 0 = 1 := rfl
  rw [hm1] at hm0
  refine ⟨[0], fun v hvl => ⟨0, List.mem_singleton.mpr rfl, by omega, ?_⟩, ?_⟩
  · rcases (show v = 0 ∨ v = 1 by omega) with rfl | rfl
    · exact rch_rf _ _ _
    · exact rch_m (rch_rf _ _ _) (by omega)
  · have key : ∀ d, d < 4 → pn_ph (fun v => 1 - v, fun v => 1 - v) b d = if d = 0 then pn_rt b 3 else if d = 1 then pn_rt b 2 else if d = 2 then pn_rt b 1 else pn_rt b 0 := by
      intro d hd
      rcases (show d = 0 ∨ d = 1 ∨ d = 2 ∨ d = 3 by omega) with rfl | rfl | rfl | rfl <;> rfl
    have r0 := pn_at0 (b := b) 0
    have r1 := pn_at1 (b := b) 0
    have r2 := pn_at0 (b := b) 1
    have r3 := pn_at1 (b := b) 1
    cases e : b 0 with
    | true =>
      rw [e] at hm0 r0 r1
      have hm0 : b 1 = false := hm0
      rw [hm0] at r2 r3
      have q0 : pn_rt b 0 = 3 := r0
      have q1 : pn_rt b 1 = 2 := r1
      have q2 : pn_rt b 2 = 0 := r2
      have q3 : pn_rt b 3 = 1 := r3
      refine ⟨fun d => if d = 1 then 0 else d, [0, 2, 3], fun d hd => ?_, fun x hx => ?_, ?_, Nat.le_refl _⟩
      · rw [key d hd, q0, q1, q2, q3]
        rcases (show d = 0 ∨ d = 1 ∨ d = 2 ∨ d = 3 by omega) with rfl | rfl | rfl | rfl <;> rfl
      · simp at hx
        omega
      · show [0, 2, 3].Nodup
        decide
    | false =>
      rw [e] at hm0 r0 r1
      have hm0 : b 1 = true := hm0
      rw [hm0] at r2 r3
      have q0 : pn_rt b 0 = 2 := r0
      have q1 : pn_rt b 1 = 3 := r1
      have q2 : pn_rt b 2 = 1 := r2
      have q3 : pn_rt b 3 = 0 := r3
      refine ⟨fun d => if d = 3 then 2 else d, [0, 1, 2], fun d hd => ?_, fun x hx => ?_, ?_, Nat.le_refl _⟩
      · rw [key d hd, q0, q1, q2, q3]
        rcases (show d = 0 ∨ d = 1 ∨ d = 2 ∨ d = 3 by omega) with rfl | rfl | rfl | rfl <;> rfl
      · simp at hx
        omega
      · show [0, 1, 2].Nodup
        decide
/-- a net and a kink of two new visits beside it -/
theorem pl_beside {c : Nat} {S S' : ow_NP} {G G' : Nat → Int32} {u o : Nat} (hv : vn c S) (hv' : vn (c + 1) S') (hp : pn_pl c S (stG G)) (hN : ∀ k, k < 2 * c → S'.1 k = S.1 k) (hG : ∀ x, x < c → G' x = G x) (huo : u = 2 * c ∧ o = 2 * c + 1 ∨ u = 2 * c + 1 ∧ o = 2 * c) (h1 : S'.1 u = o) (h2 : S'.1 o = u) : pn_pl (c + 1) S' (stG G') := by
  have hfl : pn_fl (fun v => stG G' (2 * c + v)) := fun v => by
    have : 2 * c + mt v = mt (2 * c + v) := by
      unfold mt
      split <;> split <;> omega
    show stG G' (2 * c + mt v) = !stG G' (2 * c + v)
    rw [this]
    exact stG_fl _
  obtain ⟨f1, f2⟩ := fig8 hfl
  refine un_sup (ψA := fun v => v) (ψB := fun v => 2 * c + v) hv' hv f1 (fun v hvl => ⟨show v < 2 * (c + 1) by omega, hN v hvl, rfl, ?_⟩) (fun v hvl => ⟨show 2 * c + v < 2 * (c + 1) by omega, ?_, ?_, rfl⟩) ⟨rfl, fun a d _ _ e => e, fun a d _ _ e => Nat.add_left_cancel e, fun a d ha hd e => by have e : a = 2 * c + d := e; omega⟩ hp f2
  · show stG G' v = stG G v
    unfold stG
    rw [hG _ (by omega)]
  · show S'.1 (2 * c + v) = 2 * c + (1 - v)
    rcases (show v = 0 ∨ v = 1 by omega) with rfl | rfl
    · rcases huo with ⟨a1, a2⟩ | ⟨a1, a2⟩
      · rw [a1] at h1
        rw [show 2 * c + 0 = 2 * c from rfl, h1, a2]
      · rw [a2] at h2
        rw [show 2 * c + 0 = 2 * c from rfl, h2, a1]
    · rcases huo with ⟨a1, a2⟩ | ⟨a1, a2⟩
      · rw [a2] at h2
        rw [h2, a1]
        rfl
      · rw [a1] at h1
        rw [h1, a2]
        rfl
  · show mt (2 * c + v) = 2 * c + mt v
    unfold mt
    split <;> split <;> omega
theorem put_12 (S : ow_NP) (a v k : Nat) : (np_putBehind S a v).1 k = if k = v then S.1 a else if k = a then v else S.1 k := put_1 S a v k
/-- a kink comes into a gap or a circle -/
theorem pl_comes {c : Nat} {S : ow_NP} {G G' : Nat → Int32} {u o : Nat} (af : Option Nat) (ha : ∀ a, af = some a → a < 2 * c) (hv : vn c S) (hp : pn_pl c S (stG G)) (hG : ∀ x, x < c → G' x = G x) (huo : u = 2 * c ∧ o = 2 * c + 1 ∨ u = 2 * c + 1 ∧ o = 2 * c) (k : Nat) (hv' : vn (c + 1) (nt_pair (c + 1, k, S, G') af u o).2.2.1) : pn_pl (c + 1) (nt_pair (c + 1, k, S, G') af u o).2.2.1 (stG G') := by
  cases af with
  | none =>
    have hv' : vn (c + 1) (np_putBehind (nl S u u) u o) := hv'
    show pn_pl (c + 1) (np_putBehind (nl S u u) u o) (stG G')
    refine pl_beside hv hv' hp (fun j hj => ?_) hG huo ?_ ?_
    · rw [put_1, if_neg (by omega), if_neg (by omega), nl_1, if_neg (by omega)]
    · rw [put_1, if_neg (by omega), if_pos rfl]
    · rw [put_1, if_pos rfl, nl_1, if_pos rfl]
  | some a =>
    have hal := ha a rfl
    have hv' : vn (c + 1) (np_putBehind (np_putBehind S a u) u o) := hv'
    show pn_pl (c + 1) (np_putBehind (np_putBehind S a u) u o) (stG G')
    have hol : o < 2 * (c + 1) := by omega
    have hal2 : a < 2 * (c + 1) := by omega
    have nx : ∀ j, (np_putBehind (np_putBehind S a u) u o).1 j = if j = o then S.1 a else if j = u then o else if j = a then u else S.1 j := fun j => by
      rw [put_1, put_1, put_1, if_pos rfl]
      by_cases e1 : j = o
      · rw [if_pos e1, if_pos e1]
      · rw [if_neg e1, if_neg e1]
        by_cases e2 : j = u
        · rw [if_pos e2, if_pos e2]
        · rw [if_neg e2, if_neg e2, if_neg e2]
    generalize hS' : np_putBehind (np_putBehind S a u) u o = S' at *
    have hv2 := vn_exchange hv' hal2 hol
    have hSl := (hv a hal).1
    have key : pn_pl (c + 1) (np_exchange S' a o) (stG G') := by
      refine pl_beside hv hv2 hp (fun j hj => ?_) hG huo ?_ ?_
      · rw [np_exchange_1, if_neg (by omega)]
        by_cases e : j = a
        · rw [if_pos e, nx, if_pos rfl, e]
        · rw [if_neg e, nx, if_neg (by omega), if_neg (by omega), if_neg e]
      · rw [np_exchange_1, if_neg (by omega), if_neg (by omega), nx, if_neg (by omega), if_pos rfl]
      · rw [np_exchange_1, if_pos rfl, nx, if_neg (by omega), if_neg (by omega), if_pos rfl]
    rw [← np_exchange_twice hv' hal2 hol]
    refine pn_exch hv2 stG_fl key hal2 hol (by omega) (Or.inl (fun hr => ?_))
    -- the new visits lie apart
    have e1 : (np_exchange S' a o).1 u = o := by rw [np_exchange_1, if_neg (by omega), if_neg (by omega), nx, if_neg (by omega), if_pos rfl]
    have e2 : (np_exchange S' a o).1 o = u := by rw [np_exchange_1, if_pos rfl, nx, if_neg (by omega), if_neg (by omega), if_pos rfl]
    have hr2 := rch_sy hv2 hal2 hr
    have := hr2 (fun j => j = u ∨ j = o) (Or.inr rfl) (fun j _ hj => by
      rcases hj with rfl | rfl
      · exact Or.inr e1
      · exact Or.inl e2) (fun j _ hj => by
      rcases huo with ⟨a1, a2⟩ | ⟨a1, a2⟩
      · rcases hj with rfl | rfl
        · rw [a1, a2]; exact Or.inr (mt_ev c)
        · rw [a1, a2]; exact Or.inl (mt_od c)
      · rcases hj with rfl | rfl
        · rw [a1, a2]; exact Or.inr (mt_od c)
        · rw [a1, a2]; exact Or.inl (mt_ev c))
    omega
/-! three swaps -/
def sw3 (v0 w0 v1 w1 v2 w2 k : Nat) : Nat := np_sw (np_sw (np_sw k v0 w0) v1 w1) v2 w2
theorem sw3_at {v0 w0 v1 w1 v2 w2 : Nat} (hd : v0 ≠ w0 ∧ v0 ≠ v1 ∧ v0 ≠ w1 ∧ v0 ≠ v2 ∧ v0 ≠ w2 ∧ w0 ≠ v1 ∧ w0 ≠ w1 ∧ w0 ≠ v2 ∧ w0 ≠ w2 ∧ v1 ≠ w1 ∧ v1 ≠ v2 ∧ v1 ≠ w2 ∧ w1 ≠ v2 ∧ w1 ≠ w2 ∧ v2 ≠ w2) (k : Nat) : sw3 v0 w0 v1 w1 v2 w2 k = (if k = v0 then w0 else if k = w0 then v0 else if k = v1 then w1 else if k = w1 then v1 else if k = v2 then w2 else if k = w2 then v2 else k) ∧ np_sw (np_sw (np_sw k v2 w2) v1 w1) v0 w0 = (if k = v0 then w0 else if k = w0 then v0 else if k = v1 then w1 else if k = w1 then v1 else if k = v2 then w2 else if k = w2 then v2 else k) := by
  obtain ⟨h1, h2, h3, h4, h5, h6, h7, h8, h9, h10, h11, h12, h13, h14, h15⟩ := hd
  unfold sw3
  by_cases k0 : k = v0
  · subst k0
    rw [if_pos rfl, np_sw_v, np_sw_o h6 h7, np_sw_o h8 h9, np_sw_o h4 h5, np_sw_o h2 h3, np_sw_v]
    exact ⟨rfl, rfl⟩
  · rw [if_neg k0]
    by_cases k1 : k = w0
    · subst k1
      rw [if_pos rfl, np_sw_w, np_sw_o h2 h3, np_sw_o h4 h5, np_sw_o h8 h9, np_sw_o h6 h7, np_sw_w]
      exact ⟨rfl, rfl⟩
    · rw [if_neg k1, np_sw_o k0 k1]
      by_cases k2 : k = v1
      · subst k2
        rw [if_pos rfl, np_sw_v, np_sw_o h13 h14, np_sw_o h11 h12, np_sw_v, np_sw_o (fun e => h3 e.symm) (fun e => h7 e.symm)]
        exact ⟨rfl, rfl⟩
      · rw [if_neg k2]
        by_cases k3 : k = w1
        · subst k3
          rw [if_pos rfl, np_sw_w, np_sw_o h11 h12, np_sw_o h13 h14, np_sw_w, np_sw_o (fun e => h2 e.symm) (fun e => h6 e.symm)]
          exact ⟨rfl, rfl⟩
        · rw [if_neg k3, np_sw_o k2 k3]
          by_cases k4 : k = v2
          · subst k4
            rw [if_pos rfl, np_sw_v, np_sw_o (fun e => h12 e.symm) (fun e => h14 e.symm), np_sw_o (fun e => h5 e.symm) (fun e => h9 e.symm)]
            exact ⟨rfl, rfl⟩
          · rw [if_neg k4]
            by_cases k5 : k = w2
            · subst k5
              rw [if_pos rfl, np_sw_w, np_sw_o (fun e => h11 e.symm) (fun e => h13 e.symm), np_sw_o (fun e => h4 e.symm) (fun e => h8 e.symm)]
              exact ⟨rfl, rfl⟩
            · rw [if_neg k5, np_sw_o k4 k5, np_sw_o k2 k3, np_sw_o k0 k1]
              exact ⟨rfl, rfl⟩
end PMV
