/-! nets side by side: what they show, and plane -/
section IAP
variable {A B : rn_L} {sg sg' : Nat → Bool} {f f' : Nat → Nat} {T R : ow_NT} {k : Nat}
theorem ntA_lo (N M : Nat → Nat) {j : Nat} (hj : j < 2 * T.1) : np_app N M (2 * T.1) (2 * R.1) j = N j := if_neg (by omega)
theorem ntA_hi (N M : Nat → Nat) {j : Nat} (hj : j < 2 * R.1) : np_app N M (2 * T.1) (2 * R.1) (2 * T.1 + j) = 2 * T.1 + M j := by
  unfold np_app
  rw [if_pos (by omega), show 2 * T.1 + j - 2 * T.1 = j by omega]
theorem ntA_g0 {x : Nat} (hx : x < T.1) : (ntA T R).2.2.2 x = T.2.2.2 x := by
  show va_cpy R.2.2.2 T.2.2.2 0 T.1 R.1 x = _
  unfold va_cpy
  rw [if_neg (by omega)]
theorem ntA_g1 {x : Nat} (hx : x < R.1) : (ntA T R).2.2.2 (T.1 + x) = R.2.2.2 x := by
  show va_cpy R.2.2.2 T.2.2.2 0 T.1 R.1 (T.1 + x) = _
  unfold va_cpy
  rw [if_pos (by omega), show 0 + (T.1 + x - T.1) = x by omega]
theorem pm1_A (hT : pm1 T) (hR : pm1 R) : pm1 (ntA T R) := fun x hx => by
  have hx : x < T.1 + R.1 := hx
  by_cases e : x < T.1
  · rw [ntA_g0 e]
    exact hT x e
  · obtain ⟨j, rfl⟩ : ∃ j, x = T.1 + j := ⟨x - T.1, by omega⟩
    rw [ntA_g1 (show j < R.1 by omega)]
    exact hR j (by omega)
theorem pl_app (hT : nv T) (hR : nv R) (h12 : T.1 + R.1 ≤ 12) (hp : nt_plane T = true) (hq : nt_plane R = true) : nt_plane (ntA T R) = true := by
  obtain ⟨a1, -, -, -, -⟩ := ntA_ok hT hR h12
  rw [plane_iff a1 h12]
  refine un_sup (c := T.1 + R.1) (ψA := fun v => v) (ψB := fun v => 2 * T.1 + v) a1 hT.1 hR.1 (fun v hv => ⟨show v < 2 * (T.1 + R.1) by omega, ntA_lo _ _ hv, rfl, ?_⟩) (fun v hv => ⟨show 2 * T.1 + v < 2 * (T.1 + R.1) by omega, ntA_hi _ _ hv, ?_, ?_⟩) ⟨rfl, fun u v _ _ e => e, fun u v _ _ e => Nat.add_left_cancel e, fun u v hu _ e => by have e : u = 2 * T.1 + v := e; omega⟩ ((plane_iff hT.1 hT.2.1).mp hp) ((plane_iff hR.1 hR.2.1).mp hq)
  · show stG (ntA T R).2.2.2 v = stG T.2.2.2 v
    unfold stG
    rw [ntA_g0 (show v / 2 < T.1 by omega)]
  · show mt (2 * T.1 + v) = 2 * T.1 + mt v
    unfold mt
    split <;> split <;> omega
  · show stG (ntA T R).2.2.2 (2 * T.1 + v) = stG R.2.2.2 v
    unfold stG
    rw [show (2 * T.1 + v) / 2 = T.1 + v / 2 by omega, show (2 * T.1 + v) % 2 = v % 2 by omega, ntA_g1 (show v / 2 < R.1 by omega)]
theorem cirs_app2 (A B : rn_L) : cirs (A ++ B) = cirs A + cirs B := by
  unfold cirs
  rw [List.countP_append]
theorem iso_app (h : isoV A sg f T) (h' : isoV B sg' f' R) (hv : vn (ntA T R).1 (ntA T R).2.2.1) (h12 : T.1 + R.1 ≤ 12) (hA : ∀ p, p ∈ A.flatten → p.1 < k) (hB : ∀ p, p ∈ B.flatten → p.1 + k < 40) : isoV (A ++ shN k B) (fun x => if x < k then sg x else sg' (x - k)) (fun x => if x < k then f x else T.1 + f' (x - k)) (ntA T R) := by
  have fl : (A ++ shN k B).flatten = A.flatten ++ B.flatten.map (shv k) := by
    rw [List.flatten_append, shN_fl]
    rfl
  have glA : ∀ p, p ∈ A.flatten → gl (fun x => if x < k then f x else T.1 + f' (x - k)) p = gl f p := fun p hp => by
    show 2 * (if p.1 < k then f p.1 else T.1 + f' (p.1 - k)) + p.2 = 2 * f p.1 + p.2
    rw [if_pos (hA p hp)]
  have glB : ∀ q : vT, gl (fun x => if x < k then f x else T.1 + f' (x - k)) (shv k q) = 2 * T.1 + gl f' q := fun q => by
    show 2 * (if q.1 + k < k then f (q.1 + k) else T.1 + f' (q.1 + k - k)) + q.2 = 2 * T.1 + (2 * f' q.1 + q.2)
    rw [if_neg (by omega), Nat.add_sub_cancel]
    omega
  refine isoV_of (isoS_iff.mp ⟨?_, ?_, h12, ?_, ?_, ?_, ?_, ?_⟩) hv
  · rw [fl]
    refine ⟨List.nodup_append.mpr ⟨h.1.1.1, nodup_map h'.1.1.1 (fun p q _ _ e => ?_), fun p hp q hq e => ?_⟩, fun p hp => ?_⟩
    · unfold shv at e
      have e1 := congrArg Prod.fst e
      have e2 := congrArg Prod.snd e
      dsimp only at e1 e2
      exact Prod.ext (by omega) e2
    · obtain ⟨q0, -, rfl⟩ := List.mem_map.mp hq
      have := hA p hp
      rw [e] at this
      have this : q0.1 + k < k := this
      omega
    · rcases List.mem_append.mp hp with hp | hp
      · obtain ⟨a1, a2, a3⟩ := h.1.1.2 p hp
        exact ⟨a1, a2, List.mem_append_left _ a3⟩
      · obtain ⟨q, q1, rfl⟩ := List.mem_map.mp hp
        obtain ⟨a1, a2, a3⟩ := h'.1.1.2 q q1
        exact ⟨hB q q1, a2, List.mem_append_right _ (List.mem_map.mpr ⟨_, a3, rfl⟩)⟩
  · rw [fl, List.length_append, List.length_map, h.1.2.1, h'.1.2.1]
    show 2 * T.1 + 2 * R.1 = 2 * (T.1 + R.1)
    omega
  · intro p hp
    rw [fl] at hp
    show (if p.1 < k then f p.1 else T.1 + f' (p.1 - k)) < T.1 + R.1
    rcases List.mem_append.mp hp with hp | hp
    · rw [if_pos (hA p hp)]
      have := h.1.2.2.2.1 p hp
      omega
    · obtain ⟨q, q1, rfl⟩ := List.mem_map.mp hp
      show (if q.1 + k < k then _ else T.1 + f' (q.1 + k - k)) < _
      rw [if_neg (by omega), Nat.add_sub_cancel]
      have := h'.1.2.2.2.1 q q1
      omega
  · intro p q hp hq e
    rw [fl] at hp hq
    have e : (if p.1 < k then f p.1 else T.1 + f' (p.1 - k)) = (if q.1 < k then f q.1 else T.1 + f' (q.1 - k)) := e
    rcases List.mem_append.mp hp with hp | hp
    · have b1 := h.1.2.2.2.1 p hp
      rw [if_pos (hA p hp)] at e
      rcases List.mem_append.mp hq with hq | hq
      · rw [if_pos (hA q hq)] at e
        exact h.1.2.2.2.2.1 p q hp hq e
      · obtain ⟨q0, q1, rfl⟩ := List.mem_map.mp hq
        rw [if_neg (show ¬ (shv k q0).1 < k by show ¬ q0.1 + k < k; omega)] at e
        omega
    · obtain ⟨p0, p1, rfl⟩ := List.mem_map.mp hp
      have e : (if p0.1 + k < k then f (p0.1 + k) else T.1 + f' (p0.1 + k - k)) = _ := e
      rw [if_neg (by omega), Nat.add_sub_cancel] at e
      rcases List.mem_append.mp hq with hq | hq
      · have b1 := h.1.2.2.2.1 q hq
        rw [if_pos (hA q hq)] at e
        omega
      · obtain ⟨q0, q1, rfl⟩ := List.mem_map.mp hq
        have e : T.1 + f' p0.1 = (if q0.1 + k < k then f (q0.1 + k) else T.1 + f' (q0.1 + k - k)) := e
        rw [if_neg (by omega), Nat.add_sub_cancel] at e
        show p0.1 + k = q0.1 + k
        rw [h'.1.2.2.2.2.1 p0 q0 p1 q1 (by omega)]
  · intro L hL p hp
    rcases List.mem_append.mp hL with hL | hL
    · have pF : p ∈ A.flatten := List.mem_flatten.mpr ⟨L, hL, hp⟩
      have sF : sc L p ∈ A.flatten := List.mem_flatten.mpr ⟨L, hL, sc_in hp (L_nd h.1.1.1 hL)⟩
      rw [glA p pF, glA _ sF, ← (h.2 L hL p hp).1]
      exact ntA_lo _ _ (gl_lt h pF)
    · obtain ⟨L0, l1, rfl⟩ := List.mem_map.mp hL
      obtain ⟨q, q1, rfl⟩ := List.mem_map.mp hp
      have nL := L_nd h'.1.1.1 l1
      have qF : q ∈ B.flatten := List.mem_flatten.mpr ⟨L0, l1, q1⟩
      have es : sc (L0.map (fun p => (p.1 + k, p.2))) (q.1 + k, q.2) = shv k (sc L0 q) := sc_map (s := shv k) nL (fun a b _ _ e => by
        have e1 := congrArg Prod.fst e
        have e2 := congrArg Prod.snd e
        have e1 : a.1 + k = b.1 + k := e1
        exact Prod.ext (by omega) e2) q1
      rw [es, glB, show gl (fun x => if x < k then f x else T.1 + f' (x - k)) (q.1 + k, q.2) = 2 * T.1 + gl f' q from glB q, ← (h'.2 L0 l1 q q1).1]
      exact ntA_hi _ _ (gl_lt h' qF)
  · intro p hp
    rw [fl] at hp
    show (ntA T R).2.2.2 (if p.1 < k then f p.1 else T.1 + f' (p.1 - k)) < 0 ↔ (if p.1 < k then sg p.1 else sg' (p.1 - k)) = true
    rcases List.mem_append.mp hp with hp | hp
    · rw [if_pos (hA p hp), if_pos (hA p hp), ntA_g0 (h.1.2.2.2.1 p hp)]
      exact h.1.2.2.2.2.2.2.1 p hp
    · obtain ⟨q, q1, rfl⟩ := List.mem_map.mp hp
      show (ntA T R).2.2.2 (if q.1 + k < k then f (q.1 + k) else T.1 + f' (q.1 + k - k)) < 0 ↔ (if q.1 + k < k then sg (q.1 + k) else sg' (q.1 + k - k)) = true
      rw [if_neg (by omega), if_neg (by omega), Nat.add_sub_cancel, ntA_g1 (h'.1.2.2.2.1 q q1)]
      exact h'.1.2.2.2.2.2.2.1 q q1
  · have hc : cirs (shN k B) = cirs B := cirs_map (g := fun p => (p.1 + k, p.2)) B
    rw [cirs_app2, hc, h.1.2.2.2.2.2.2.2, h'.1.2.2.2.2.2.2.2]
    rfl
end IAP
