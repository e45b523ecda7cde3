/-! a list can be parted where its part of the net can -/
section XST
variable {A : rn_L} {sg : Nat → Bool} {σ : Nat → Bool} {f : Nat → Nat} {T : ow_NT} {c g k : Nat}
theorem wfW_el {p : vT} (h : p ∈ (wfW A σ A.length).flatten) : ∃ j, j < A.flatten.length ∧ σ j = true ∧ vAt A j = p := by
  unfold wfW at h
  rw [fl_map] at h
  obtain ⟨j, hj, e⟩ := List.mem_map.mp h
  have := (wfI_m _).mp hj
  rw [rn_b_len] at this
  exact ⟨j, this.1, this.2, e⟩
theorem wfW_le {j : Nat} (h1 : j < A.flatten.length) (h2 : σ j = true) : vAt A j ∈ (wfW A σ A.length).flatten := by
  unfold wfW
  rw [fl_map]
  exact List.mem_map.mpr ⟨j, (wfI_m _).mpr ⟨by rw [rn_b_len]; exact h1, h2⟩, rfl⟩
/-- what the two pieces are -/
def prS (A : rn_L) (c g k : Nat) (σ : Nat → Bool) : Prop := ((∀ v, rn_b A c ≤ v → v < rn_b A (c + 1) → (σ v = true ↔ g < v ∧ v ≤ k)) ∨ ∀ v, rn_b A c ≤ v → v < rn_b A (c + 1) → (σ v = true ↔ ¬ (g < v ∧ v ≤ k))) ∧ (∀ a b, a < A.flatten.length → b < A.flatten.length → rn_c A a = rn_c A b → rn_c A a ≠ c → σ a = σ b) ∧ ∀ v, v < A.flatten.length → σ v = true → σ (mtf A v) = true
theorem prS_not (h : prS A c g k σ) (hd : rn_ok A.flatten) : prS A c g k (fun v => !σ v) := by
  obtain ⟨h1, h2, h3⟩ := h
  have key : ∀ {b : Bool} {P : Prop}, (b = true ↔ P) → ((!b) = true ↔ ¬ P) := fun {b P} h => by
    rw [← h]
    cases b <;> decide
  refine ⟨?_, fun a b ha hb e1 e2 => congrArg (fun b => !b) (h2 a b ha hb e1 e2), fun v hv e => ?_⟩
  · rcases h1 with h1 | h1
    · exact Or.inr (fun v a b => key (h1 v a b))
    · refine Or.inl (fun v a b => (key (h1 v a b)).trans ?_)
      omega
  · have e : (!σ v) = true := e
    show (!σ (mtf A v)) = true
    cases e9 : σ (mtf A v) with
    | false => rfl
    | true =>
      have := h3 _ (mtf_lt hd hv) e9
      rw [mtf_mtf hd hv] at this
      rw [this] at e
      exact e
theorem em_prt (h : emN A sg f T) (hc : c < A.length) (hg1 : rn_b A c ≤ g) (hgh : g < k) (hh : k < rn_b A (c + 1)) (hs : prS A c g k σ) : emN (wfW A σ A.length) sg f (ntS T (np_exchange T.2.2.1 (lbv A f g) (lbv A f k))) := by
  obtain ⟨t1, t2, t3, t4⟩ := em_to h
  have sub : ∀ p, p ∈ (wfW A σ A.length).flatten → p ∈ A.flatten := fun p hp => by
    obtain ⟨j, j1, _, rfl⟩ := wfW_el hp
    exact vAt_mem j1
  refine em_of (wfW_wk h.1 hs.2.2) ?_ h.2.2.1 (fun p hp => t1 p (sub p hp)) (fun p q hp hq => t2 p q (sub p hp) (sub q hq)) (shw_prt h hc hg1 hgh hh hs.1 hs.2.1) (fun p hp => t4 p (sub p hp))
  have := wf_len (A := A) (σ := σ) (c := A.length) (i := A.flatten.length) (by rw [rn_b_len]; exact Nat.le_refl _)
  have h2 := h.2.1
  show (wfW A σ A.length).flatten.length ≤ 2 * T.1
  unfold wfW
  rw [fl_map, List.length_map]
  omega
theorem em_nx (h : emN A sg f T) {r v : Nat} (h1 : rn_b A r ≤ v) (h2 : v + 1 < rn_b A (r + 1)) : T.2.2.1.1 (lbv A f v) = lbv A f (v + 1) := by
  have hle := rn_b_le A (r + 1)
  rw [h.2.2.2.2.2.1 v (by omega)]
  unfold rn_nx
  rw [rn_c_of A r v h1 (by omega), if_pos h2]
theorem em_it (h : emN A sg f T) {r v : Nat} (h1 : rn_b A r ≤ v) : ∀ i, v + i < rn_b A (r + 1) → it T.2.2.1.1 i (lbv A f v) = lbv A f (v + i)
  | 0, _ => rfl
  | i + 1, hi => by
    show T.2.2.1.1 (it T.2.2.1.1 i (lbv A f v)) = _
    rw [em_it h h1 i (by omega), em_nx h (r := r) (by omega) (by omega)]
    rfl
/-- chosen visits go to chosen visits -/
theorem prt_go (h : emN A sg f T) (hc : c < A.length) (hg1 : rn_b A c ≤ g) (hgh : g < k) (hh : k < rn_b A (c + 1)) (hs : prS A c g k σ) {v : Nat} (hv : v < A.flatten.length) (e : σ v = true) : ∃ j, j < A.flatten.length ∧ σ j = true ∧ exN T.2.2.1.1 (lbv A f g) (lbv A f k) (lbv A f v) = lbv A f j := by
  obtain ⟨L, hL, hp⟩ := List.mem_flatten.mp (wfW_le hv e)
  have hnd : L.Nodup := L_nd (wfW_wk h.1 hs.2.2).1 hL
  obtain ⟨j, j1, j2, j3⟩ := wfW_el (List.mem_flatten.mpr ⟨L, hL, sc_in hp hnd⟩)
  refine ⟨j, j1, j2, ?_⟩
  have := shw_prt h hc hg1 hgh hh hs.1 hs.2.1 L hL _ hp
  rw [← j3] at this
  exact this
theorem pr_of (h : emN A sg f T) (hv : vn T.1 T.2.2.1) (hc : c < A.length) (hg1 : rn_b A c ≤ g) (hgh : g < k) (hh : k < rn_b A (c + 1)) (hs : prS A c g k σ) : prN T.1 T.2.2.1.1 (lbv A f g) (lbv A f k) := by
  have hle := rn_b_le A (c + 1)
  have gl' : g < A.flatten.length := by omega
  have kl : k < A.flatten.length := by omega
  have hd := wkF_ok h.1
  refine ⟨em_lt h gl', em_lt h kl, fun e => ?_, ⟨k - g, ?_⟩, fun p => ?_⟩
  · have := em_inj h gl' kl e
    omega
  · rw [em_it h hg1 (k - g) (by omega), show g + (k - g) = k by omega]
  · have hdec : DecidablePred (fun j => ∃ v, v < A.flatten.length ∧ σ v = true ∧ lbv A f v = j) := fun j => Classical.propDecidable _
    have hs' := prS_not hs hd
    have key := p (fun j => if ∃ v, v < A.flatten.length ∧ σ v = true ∧ lbv A f v = j then 1 else 0) (fun j hj => ?_)
    · have iff9 : ∀ v, v < A.flatten.length → ((∃ u, u < A.flatten.length ∧ σ u = true ∧ lbv A f u = lbv A f v) ↔ σ v = true) := fun v hv => ⟨fun ⟨u, u1, u2, u3⟩ => by rw [← em_inj h u1 hv u3]; exact u2, fun e => ⟨v, hv, e, rfl⟩⟩
      have dif : σ g ≠ σ k := fun e => by
        rcases hs.1 with h1 | h1
        · have a1 := h1 g hg1 (by omega)
          have a2 := (h1 k (by omega) hh).mpr ⟨hgh, Nat.le_refl _⟩
          have := a1.mp (e.trans a2)
          omega
        · have a1 := (h1 g hg1 (by omega)).mpr (by omega)
          have a2 := (h1 k (by omega) hh).mp (e.symm.trans a1)
          omega
      by_cases eg : σ g = true
      · rw [if_pos ((iff9 g gl').mpr eg)] at key
        by_cases ek : σ k = true
        · exact dif (eg.trans ek.symm)
        · rw [if_neg (fun h9 => ek ((iff9 k kl).mp h9))] at key
          exact absurd key (by decide)
      · rw [if_neg (fun h9 => eg ((iff9 g gl').mp h9))] at key
        by_cases ek : σ k = true
        · rw [if_pos ((iff9 k kl).mpr ek)] at key
          exact absurd key (by decide)
        · exact dif (by rw [Bool.eq_false_iff.mpr eg, Bool.eq_false_iff.mpr ek])
    · have eqv : ∀ {P Q : Prop} [Decidable P] [Decidable Q], (P ↔ Q) → (if P then (1 : Nat) else 0) = if Q then 1 else 0 := fun {P Q} _ _ h => by
        by_cases hp : P
        · rw [if_pos hp, if_pos (h.mp hp)]
        · rw [if_neg hp, if_neg (fun q => hp (h.mpr q))]
      refine ⟨eqv ⟨?_, ?_⟩, eqv ⟨?_, ?_⟩⟩
      · rintro ⟨v, v1, v2, v3⟩
        refine Classical.byContradiction (fun h9 => ?_)
        by_cases hin : ∃ u, u < A.flatten.length ∧ lbv A f u = j
        · obtain ⟨u, u1, u2⟩ := hin
          have hu : (!σ u) = true := by
            cases e : σ u with
            | false => rfl
            | true => exact absurd ⟨u, u1, e, u2⟩ h9
          obtain ⟨i, i1, i2, i3⟩ := prt_go h hc hg1 hgh hh hs' u1 hu
          rw [u2, ← v3] at i3
          rw [← em_inj h v1 i1 i3, v2] at i2
          exact absurd i2 (by decide)
        · have n1 : j ≠ lbv A f g := fun e => hin ⟨g, gl', e.symm⟩
          have n2 : j ≠ lbv A f k := fun e => hin ⟨k, kl, e.symm⟩
          rw [exN_o n1 n2, ← nx_pv v1, ← h.2.2.2.2.2.1 _ (rn_pv_lt v1)] at v3
          exact hin ⟨rn_pv A v, rn_pv_lt v1, (bj_vn hv).2 _ _ (em_lt h (rn_pv_lt v1)) hj v3⟩
      · rintro ⟨v, v1, v2, v3⟩
        obtain ⟨i, i1, i2, i3⟩ := prt_go h hc hg1 hgh hh hs v1 v2
        rw [v3] at i3
        exact ⟨i, i1, i2, i3.symm⟩
      · rintro ⟨v, v1, v2, v3⟩
        obtain ⟨m1, m2, m3, m4⟩ := em_mt h v1
        refine ⟨mtf A v, m1, hs.2.2 v v1 v2, ?_⟩
        rw [m3, v3]
        exact mt_mt j
      · rintro ⟨v, v1, v2, v3⟩
        obtain ⟨m1, m2, m3, m4⟩ := em_mt h v1
        exact ⟨mtf A v, m1, hs.2.2 v v1 v2, by rw [m3, v3]⟩
theorem pr_no (h : emN A sg f T) (hc : c < A.length) (hg1 : rn_b A c ≤ g) (hgh : g < k) (hh : k < rn_b A (c + 1)) (hz : ∀ M, gdM A c g k M → ∃ u, u < A.flatten.length ∧ rn_c A u = c ∧ ¬ (g < u ∧ u ≤ k) ∧ M u = M k) : ¬ prN T.1 T.2.2.1.1 (lbv A f g) (lbv A f k) := by
  intro hp
  have hle := rn_b_le A (c + 1)
  have gl' : g < A.flatten.length := by omega
  have kl : k < A.flatten.length := by omega
  obtain ⟨m, hm, hd⟩ := sepE hp.2.2.2.2
  have go : ∀ v, v < A.flatten.length → v ≠ g → v ≠ k → m (lbv A f (rn_nx A v)) = m (lbv A f v) := fun v hv n1 n2 => by
    have := (hm _ (em_lt h hv)).1
    rw [exN_o (fun e => n1 (em_inj h hv gl' e)) (fun e => n2 (em_inj h hv kl e)), h.2.2.2.2.2.1 v hv] at this
    exact this
  have ch : ∀ (r a d : Nat), rn_b A r ≤ a → a + d < rn_b A (r + 1) → (∀ v, a ≤ v → v < a + d → v ≠ g ∧ v ≠ k) → m (lbv A f (a + d)) = m (lbv A f a) := by
    intro r a d
    induction d with
    | zero => exact fun _ _ _ => rfl
    | succ d ih =>
      intro h1 h2 h3
      have hl2 := rn_b_le A (r + 1)
      have := go (a + d) (by omega) (h3 _ (by omega) (by omega)).1 (h3 _ (by omega) (by omega)).2
      unfold rn_nx at this
      rw [rn_c_of A r (a + d) (by omega) (by omega), if_pos (by omega)] at this
      exact this.trans (ih h1 (by omega) (fun v v1 v2 => h3 v v1 (by omega)))
  have cg : rn_c A g = c := rn_c_of A c g hg1 (by omega)
  have ck : rn_c A k = c := rn_c_of A c k (by omega) hh
  obtain ⟨u, u1, u2, u3, u4⟩ := hz (fun v => m (lbv A f v)) ⟨fun v hv => by
    show m (lbv A f (mtf A v)) = m (lbv A f v)
    rw [(em_mt h hv).2.2.1]
    exact (hm _ (em_lt h hv)).2, fun a b ha hb e1 e2 => by
    have base : ∀ a, a < A.flatten.length → rn_c A a ≠ c → m (lbv A f a) = m (lbv A f (rn_b A (rn_c A a))) := fun a ha hn => by
      obtain ⟨q1, q2, q3⟩ := rn_c_in A a ha
      have := ch (rn_c A a) (rn_b A (rn_c A a)) (a - rn_b A (rn_c A a)) (Nat.le_refl _) (by omega) (fun v v1 v2 => by
        have e9 : rn_c A v = rn_c A a := rn_c_of A _ v v1 (by omega)
        exact ⟨fun e => hn (by rw [← e9, e, cg]), fun e => hn (by rw [← e9, e, ck])⟩)
      rw [show rn_b A (rn_c A a) + (a - rn_b A (rn_c A a)) = a by omega] at this
      exact this
    show m (lbv A f a) = m (lbv A f b)
    rw [base a ha e2, base b hb (by rw [← e1]; exact e2), e1], fun v v1 v2 => by
    have := ch c v (k - v) (by omega) (by omega) (fun x x1 x2 => by omega)
    rw [show v + (k - v) = k by omega] at this
    exact this.symm⟩
  refine hd ?_
  have u4 : m (lbv A f u) = m (lbv A f k) := u4
  rw [← u4]
  obtain ⟨q1, q2, q3⟩ := rn_c_in A u u1
  rw [u2] at q1 q2 q3
  rcases Nat.lt_or_ge k u with q | q
  · have e1 := ch c u (rn_b A (c + 1) - 1 - u) q2 (by omega) (fun x x1 x2 => by omega)
    rw [show u + (rn_b A (c + 1) - 1 - u) = rn_b A (c + 1) - 1 by omega] at e1
    have e2 := go (rn_b A (c + 1) - 1) (by omega) (by omega) (by omega)
    unfold rn_nx at e2
    rw [rn_c_of A c (rn_b A (c + 1) - 1) (by omega) (by omega), if_neg (by omega)] at e2
    have e3 := ch c (rn_b A c) (g - rn_b A c) (Nat.le_refl _) (by omega) (fun x x1 x2 => by omega)
    rw [show rn_b A c + (g - rn_b A c) = g by omega] at e3
    rw [e3, e2, e1]
  · have e1 := ch c u (g - u) q2 (by omega) (fun x x1 x2 => by omega)
    rw [show u + (g - u) = g by omega] at e1
    exact e1
end XST
