/-! the rows that wait and the rows that are done show a net parted so far -/
def ptT : Type := rn_L × (Nat → Bool) × (Nat → Nat)
def rowO (T : ow_NT) (d : ptT) : Prop := emN d.1 d.2.1 d.2.2 T ∧ cnA d.1 d.2.2 T ∧ lsA9 d.1 d.2.1 ∧ (∃ c, okF d.1.flatten c ∧ c ≤ 12) ∧ d.1.length ≤ 6
def inD (d : ptT) (j : Nat) : Prop := ∃ v, v < d.1.flatten.length ∧ lbv d.1 d.2.2 v = j
def prtD (T : ow_NT) (D : List ptT) : Prop := (∀ d, d ∈ D → rowO T d) ∧ (∀ j, j < 2 * T.1 → ∃ d, d ∈ D ∧ inD d j) ∧ D.Pairwise (fun d d' => ∀ j, inD d j → ¬ inD d' j)
/-- no ring can be parted -/
def irA (A : rn_L) : Prop := ∀ c g k, c < A.length → rn_b A c ≤ g → g < k → k < rn_b A (c + 1) → ∀ M, gdM A c g k M → ∃ u, u < A.flatten.length ∧ rn_c A u = c ∧ ¬ (g < u ∧ u ≤ k) ∧ M u = M k
section XSX
variable {A : rn_L} {sg : Nat → Bool} {σ : Nat → Bool} {f : Nat → Nat} {T : ow_NT} {c g k : Nat} {d d1 d2 : ptT} {D : List ptT}
theorem prtD_perm {D' : List ptT} (h : prtD T D) (hp : D.Perm D') : prtD T D' := ⟨fun d hd => h.1 d (hp.mem_iff.mpr hd), fun j hj => by
  obtain ⟨d, d1, d2⟩ := h.2.1 j hj
  exact ⟨d, hp.mem_iff.mp d1, d2⟩, (hp.pairwise_iff (fun {a b} h9 j hb ha => h9 j ha hb)).mp h.2.2⟩
theorem sel_lb (h : emN A sg f T) (hv : vn T.1 T.2.2.1) (hc : c < A.length) (hg1 : rn_b A c ≤ g) (hgh : g < k) (hh : k < rn_b A (c + 1)) (hs : prS A c g k σ) : ∃ q, lbN T.1 (exN T.2.2.1.1 (lbv A f g) (lbv A f k)) q ∧ ∀ v, v < A.flatten.length → q (lbv A f v) = if σ v then 1 else 0 := by
  have hle := rn_b_le A (c + 1)
  have gl' : g < A.flatten.length := by omega
  have kl : k < A.flatten.length := by omega
  have hd := wkF_ok h.1
  have hs' := prS_not hs hd
  have hdec : DecidablePred (fun j => ∃ v, v < A.flatten.length ∧ σ v = true ∧ lbv A f v = j) := fun j => Classical.propDecidable _
  have eqv : ∀ {P Q : Prop} [Decidable P] [Decidable Q], (P ↔ Q) → (if P then (1 : Nat) else 0) = if Q then 1 else 0 := fun {P Q} _ _ h => by
    by_cases hp : P
    · rw [if_pos hp, if_pos (h.mp hp)]
    · rw [if_neg hp, if_neg (fun q => hp (h.mpr q))]
  refine ⟨fun j => if ∃ v, v < A.flatten.length ∧ σ v = true ∧ lbv A f v = j then 1 else 0, fun j hj => ⟨eqv ⟨?_, ?_⟩, eqv ⟨?_, ?_⟩⟩, fun v hv => eqv ⟨fun ⟨u, u1, u2, u3⟩ => by rw [← em_inj h u1 hv u3]; exact u2, fun e => ⟨v, hv, e, rfl⟩⟩⟩
  · rintro ⟨v, v1, v2, v3⟩
    refine Classical.byContradiction (fun h9 => ?_)
    by_cases hin : ∃ u, u < A.flatten.length ∧ lbv A f u = j
    · obtain ⟨u, u1, u2⟩ := hin
      have hu : (!σ u) = true := by
        cases e : σ u with
        | false => rfl
        | true => exact absurd ⟨u, u1, e, u2⟩ h9
      obtain ⟨i, i1, i2, i3⟩ := prt_go h hc hg1 hgh hh hs' u1 hu
      rw [u2, ← v3] at i3
      rw [← em_inj h v1 i1 i3, v2] at i2
      exact absurd i2 (by decide)
    · have n1 : j ≠ lbv A f g := fun e => hin ⟨g, gl', e.symm⟩
      have n2 : j ≠ lbv A f k := fun e => hin ⟨k, kl, e.symm⟩
      rw [exN_o n1 n2, ← nx_pv v1, ← h.2.2.2.2.2.1 _ (rn_pv_lt v1)] at v3
      exact hin ⟨rn_pv A v, rn_pv_lt v1, (bj_vn hv).2 _ _ (em_lt h (rn_pv_lt v1)) hj v3⟩
  · rintro ⟨v, v1, v2, v3⟩
    obtain ⟨i, i1, i2, i3⟩ := prt_go h hc hg1 hgh hh hs v1 v2
    rw [v3] at i3
    exact ⟨i, i1, i2, i3.symm⟩
  · rintro ⟨v, v1, v2, v3⟩
    obtain ⟨m1, m2, m3, m4⟩ := em_mt h v1
    refine ⟨mtf A v, m1, hs.2.2 v v1 v2, ?_⟩
    rw [m3, v3]
    exact mt_mt j
  · rintro ⟨v, v1, v2, v3⟩
    obtain ⟨m1, m2, m3, m4⟩ := em_mt h v1
    exact ⟨mtf A v, m1, hs.2.2 v v1 v2, by rw [m3, v3]⟩
/-- each piece is one part -/
theorem cn_prt (h : emN A sg f T) (hv : vn T.1 T.2.2.1) (hcn : cnA A f T) (hc : c < A.length) (hg1 : rn_b A c ≤ g) (hgh : g < k) (hh : k < rn_b A (c + 1)) (hs : prS A c g k σ) {u v : Nat} (hu : u < A.flatten.length) (hv9 : v < A.flatten.length) (e : σ u = σ v) : ptN T.1 (exN T.2.2.1.1 (lbv A f g) (lbv A f k)) (lbv A f u) (lbv A f v) := by
  intro m hm
  have hle := rn_b_le A (c + 1)
  have gl' : g < A.flatten.length := by omega
  have kl : k < A.flatten.length := by omega
  obtain ⟨q, q1, q2⟩ := sel_lb h hv hc hg1 hgh hh hs
  have gv := em_lt h gl'
  have kv := em_lt h kl
  have ngk : lbv A f g ≠ lbv A f k := fun e9 => by
    have := em_inj h gl' kl e9
    omega
  have two : ∀ w, w < A.flatten.length → (m (lbv A f w) = m (lbv A f g) ∧ q (lbv A f w) = q (lbv A f g)) ∨ (m (lbv A f w) = m (lbv A f k) ∧ q (lbv A f w) = q (lbv A f k)) := fun w hw => by
    have key := hcn.2 g w gl' hw (fun j => if (m j = m (lbv A f g) ∧ q j = q (lbv A f g)) ∨ (m j = m (lbv A f k) ∧ q j = q (lbv A f k)) then 1 else 0) (fun j hj => ?_)
    · rw [if_pos (Or.inl ⟨rfl, rfl⟩)] at key
      refine Classical.byContradiction (fun h9 => ?_)
      rw [if_neg h9] at key
      exact absurd key (by decide)
    · rw [(hm j hj).2, (q1 j hj).2]
      refine ⟨?_, rfl⟩
      by_cases e1 : j = lbv A f g
      · have a1 := hm _ kv
        have a2 := q1 _ kv
        rw [exN_w] at a1 a2
        rw [e1, a1.1, a2.1, if_pos (Or.inr ⟨rfl, rfl⟩), if_pos (Or.inl ⟨rfl, rfl⟩)]
      · by_cases e2 : j = lbv A f k
        · have a1 := hm _ gv
          have a2 := q1 _ gv
          rw [exN_v ngk] at a1 a2
          rw [e2, a1.1, a2.1, if_pos (Or.inl ⟨rfl, rfl⟩), if_pos (Or.inr ⟨rfl, rfl⟩)]
        · have a1 := (hm j hj).1
          have a2 := (q1 j hj).1
          rw [exN_o e1 e2] at a1 a2
          rw [a1, a2]
  have dif : σ g ≠ σ k := fun e => by
    rcases hs.1 with h1 | h1
    · have a1 := h1 g hg1 (by omega)
      have a2 := (h1 k (by omega) hh).mpr ⟨hgh, Nat.le_refl _⟩
      have := a1.mp (e.trans a2)
      omega
    · have a1 := (h1 g hg1 (by omega)).mpr (by omega)
      have a2 := (h1 k (by omega) hh).mp (e.symm.trans a1)
      omega
  have qe : ∀ a b, a < A.flatten.length → b < A.flatten.length → q (lbv A f a) = q (lbv A f b) → σ a = σ b := fun a b ha hb e9 => by
    rw [q2 a ha, q2 b hb] at e9
    revert e9
    cases σ a <;> cases σ b <;> decide
  rcases two u hu with a | a <;> rcases two v hv9 with b | b
  · rw [a.1, b.1]
  · exact absurd ((qe u g hu gl' a.2).symm.trans (e.trans (qe v k hv9 kl b.2))) dif
  · exact absurd ((qe v g hv9 gl' b.2).symm.trans (e.symm.trans (qe u k hu kl a.2))) dif
  · rw [a.1, b.1]
/-- a row that has nothing of an exchange stays -/
theorem row_keep (h : rowO T d) (hv : vn T.1 T.2.2.1) {x y : Nat} (hx : ¬ inD d x) (hy : ¬ inD d y) : rowO (ntS T (np_exchange T.2.2.1 x y)) d := by
  obtain ⟨h1, h2, h3⟩ := h
  have off : ∀ v, v < d.1.flatten.length → exN T.2.2.1.1 x y (lbv d.1 d.2.2 v) = T.2.2.1.1 (lbv d.1 d.2.2 v) := fun v hv => exN_o (fun e => hx ⟨v, hv, e⟩) (fun e => hy ⟨v, hv, e⟩)
  refine ⟨⟨h1.1, h1.2.1, h1.2.2.1, h1.2.2.2.1, h1.2.2.2.2.1, fun v hv => (off v hv).trans (h1.2.2.2.2.2.1 v hv), h1.2.2.2.2.2.2⟩, ⟨h2.1, fun u v hu hv9 m hm => ?_⟩, h3⟩
  have hm : lbN T.1 (exN T.2.2.1.1 x y) m := hm
  obtain ⟨w, w1, w2, w3⟩ := em_lab h1 hv (q := fun v => m (lbv d.1 d.2.2 v)) (fun v hv => by
    have := (hm _ (em_lt h1 hv)).1
    have this : m (exN T.2.2.1.1 x y (lbv d.1 d.2.2 v)) = m (lbv d.1 d.2.2 v) := this
    rw [off v hv, h1.2.2.2.2.2.1 v hv] at this
    exact this) (fun v hv => by
    show m (lbv d.1 d.2.2 (mtf d.1 v)) = m (lbv d.1 d.2.2 v)
    rw [(em_mt h1 hv).2.2.1]
    exact (hm _ (em_lt h1 hv)).2) hu (h2.2 u v hu hv9)
  have w3 : m (lbv d.1 d.2.2 w) = m (lbv d.1 d.2.2 u) := w3
  rw [← w3, w2]
end XSX
