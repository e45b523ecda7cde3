section
/-! 99zzzzzzzzzzzzzb.xsu10 -/
/-! the rows that wait and the rows that are done show a net parted so far -/
def ptT : Type := rn_L × (Nat → Bool) × (Nat → Nat)
def rowO (T : ow_NT) (d : ptT) : Prop := emN d.1 d.2.1 d.2.2 T ∧ cnA d.1 d.2.2 T ∧ lsA9 d.1 d.2.1 ∧ (∃ c, okF d.1.flatten c ∧ c ≤ 12) ∧ d.1.length ≤ 6
def inD (d : ptT) (j : Nat) : Prop := ∃ v, v < d.1.flatten.length ∧ lbv d.1 d.2.2 v = j
def prtD (T : ow_NT) (D : List ptT) : Prop := (∀ d, d ∈ D → rowO T d) ∧ (∀ j, j < 2 * T.1 → ∃ d, d ∈ D ∧ inD d j) ∧ D.Pairwise (fun d d' => ∀ j, inD d j → ¬ inD d' j)
/-- no ring can be parted -/
def irA (A : rn_L) : Prop := ∀ c g k, c < A.length → rn_b A c ≤ g → g < k → k < rn_b A (c + 1) → ∀ M, gdM A c g k M → ∃ u, u < A.flatten.length ∧ rn_c A u = c ∧ ¬ (g < u ∧ u ≤ k) ∧ M u = M k
section XSX
variable {A : rn_L} {sg : Nat → Bool} {σ : Nat → Bool} {f : Nat → Nat} {T : ow_NT} {c g k : Nat} {d d1 d2 : ptT} {D : List ptT}
theorem prtD_perm {D' : List ptT} (h : prtD T D) (hp : D.Perm D') : prtD T D' := ⟨fun d hd => h.1 d (hp.mem_iff.mpr hd), fun j hj => by
  obtain ⟨d, d1, d2⟩ := h.2.1 j hj
  exact ⟨d, hp.mem_iff.mp d1, d2⟩, (hp.pairwise_iff (fun {a b} h9 j hb ha => h9 j ha hb)).mp h.2.2⟩
theorem sel_lb (h : emN A sg f T) (hv : vn T.1 T.2.2.1) (hc : c < A.length) (hg1 : rn_b A c ≤ g) (hgh : g < k) (hh : k < rn_b A (c + 1)) (hs : prS A c g k σ) : ∃ q, lbN T.1 (exN T.2.2.1.1 (lbv A f g) (lbv A f k)) q ∧ ∀ v, v < A.flatten.length → q (lbv A f v) = if σ v then 1 else 0 := by
  have hle := rn_b_le A (c + 1)
  have gl' : g < A.flatten.length := by omega
  have kl : k < A.flatten.length := by omega
  have hd := wkF_ok h.1
  have hs' := prS_not hs hd
  have hdec : DecidablePred (fun j => ∃ v, v < A.flatten.length ∧ σ v = true ∧ lbv A f v = j) := fun j => Classical.propDecidable _
  have eqv : ∀ {P Q : Prop} [Decidable P] [Decidable Q], (P ↔ Q) → (if P then (1 : Nat) else 0) = if Q then 1 else 0 := fun {P Q} _ _ h => by
    by_cases hp : P
    · rw [if_pos hp, if_pos (h.mp hp)]
    · rw [if_neg hp, if_neg (fun q => hp (h.mpr q))]
  refine ⟨fun j => if ∃ v, v < A.flatten.length ∧ σ v = true ∧ lbv A f v = j then 1 else 0, fun j hj => ⟨eqv ⟨?_, ?_⟩, eqv ⟨?_, ?_⟩⟩, fun v hv => eqv ⟨fun ⟨u, u1, u2, u3⟩ => by rw [← em_inj h u1 hv u3]; exact u2, fun e => ⟨v, hv, e, rfl⟩⟩⟩
  · rintro ⟨v, v1, v2, v3⟩
    refine Classical.byContradiction (fun h9 => ?_)
    by_cases hin : ∃ u, u < A.flatten.length ∧ lbv A f u = j
    · obtain ⟨u, u1, u2⟩ := hin
      have hu : (!σ u) = true := by
        cases e : σ u with
        | false => rfl
        | true => exact absurd ⟨u, u1, e, u2⟩ h9
      obtain ⟨i, i1, i2, i3⟩ := prt_go h hc hg1 hgh hh hs' u1 hu
      rw [u2, ← v3] at i3
      rw [← em_inj h v1 i1 i3, v2] at i2
      exact absurd i2 (by decide)
    · have n1 : j ≠ lbv A f g := fun e => hin ⟨g, gl', e.symm⟩
      have n2 : j ≠ lbv A f k := fun e => hin ⟨k, kl, e.symm⟩
      rw [exN_o n1 n2, ← nx_pv v1, ← h.2.2.2.2.2.1 _ (rn_pv_lt v1)] at v3
      exact hin ⟨rn_pv A v, rn_pv_lt v1, (bj_vn hv).2 _ _ (em_lt h (rn_pv_lt v1)) hj v3⟩
  · rintro ⟨v, v1, v2, v3⟩
    obtain ⟨i, i1, i2, i3⟩ := prt_go h hc hg1 hgh hh hs v1 v2
    rw [v3] at i3
    exact ⟨i, i1, i2, i3.symm⟩
  · rintro ⟨v, v1, v2, v3⟩
    obtain ⟨m1, m2, m3, m4⟩ := em_mt h v1
    refine ⟨mtf A v, m1, hs.2.2 v v1 v2, ?_⟩
    rw [m3, v3]
    exact mt_mt j
  · rintro ⟨v, v1, v2, v3⟩
    obtain ⟨m1, m2, m3, m4⟩ := em_mt h v1
    exact ⟨mtf A v, m1, hs.2.2 v v1 v2, by rw [m3, v3]⟩
/-- each piece is one part -/
theorem cn_prt (h : emN A sg f T) (hv : vn T.1 T.2.2.1) (hcn : cnA A f T) (hc : c < A.length) (hg1 : rn_b A c ≤ g) (hgh : g < k) (hh : k < rn_b A (c + 1)) (hs : prS A c g k σ) {u v : Nat} (hu : u < A.flatten.length) (hv9 : v < A.flatten.length) (e : σ u = σ v) : ptN T.1 (exN T.2.2.1.1 (lbv A f g) (lbv A f k)) (lbv A f u) (lbv A f v) := by
  intro m hm
  have hle := rn_b_le A (c + 1)
  have gl' : g < A.flatten.length := by omega
  have kl : k < A.flatten.length := by omega
  obtain ⟨q, q1, q2⟩ := sel_lb h hv hc hg1 hgh hh hs
  have gv := em_lt h gl'
  have kv := em_lt h kl
  have ngk : lbv A f g ≠ lbv A f k := fun e9 => by
    have := em_inj h gl' kl e9
    omega
  have two : ∀ w, w < A.flatten.length → (m (lbv A f w) = m (lbv A f g) ∧ q (lbv A f w) = q (lbv A f g)) ∨ (m (lbv A f w) = m (lbv A f k) ∧ q (lbv A f w) = q (lbv A f k)) := fun w hw => by
    have key := hcn.2 g w gl' hw (fun j => if (m j = m (lbv A f g) ∧ q j = q (lbv A f g)) ∨ (m j = m (lbv A f k) ∧ q j = q (lbv A f k)) then 1 else 0) (fun j hj => ?_)
    · rw [if_pos (Or.inl ⟨rfl, rfl⟩)] at key
      refine Classical.byContradiction (fun h9 => ?_)
      rw [if_neg h9] at key
      exact absurd key (by decide)
    · rw [(hm j hj).2, (q1 j hj).2]
      refine ⟨?_, rfl⟩
      by_cases e1 : j = lbv A f g
      · have a1 := hm _ kv
        have a2 := q1 _ kv
        rw [exN_w] at a1 a2
        rw [e1, a1.1, a2.1, if_pos (Or.inr ⟨rfl, rfl⟩), if_pos (Or.inl ⟨rfl, rfl⟩)]
      · by_cases e2 : j = lbv A f k
        · have a1 := hm _ gv
          have a2 := q1 _ gv
          rw [exN_v ngk] at a1 a2
          rw [e2, a1.1, a2.1, if_pos (Or.inl ⟨rfl, rfl⟩), if_pos (Or.inr ⟨rfl, rfl⟩)]
        · have a1 := (hm j hj).1
          have a2 := (q1 j hj).1
          rw [exN_o e1 e2] at a1 a2
          rw [a1, a2]
  have dif : σ g ≠ σ k := fun e => by
    rcases hs.1 with h1 | h1
    · have a1 := h1 g hg1 (by omega)
      have a2 := (h1 k (by omega) hh).mpr ⟨hgh, Nat.le_refl _⟩
      have := a1.mp (e.trans a2)
      omega
    · have a1 := (h1 g hg1 (by omega)).mpr (by omega)
      have a2 := (h1 k (by omega) hh).mp (e.symm.trans a1)
      omega
  have qe : ∀ a b, a < A.flatten.length → b < A.flatten.length → q (lbv A f a) = q (lbv A f b) → σ a = σ b := fun a b ha hb e9 => by
    rw [q2 a ha, q2 b hb] at e9
    revert e9
    cases σ a <;> cases σ b <;> decide
  rcases two u hu with a | a <;> rcases two v hv9 with b | b
  · rw [a.1, b.1]
  · exact absurd ((qe u g hu gl' a.2).symm.trans (e.trans (qe v k hv9 kl b.2))) dif
  · exact absurd ((qe v g hv9 gl' b.2).symm.trans (e.symm.trans (qe u k hu kl a.2))) dif
  · rw [a.1, b.1]
/-- a row that has nothing of an exchange stays -/
theorem row_keep (h : rowO T d) (hv : vn T.1 T.2.2.1) {x y : Nat} (hx : ¬ inD d x) (hy : ¬ inD d y) : rowO (ntS T (np_exchange T.2.2.1 x y)) d := by
  obtain ⟨h1, h2, h3⟩ := h
  have off : ∀ v, v < d.1.flatten.length → exN T.2.2.1.1 x y (lbv d.1 d.2.2 v) = T.2.2.1.1 (lbv d.1 d.2.2 v) := fun v hv => exN_o (fun e => hx ⟨v, hv, e⟩) (fun e => hy ⟨v, hv, e⟩)
  refine ⟨⟨h1.1, h1.2.1, h1.2.2.1, h1.2.2.2.1, h1.2.2.2.2.1, fun v hv => (off v hv).trans (h1.2.2.2.2.2.1 v hv), h1.2.2.2.2.2.2⟩, ⟨h2.1, fun u v hu hv9 m hm => ?_⟩, h3⟩
  have hm : lbN T.1 (exN T.2.2.1.1 x y) m := hm
  obtain ⟨w, w1, w2, w3⟩ := em_lab h1 hv (q := fun v => m (lbv d.1 d.2.2 v)) (fun v hv => by
    have := (hm _ (em_lt h1 hv)).1
    have this : m (exN T.2.2.1.1 x y (lbv d.1 d.2.2 v)) = m (lbv d.1 d.2.2 v) := this
    rw [off v hv, h1.2.2.2.2.2.1 v hv] at this
    exact this) (fun v hv => by
    show m (lbv d.1 d.2.2 (mtf d.1 v)) = m (lbv d.1 d.2.2 v)
    rw [(em_mt h1 hv).2.2.1]
    exact (hm _ (em_lt h1 hv)).2) hu (h2.2 u v hu hv9)
  have w3 : m (lbv d.1 d.2.2 w) = m (lbv d.1 d.2.2 u) := w3
  rw [← w3, w2]
end XSX
end
section
/-! 99zzzzzzzzzzzzzc.xsu11 -/
/-! one step of parting, on rows -/
section XSY
variable {A : rn_L} {sg : Nat → Bool} {σ : Nat → Bool} {f : Nat → Nat} {T R : ow_NT} {c g k : Nat} {D : List ptT} {m : Nat → Nat} {P : Nat}
theorem wl_to {u : Nat} (hu : u < (wfW A σ A.length).flatten.length) : ∃ j, j < A.flatten.length ∧ σ j = true ∧ lbv (wfW A σ A.length) f u = lbv A f j := by
  obtain ⟨j, j1, j2, j3⟩ := wfW_el (vAt_mem hu)
  refine ⟨j, j1, j2, ?_⟩
  show gl f (vAt (wfW A σ A.length) u) = gl f (vAt A j)
  rw [j3]
theorem wf_ne {L : List vT} (h : L ∈ wfW A σ A.length) : L ≠ [] := by
  obtain ⟨r, r1, r2, r3⟩ := wfW_in _ h
  rw [r2]
  exact fun e => r3 (List.map_eq_nil_iff.mp e)
/-- a chosen piece that is one part has its row -/
theorem piece (hE : emN (wfW A σ A.length) sg f R) (hv : vn R.1 R.2.2.1) (h6 : A.length ≤ 6) {w0 : Nat} (hw0 : w0 < A.flatten.length) (hs0 : σ w0 = true) (hcn : ∀ u v, u < A.flatten.length → v < A.flatten.length → σ u = true → σ v = true → ptN R.1 R.2.2.1.1 (lbv A f u) (lbv A f v)) (hk : mk (wfW A σ A.length) m P) : ∃ d : ptT, pkR (wfW A σ A.length) sg m P = tk d.2.1 d.1 ∧ rowO R d ∧ ∀ j, inD d j ↔ ∃ i, i < A.flatten.length ∧ σ i = true ∧ lbv A f i = j := by
  have hc : cnA (wfW A σ A.length) f R := by
    refine ⟨List.ne_nil_of_mem (wfW_le hw0 hs0), fun u v hu hv9 => ?_⟩
    obtain ⟨a, a1, a2, a3⟩ := wl_to (f := f) hu
    obtain ⟨b, b1, b2, b3⟩ := wl_to (f := f) hv9
    rw [a3, b3]
    exact hcn a b a1 b1 a2 b2
  have hl6 : (wfW A σ A.length).length ≤ 6 := by
    have := wfI_n (A := A) (σ := σ) A.length
    unfold wfW
    rw [List.length_map]
    omega
  obtain ⟨A', sg', g', e1, e2, e3, e4, e5, e6, e7⟩ := em_row hE hv hc (fun L hL => wf_ne hL) hl6 hk
  have h2 := hE.2.1
  have h12 := hE.2.2.1
  refine ⟨(A', sg', g'), e1, ⟨e4, e5, e6, ⟨_, e2, by omega⟩, by show A'.length ≤ 6; omega⟩, fun j => ⟨?_, ?_⟩⟩
  · rintro ⟨v, v1, v2⟩
    obtain ⟨w, w1, w2⟩ := e7 v v1
    obtain ⟨i, i1, i2, i3⟩ := wl_to (f := f) w1
    exact ⟨i, i1, i2, by rw [← i3, ← w2]; exact v2⟩
  · rintro ⟨i, i1, i2, i3⟩
    have hl : 0 < A'.flatten.length := List.length_pos_iff.mpr e5.1
    obtain ⟨w, w1, w2⟩ := e7 0 hl
    obtain ⟨a, a1, a2, a3⟩ := wl_to (f := f) w1
    obtain ⟨v, v1, v2, _⟩ := em_lab e4 hv (q := fun _ => 0) (fun _ _ => rfl) (fun _ _ => rfl) hl (j := j) (by
      rw [w2, a3, ← i3]
      exact hcn a i a1 i1 a2 i2)
    exact ⟨v, v1, v2⟩
/-- a row is parted -/
theorem prt_step (hD : prtD T ((A, sg, f) :: D)) (hv : vn T.1 T.2.2.1) (hc : c < A.length) (hg1 : rn_b A c ≤ g) (hgh : g < k) (hh : k < rn_b A (c + 1)) (hs : prS A c g k σ) {m' : Nat → Nat} {P' : Nat} (hk : mk (wfW A σ A.length) m P) (hk' : mk (wfW A (fun v => !σ v) A.length) m' P') : prN T.1 T.2.2.1.1 (lbv A f g) (lbv A f k) ∧ ∃ d1 d2 : ptT, pkR (wfW A σ A.length) sg m P = tk d1.2.1 d1.1 ∧ pkR (wfW A (fun v => !σ v) A.length) sg m' P' = tk d2.2.1 d2.1 ∧ prtD (ntS T (np_exchange T.2.2.1 (lbv A f g) (lbv A f k))) (d1 :: d2 :: D) := by
  obtain ⟨hr, hcov, hpw⟩ := hD
  obtain ⟨h1, h2, h3, h4, h5⟩ := hr _ (List.mem_cons_self ..)
  have h1 : emN A sg f T := h1
  have h2 : cnA A f T := h2
  have h5 : A.length ≤ 6 := h5
  have hd := wkF_ok h1.1
  have hle := rn_b_le A (c + 1)
  have gl' : g < A.flatten.length := by omega
  have kl : k < A.flatten.length := by omega
  have hs' := prS_not hs hd
  have hv' : vn T.1 (np_exchange T.2.2.1 (lbv A f g) (lbv A f k)) := vn_exchange hv (em_lt h1 gl') (em_lt h1 kl)
  have ex1 : ∃ w, w < A.flatten.length ∧ σ w = true := by
    rcases hs.1 with q | q
    · exact ⟨k, kl, (q k (by omega) hh).mpr ⟨hgh, Nat.le_refl _⟩⟩
    · exact ⟨g, gl', (q g hg1 (by omega)).mpr (by omega)⟩
  have ex2 : ∃ w, w < A.flatten.length ∧ (!σ w) = true := by
    rcases hs'.1 with q | q
    · exact ⟨k, kl, (q k (by omega) hh).mpr ⟨hgh, Nat.le_refl _⟩⟩
    · exact ⟨g, gl', (q g hg1 (by omega)).mpr (by omega)⟩
  obtain ⟨w1, w11, w12⟩ := ex1
  obtain ⟨w2, w21, w22⟩ := ex2
  obtain ⟨d1, a1, a2, a3⟩ := piece (R := ntS T (np_exchange T.2.2.1 (lbv A f g) (lbv A f k))) (em_prt h1 hc hg1 hgh hh hs) hv' h5 w11 w12 (fun u v hu hv9 e1 e2 => cn_prt h1 hv h2 hc hg1 hgh hh hs hu hv9 (e1.trans e2.symm)) hk
  obtain ⟨d2, b1, b2, b3⟩ := piece (σ := fun v => !σ v) (R := ntS T (np_exchange T.2.2.1 (lbv A f g) (lbv A f k))) (em_prt h1 hc hg1 hgh hh hs') hv' h5 w21 w22 (fun u v hu hv9 e1 e2 => cn_prt h1 hv h2 hc hg1 hgh hh hs' hu hv9 (e1.trans e2.symm)) hk'
  have pw := List.pairwise_cons.mp hpw
  have i1 : ∀ j, inD d1 j → inD (A, sg, f) j := fun j hj => by
    obtain ⟨i, x1, _, x3⟩ := (a3 j).mp hj
    exact ⟨i, x1, x3⟩
  have i2 : ∀ j, inD d2 j → inD (A, sg, f) j := fun j hj => by
    obtain ⟨i, x1, _, x3⟩ := (b3 j).mp hj
    exact ⟨i, x1, x3⟩
  refine ⟨pr_of h1 hv hc hg1 hgh hh hs, d1, d2, a1, b1, fun d hd9 => ?_, fun j hj => ?_, ?_⟩
  · rcases List.mem_cons.mp hd9 with e | hd9
    · rw [e]
      exact a2
    · rcases List.mem_cons.mp hd9 with e | hd9
      · rw [e]
        exact b2
      · exact row_keep (hr d (List.mem_cons_of_mem _ hd9)) hv (pw.1 d hd9 _ ⟨g, gl', rfl⟩) (pw.1 d hd9 _ ⟨k, kl, rfl⟩)
  · obtain ⟨d, x1, x2⟩ := hcov j hj
    rcases List.mem_cons.mp x1 with e | x1
    · rw [e] at x2
      obtain ⟨i, y1, y2⟩ := x2
      have y1 : i < A.flatten.length := y1
      have y2 : lbv A f i = j := y2
      cases e9 : σ i with
      | true => exact ⟨d1, List.mem_cons_self .., (a3 j).mpr ⟨i, y1, e9, y2⟩⟩
      | false => exact ⟨d2, List.mem_cons_of_mem _ (List.mem_cons_self ..), (b3 j).mpr ⟨i, y1, by rw [e9]; rfl, y2⟩⟩
    · exact ⟨d, List.mem_cons_of_mem _ (List.mem_cons_of_mem _ x1), x2⟩
  · refine List.pairwise_cons.mpr ⟨fun d hd9 j hj hj2 => ?_, List.pairwise_cons.mpr ⟨fun d hd9 j hj hj2 => pw.1 d hd9 j (i2 j hj) hj2, pw.2⟩⟩
    rcases List.mem_cons.mp hd9 with e | hd9
    · rw [e] at hj2
      obtain ⟨i, x1, x2, x3⟩ := (a3 j).mp hj
      obtain ⟨l, y1, y2, y3⟩ := (b3 j).mp hj2
      have := em_inj h1 x1 y1 (x3.trans y3.symm)
      rw [← this, x2] at y2
      exact absurd y2 (by decide)
    · exact pw.1 d hd9 j (i1 j hj) hj2
/-- when no row can be parted, the net can't -/
theorem prt_end (hD : prtD T D) (hv : vn T.1 T.2.2.1) (hi : ∀ d, d ∈ D → irA d.1) : irN T.1 T.2.2.1.1 := by
  intro v w hp
  obtain ⟨d, d1, a, a1, a2⟩ := hD.2.1 v hp.1
  have h1 := (hD.1 d d1).1
  have run : ∀ i, ∃ b, b < d.1.flatten.length ∧ it T.2.2.1.1 i (lbv d.1 d.2.2 a) = lbv d.1 d.2.2 b ∧ rn_c d.1 b = rn_c d.1 a := by
    intro i
    induction i with
    | zero => exact ⟨a, a1, rfl, rfl⟩
    | succ i ih =>
      obtain ⟨b, b1, b2, b3⟩ := ih
      refine ⟨rn_nx d.1 b, rnx_lt b1, ?_, by rw [c_nx b1]; exact b3⟩
      show T.2.2.1.1 (it T.2.2.1.1 i (lbv d.1 d.2.2 a)) = _
      rw [b2]
      exact h1.2.2.2.2.2.1 b b1
  have key : ∀ a b, a < b → a < d.1.flatten.length → b < d.1.flatten.length → rn_c d.1 b = rn_c d.1 a → ¬ prN T.1 T.2.2.1.1 (lbv d.1 d.2.2 a) (lbv d.1 d.2.2 b) := fun a b hab ha hb e => by
    obtain ⟨q1, q2, q3⟩ := rn_c_in d.1 a ha
    obtain ⟨r1, r2, r3⟩ := rn_c_in d.1 b hb
    rw [e] at r3
    exact pr_no h1 q1 q2 hab r3 (hi d d1 _ a b q1 q2 hab r3)
  obtain ⟨i, i1⟩ := hp.2.2.2.1
  obtain ⟨b, b1, b2, b3⟩ := run i
  rw [a2, i1] at b2
  have ne := hp.2.2.1
  rcases Nat.lt_trichotomy a b with q | q | q
  · refine key a b q a1 b1 b3 ?_
    rw [a2, ← b2]
    exact hp
  · rw [b2, ← q, a2] at ne
    exact ne rfl
  · refine key b a q b1 a1 b3.symm ?_
    rw [a2, ← b2]
    exact pr_sy (bj_vn hv) hp
end XSY
end
section
/-! 99zzzzzzzzzzzzzd.xsu12 -/
/-! addSummand, exactly -/
section XSZ
variable {z : ow_MS} {A : rn_L} {sg : Nat → Bool}
theorem ins_at {α : Type} {l : List α} {x : α} {k i : Nat} (hk : k ≤ l.length) : (l.take k ++ x :: l.drop k)[i]? = if i < k then l[i]? else if i = k then some x else l[i - 1]? := by
  have hl : (l.take k).length = k := by rw [List.length_take]; omega
  by_cases h1 : i < k
  · rw [if_pos h1, List.getElem?_append_left (by omega), List.getElem?_take_of_lt h1]
  · rw [if_neg h1, List.getElem?_append_right (by omega), hl]
    by_cases h2 : i = k
    · rw [if_pos h2, h2, Nat.sub_self]
      rfl
    · rw [if_neg h2, show i - k = (i - k - 1) + 1 by omega, List.getElem?_cons_succ, List.getElem?_drop, show k + (i - k - 1) = i - 1 by omega]
theorem vRow_fr9 {F : Nat → Prop} {z z1 : ow_MS} {h o : Nat} {B : rn_L} {t : Nat → Bool} (hf : fr F z z1) (hF : ¬ F h) (hv : vRow z h o B t) : vRow z1 h o B t := by
  have e := (hf h hF).2.1
  obtain ⟨⟨a1, a2, a3, a4⟩, a5⟩ := hv
  exact ⟨⟨a1, a2, by rw [e]; exact a3, fun i t hi => by rw [e]; exact a4 i t hi⟩, a5⟩
theorem vRow_eq9 {z z1 : ow_MS} {h o : Nat} {B : rn_L} {t : Nat → Bool} (he : ∀ i, o ≤ i → i < o + 32 → z1.2.1 h i = z.2.1 h i) (hv : vRow z h o B t) : vRow z1 h o B t := by
  obtain ⟨⟨a1, a2, a3, a4⟩, a5⟩ := hv
  refine ⟨⟨a1, a2, by rw [he o (by omega) (by omega)]; exact a3, fun i t hi => ?_⟩, a5⟩
  have := (List.getElem?_eq_some_iff.mp hi).1
  rw [he _ (by omega) (by omega)]
  exact a4 i t hi
theorem xp_addS {Ms : List (rn_L × (Nat → Bool))} {k9 : Nat} (hS : Ms.length < 16) (hk9 : k9 < 16) (hG : rlR 35 39 36 16 z Ms) (hne : A ≠ []) (hv : vRow z 37 (32 * k9) A sg) : Te (fun K => qe_X13_addSummand K (nI (32 * k9)) z) (fun z1 => (∃ k, k ≤ Ms.length ∧ rlR 35 39 36 16 z1 (Ms.take k ++ (A, sg) :: Ms.drop k) ∧ (∀ i B t, i + 1 = k → Ms[i]? = some (B, t) → lsr (tk sg A) (tk t B) = false) ∧ ∀ i B t, k ≤ i → Ms[i]? = some (B, t) → lsr (tk sg A) (tk t B) = true) ∧ fr (fun g => g = 35 ∨ g = 36 ∨ g = 39) z z1) := by
  obtain ⟨g0, g1, g2⟩ := hG
  generalize hSe : Ms.length = S at g0 g1 g2 hS
  have hl := hv.1.1
  let Q : ow_MS → Prop := fun z1 => (∃ k, k ≤ S ∧ rlR 35 39 36 16 z1 (Ms.take k ++ (A, sg) :: Ms.drop k) ∧ (∀ i B t, i + 1 = k → Ms[i]? = some (B, t) → lsr (tk sg A) (tk t B) = false) ∧ ∀ i B t, k ≤ i → Ms[i]? = some (B, t) → lsr (tk sg A) (tk t B) = true) ∧ fr (fun g => g = 35 ∨ g = 36 ∨ g = 39) z z1
  have fin : ∀ (k : Nat) (y : ow_MS), k ≤ S → fr (fun g => g = 35 ∨ g = 39) z y → vRow y 35 (32 * S) A sg → (∀ i B t, Ms[i]? = some (B, t) → i < k → ∃ j, j < S ∧ y.2.1 39 i = nI j ∧ B ≠ [] ∧ vRow y 35 (32 * j) B t) → (∀ i B t, Ms[i]? = some (B, t) → k ≤ i → (∃ j, j < S ∧ y.2.1 39 (i + 1) = nI j ∧ B ≠ [] ∧ vRow y 35 (32 * j) B t) ∧ lsr (tk sg A) (tk t B) = true) → (∀ i B t, i + 1 = k → Ms[i]? = some (B, t) → lsr (tk sg A) (tk t B) = false) → ∀ z1 : ow_MS, z1.1 36 = nI (S + 1) → z1.2.1 39 k = nI S → (∀ i, i ≠ k → z1.2.1 39 i = y.2.1 39 i) → fr (fun g => g = 36 ∨ g = 39) y z1 → Q z1 := by
    intro k y hkS hf hR h1 h2 h3 z1 u1 u2 u3 f9
    have hlen : (Ms.take k ++ (A, sg) :: Ms.drop k).length = S + 1 := by
      rw [List.length_append, List.length_cons, List.length_take, List.length_drop]
      omega
    refine ⟨⟨k, hkS, ⟨by omega, by rw [hlen]; exact u1, fun i B t hi => ?_⟩, h3, fun i B t hi hm => (h2 i B t hm hi).2⟩, fr_tr (fr_mono (fun g hg => by omega) hf) (fr_mono (fun g hg => by omega) f9)⟩
    rw [ins_at (by omega)] at hi
    rw [hlen]
    by_cases c1 : i < k
    · rw [if_pos c1] at hi
      obtain ⟨j, j1, j2, j3, j4⟩ := h1 i B t hi c1
      exact ⟨j, by omega, (u3 i (by omega)).trans j2, j3, vRow_fr9 f9 (by omega) j4⟩
    · rw [if_neg c1] at hi
      by_cases c2 : i = k
      · rw [if_pos c2] at hi
        have hi := Option.some.inj hi
        have e1 : A = B := congrArg Prod.fst hi
        have e2 : sg = t := congrArg Prod.snd hi
        rw [← e1, ← e2, c2]
        exact ⟨S, by omega, u2, hne, vRow_fr9 f9 (by omega) hR⟩
      · rw [if_neg c2] at hi
        obtain ⟨⟨j, j1, j2, j3, j4⟩, _⟩ := h2 (i - 1) B t hi (by omega)
        rw [show i - 1 + 1 = i by omega] at j2
        exact ⟨j, by omega, (u3 i c2).trans j2, j3, vRow_fr9 f9 (by omega) j4⟩
  have l2 : ∀ (k : Nat) (y : ow_MS), k ≤ S → fr (fun g => g = 35 ∨ g = 39) z y → vRow y 35 (32 * S) A sg → (∀ i B t, Ms[i]? = some (B, t) → i < k → ∃ j, j < S ∧ y.2.1 39 i = nI j ∧ B ≠ [] ∧ vRow y 35 (32 * j) B t) → (∀ i B t, Ms[i]? = some (B, t) → k ≤ i → (∃ j, j < S ∧ y.2.1 39 (i + 1) = nI j ∧ B ≠ [] ∧ vRow y 35 (32 * j) B t) ∧ lsr (tk sg A) (tk t B) = true) → Tt (fun K i => q_X13_addSummand K i 2 (nI (32 * k9)) (nI k) y) Q := by
    intro k
    induction k with
    | zero =>
      intro y hkS hf hR ho1 ho2
      have e36 : y.1 36 = nI S := by rw [(hf 36 (by omega)).1]; exact g1
      refine u_X13_addSummand_2 ?_; unfold qm_X13_addSummand_2
      refine w_leT (b := 0) (by omega) (by omega) ?_
      refine u_X13_addSummand_3 ?_; unfold qm_X13_addSummand_3
      refine w_rdF e36 (w_wrI ml39 rfl (by omega) (w_rdF e36 (w_wrF ?_)))
      rw [nI_1]
      exact w_some (fin 0 y hkS hf hR ho1 ho2 (fun i B t hi => by omega) _ po_usF_at po_usI_at (fun i hi => po_usI_ne hi) (fr_F2 (fr_I (Or.inr rfl)) (Or.inl rfl)))
    | succ k ih =>
      intro y hkS hf hR ho1 ho2
      have e36 : y.1 36 = nI S := by rw [(hf 36 (by omega)).1]; exact g1
      have hkl : k < Ms.length := by omega
      rcases hB : Ms[k] with ⟨B2, t2⟩
      have hM : Ms[k]? = some (B2, t2) := by rw [List.getElem?_eq_getElem hkl, hB]
      obtain ⟨j, hj, e, nB, v2⟩ := ho1 k B2 t2 hM (by omega)
      have l1 := hR.1.1
      have l2 := v2.1.1
      refine u_X13_addSummand_2 ?_; unfold qm_X13_addSummand_2
      rw [nI_pred, pk_m1]
      refine w_leF (b := 0) (by omega) (by omega) (w_rdF e36 (w_rdI ml39 rfl (by omega) e ?_))
      rw [show (32 : Int32) * nI S = nI (32 * S) from pk_mul 32 S, show (32 : Int32) * nI j = nI (32 * j) from pk_mul 32 j]
      refine w_cs1 (tr_lesser ml35 ml35 (by omega) (by omega) (by omega) (by omega) hR.1 v2.1) (fun a y9 e9 => ?_)
      cases e9
      cases hls : lsr (tk sg A) (tk t2 B2) with
      | false =>
        refine w_ifT rfl ?_
        refine u_X13_addSummand_3 ?_; unfold qm_X13_addSummand_3
        refine w_rdF e36 (w_wrI ml39 rfl (by omega) (w_rdF e36 (w_wrF ?_)))
        rw [nI_1]
        exact w_some (fin (k + 1) y hkS hf hR ho1 ho2 (fun i B t hi hm => by
          rw [show i = k by omega, hM] at hm
          have hm := Option.some.inj hm
          have e1 : B2 = B := congrArg Prod.fst hm
          have e2 : t2 = t := congrArg Prod.snd hm
          rw [← e1, ← e2]
          exact hls) _ po_usF_at po_usI_at (fun i hi => po_usI_ne hi) (fr_F2 (fr_I (Or.inr rfl)) (Or.inl rfl)))
      | true =>
        refine w_ifF (by decide) (w_rdI ml39 rfl (by omega) e (w_wrI ml39 rfl (by omega) (ih _ (by omega) (fr_I2 hf (Or.inr rfl)) (vRow_fr9 (F := fun g => g = 39) (fr_I rfl) (by omega) hR) (fun i B t hm hi => ?_) (fun i B t hm hi => ?_))))
        · obtain ⟨j9, q1, q2, q3, q4⟩ := ho1 i B t hm (by omega)
          exact ⟨j9, q1, rd_ne (by omega) q2, q3, vRow_fr9 (F := fun g => g = 39) (fr_I rfl) (by omega) q4⟩
        · by_cases hik : i = k
          · rw [hik, hM] at hm
            have hm := Option.some.inj hm
            have e1 : B2 = B := congrArg Prod.fst hm
            have e2 : t2 = t := congrArg Prod.snd hm
            rw [← e1, ← e2, hik]
            exact ⟨⟨j, hj, po_usI_at, nB, vRow_fr9 (F := fun g => g = 39) (fr_I rfl) (by omega) v2⟩, hls⟩
          · obtain ⟨⟨j9, q1, q2, q3, q4⟩, q5⟩ := ho2 i B t hm (by omega)
            exact ⟨⟨j9, q1, rd_ne (by omega) q2, q3, vRow_fr9 (F := fun g => g = 39) (fr_I rfl) (by omega) q4⟩, q5⟩
  have l1 : ∀ (d k : Nat) (y : ow_MS), k + d = (tk sg A).length + 1 → fr (fun g => g = 35) z y → (∀ i, i < k → y.2.1 35 (32 * S + i) = z.2.1 37 (32 * k9 + i)) → (∀ i, i < 32 * S → y.2.1 35 i = z.2.1 35 i) → Tt (fun K i => q_X13_addSummand K i 1 (nI (32 * k9)) (nI k) y) Q := by
    intro d
    induction d with
    | zero =>
      intro k y hk hf hc hi
      have e36 : y.1 36 = nI S := by rw [(hf 36 (by omega)).1]; exact g1
      refine u_X13_addSummand_1 ?_; unfold qm_X13_addSummand_1
      refine w_rdI ml37 rfl (by omega) (x := nI (tk sg A).length) (by rw [(hf 37 (by omega)).2.1]; exact hv.1.2.2.1) (w_ltT (by omega) (by omega) (w_rdF e36 (l2 S y (Nat.le_refl _) (fr_mono (fun g hg => Or.inl hg) hf) ?_ (fun i B t hm hi9 => ?_) (fun i B t hm hi9 => ?_))))
      · refine ⟨⟨hv.1.1, hv.1.2.1, ?_, fun i t hi9 => ?_⟩, hv.2⟩
        · have := hc 0 (by omega)
          rw [Nat.add_zero, Nat.add_zero] at this
          rw [this]
          exact hv.1.2.2.1
        · have := (List.getElem?_eq_some_iff.mp hi9).1
          rw [hc (i + 1) (by omega)]
          exact hv.1.2.2.2 i t hi9
      · obtain ⟨j, j1, j2, j3, j4⟩ := g2 i B t hm
        exact ⟨j, j1, by rw [(hf 39 (by omega)).2.1]; exact j2, j3, vRow_eq9 (fun i h1 h2 => hi i (by omega)) j4⟩
      · have := (List.getElem?_eq_some_iff.mp hm).1
        omega
    | succ d ih =>
      intro k y hk hf hc hi
      have e36 : y.1 36 = nI S := by rw [(hf 36 (by omega)).1]; exact g1
      refine u_X13_addSummand_1 ?_; unfold qm_X13_addSummand_1
      refine w_rdI ml37 rfl (by omega) (x := nI (tk sg A).length) (by rw [(hf 37 (by omega)).2.1]; exact hv.1.2.2.1) (w_ltF (by omega) (by omega) (w_rdF e36 ?_))
      rw [nI_add, show (32 : Int32) * nI S = nI (32 * S) from pk_mul 32 S, nI_add, nI_1]
      refine w_rdI ml37 rfl (by omega) (by rw [(hf 37 (by omega)).2.1]) (w_wrI ml35 rfl (by omega) (ih (k + 1) _ (by omega) (fr_I2 hf rfl) (fun i hi9 => ?_) (fun i hi9 => rd_ne (by omega) (hi i hi9))))
      by_cases hik : i = k
      · rw [hik, po_usI_at]
      · exact rd_ne (by omega) (hc i (by omega))
  refine e_X13_addSummand ?_
  refine u_X13_addSummand_0 ?_; unfold qm_X13_addSummand_0
  exact l1 _ 0 z (Nat.zero_add _) fr_rf (fun i hi => by omega) (fun i _ => rfl)
end XSZ
end
section
/-! 99zzzzzzzzzzzzze.xsu13 -/
/-! summands: the first rows -/
section XSA
variable {A : rn_L} {sg : Nat → Bool} {σ : Nat → Bool} {f : Nat → Nat} {T : ow_NT} {D : List ptT} {m : Nat → Nat} {P p : Nat}
theorem wfI_cg {τ : Nat → Bool} (h : ∀ v, v < A.flatten.length → σ v = τ v) : ∀ n, wfI A σ n = wfI A τ n
  | 0 => rfl
  | n + 1 => by
    have hle := rn_b_le A (n + 1)
    have e : wfB A σ n (rn_b A (n + 1)) = wfB A τ n (rn_b A (n + 1)) := by
      unfold wfB
      refine List.filter_congr (fun j hj => ?_)
      have := List.mem_range.mp hj
      rw [h j (by omega)]
    rw [wfI, wfI, e, wfI_cg h n]
theorem wfW_cg {τ : Nat → Bool} (h : ∀ v, v < A.flatten.length → σ v = τ v) (n : Nat) : wfW A σ n = wfW A τ n := by
  unfold wfW
  rw [wfI_cg h n]
theorem iso_em (h : isoN A sg f T) : emN A sg f T := ⟨h.1, Nat.le_of_eq h.2.1, h.2.2.1, h.2.2.2.1, h.2.2.2.2.1, h.2.2.2.2.2.1, h.2.2.2.2.2.2.1, trivial⟩
/-- whole rings are shown as they were -/
theorem em_un (h : emN A sg f T) (hs2 : ∀ a b, a < A.flatten.length → b < A.flatten.length → rn_c A a = rn_c A b → σ a = σ b) (hcl : ∀ v, v < A.flatten.length → σ v = true → σ (mtf A v) = true) : emN (wfW A σ A.length) sg f T := by
  obtain ⟨t1, t2, t3, t4⟩ := em_to h
  have sub : ∀ p, p ∈ (wfW A σ A.length).flatten → p ∈ A.flatten := fun p hp => by
    obtain ⟨j, j1, _, rfl⟩ := wfW_el hp
    exact vAt_mem j1
  refine em_of (wfW_wk h.1 hcl) ?_ h.2.2.1 (fun p hp => t1 p (sub p hp)) (fun p q hp hq => t2 p q (sub p hp) (sub q hq)) (fun L hL p hp => ?_) (fun p hp => t4 p (sub p hp))
  · have := wf_len (A := A) (σ := σ) (c := A.length) (i := A.flatten.length) (by rw [rn_b_len]; exact Nat.le_refl _)
    have h2 := h.2.1
    unfold wfW
    rw [fl_map, List.length_map]
    omega
  · obtain ⟨r, r1, r2, r3⟩ := wfW_in _ hL
    obtain ⟨R, R1, R2⟩ := ring_sg A r r1
    have hle := rn_b_le A (r + 1)
    have cR : ∀ j, j ∈ sg9 (rn_b A r) (rn_b A (r + 1)) → j < A.flatten.length ∧ rn_c A j = r := fun j hj => by
      have hj := sg9_m.mp hj
      exact ⟨by omega, rn_c_of A r j hj.1 hj.2⟩
    have all : ∀ j, j ∈ sg9 (rn_b A r) (rn_b A (r + 1)) → σ j = true := fun j hj => by
      obtain ⟨i, hi⟩ := List.exists_mem_of_ne_nil _ r3
      obtain ⟨i1, i2⟩ := List.mem_filter.mp hi
      rw [← i2]
      exact hs2 j i (cR j hj).1 (cR i i1).1 (by rw [(cR j hj).2, (cR i i1).2])
    rw [fil_all all, R2] at r2
    rw [r2] at hp ⊢
    exact t3 R R1 p hp
/-- the rows of the first p parts -/
def prtP (T : ow_NT) (A : rn_L) (f m : Nat → Nat) (p : Nat) (D : List ptT) : Prop := (∀ d, d ∈ D → rowO T d) ∧ (∀ v, v < A.flatten.length → m (rn_c A v) < p → ∃ d, d ∈ D ∧ inD d (lbv A f v)) ∧ (∀ d, d ∈ D → ∀ j, inD d j → ∃ v, v < A.flatten.length ∧ lbv A f v = j ∧ m (rn_c A v) < p) ∧ D.Pairwise (fun d d' => ∀ j, inD d j → ¬ inD d' j)
theorem ini_0 : prtP T A f m 0 [] := ⟨fun d hd => absurd hd List.not_mem_nil, fun v _ h => absurd h (Nat.not_lt_zero _), fun d hd => absurd hd List.not_mem_nil, List.Pairwise.nil⟩
theorem ini_no (h : prtP T A f m p D) (hn : ∀ v, v < A.flatten.length → m (rn_c A v) ≠ p) : prtP T A f m (p + 1) D := ⟨h.1, fun v hv h9 => h.2.1 v hv (by have := hn v hv; omega), fun d hd j hj => by
  obtain ⟨v, v1, v2, v3⟩ := h.2.2.1 d hd j hj
  exact ⟨v, v1, v2, by omega⟩, h.2.2.2⟩
theorem ini_s (hi : isoN A sg f T) (hv : vn T.1 T.2.2.1) (hk : mk A m P) (h6 : A.length ≤ 6) (hP : prtP T A f m p D) {v0 : Nat} (hv0 : v0 < A.flatten.length) (e0 : m (rn_c A v0) = p) {m' : Nat → Nat} {P' : Nat} (hk' : mk (wfW A (fun v => decide (m (rn_c A v) = p)) A.length) m' P') : ∃ d : ptT, pkR (wfW A (fun v => decide (m (rn_c A v) = p)) A.length) sg m' P' = tk d.2.1 d.1 ∧ prtP T A f m (p + 1) (d :: D) := by
  have h := iso_em hi
  have hd := wkF_ok h.1
  obtain ⟨d, a1, a2, a3⟩ := piece (σ := fun v => decide (m (rn_c A v) = p)) (em_un h (fun a b ha hb e => by
    show decide (m (rn_c A a) = p) = decide (m (rn_c A b) = p)
    rw [e]) (fun v hv9 e9 => by
    have e9 := of_decide_eq_true e9
    refine decide_eq_true ?_
    rw [← hk.2.1 _ _ ⟨v, mtf A v, mtf_mt hd hv9, rfl, rfl⟩]
    exact e9)) hv h6 hv0 (decide_eq_true e0) (fun u w hu hw e1 e2 => (pt_iff9 hv h.2.2.1 (em_lt h hu) (em_lt h hw)).mp ((part_iff hi hv hk hu hw).mpr ((of_decide_eq_true e1).trans (of_decide_eq_true e2).symm))) hk'
  refine ⟨d, a1, fun x hx => ?_, fun v hv9 h9 => ?_, fun x hx j hj => ?_, List.pairwise_cons.mpr ⟨fun x hx j hj hj2 => ?_, hP.2.2.2⟩⟩
  · rcases List.mem_cons.mp hx with e | hx
    · rw [e]
      exact a2
    · exact hP.1 x hx
  · by_cases e : m (rn_c A v) = p
    · exact ⟨d, List.mem_cons_self .., (a3 _).mpr ⟨v, hv9, decide_eq_true e, rfl⟩⟩
    · obtain ⟨x, x1, x2⟩ := hP.2.1 v hv9 (by omega)
      exact ⟨x, List.mem_cons_of_mem _ x1, x2⟩
  · rcases List.mem_cons.mp hx with e | hx
    · rw [e] at hj
      obtain ⟨v, v1, v2, v3⟩ := (a3 j).mp hj
      exact ⟨v, v1, v3, by have := of_decide_eq_true v2; omega⟩
    · obtain ⟨v, v1, v2, v3⟩ := hP.2.2.1 x hx j hj
      exact ⟨v, v1, v2, by omega⟩
  · obtain ⟨v, v1, v2, v3⟩ := (a3 j).mp hj
    obtain ⟨w, w1, w2, w3⟩ := hP.2.2.1 x hx j hj2
    have e := em_inj h v1 w1 (v3.trans w2.symm)
    have := of_decide_eq_true v2
    rw [← e] at w3
    omega
theorem ini_end (hi : isoN A sg f T) (hk : mk A m P) (h : prtP T A f m P D) : prtD T D := ⟨h.1, fun j hj => by
  obtain ⟨v, v1, v2⟩ := lbv_sur hi hj
  obtain ⟨d, d1, d2⟩ := h.2.1 v v1 (hk.1 _ (rn_c_in A v v1).1)
  rw [v2] at d2
  exact ⟨d, d1, d2⟩, h.2.2.2⟩
end XSA
end
section
/-! 99zzzzzzzzzzzzzf.xsu14 -/
/-! summands of the reference, exactly -/
section XTA
variable {X : (Nat → Nat → Int32) → Prop} {z y y1 : ow_MS} {T : ow_NT} {A : rn_L} {sg : Nat → Bool} {D : List ptT} {N M : Nat → Nat} {c : Nat}
/-- the rows that wait, the last one first -/
def wRx (y : ow_MS) : List ptT → Prop
  | [] => True
  | d :: L => vRow y 37 (32 * L.length) d.1 d.2.1 ∧ wRx y L
theorem wRx_eq : ∀ L : List ptT, (∀ i, i < 32 * L.length → y1.2.1 37 i = y.2.1 37 i) → wRx y L → wRx y1 L
  | [], _, _ => trivial
  | d :: L, he, h => by
    have hl : (d :: L).length = L.length + 1 := List.length_cons
    rw [hl] at he
    exact ⟨vRow_eq9 (fun i h1 h2 => he i (by omega)) h.1, wRx_eq L (fun i hi => he i (by omega)) h.2⟩
theorem st_snoc {v w : Nat} : ∀ (n : Nat) (N : Nat → Nat), stN c n N M → prN c M v w → stN c (n + 1) N (exN M v w)
  | 0, N, h, hp => by
    have h : N = M := h
    subst h
    exact ⟨v, w, hp, rfl⟩
  | n + 1, N, ⟨a, b, h1, h2⟩, hp => ⟨a, b, h1, st_snoc n _ h2 hp⟩
theorem row_two {d : ptT} (h : rowO T d) : 2 ≤ d.1.flatten.length := by
  obtain ⟨-, h2, -, ⟨c, h4, -⟩, -⟩ := h
  have := okF_len h4
  have := List.length_pos_iff.mpr h2.1
  omega
theorem prt_lst : ∀ (D : List ptT), (∀ d, d ∈ D → rowO T d) → D.Pairwise (fun d d' => ∀ j, inD d j → ¬ inD d' j) → ∃ ls : List Nat, ls.Nodup ∧ 2 * D.length ≤ ls.length ∧ ∀ j, j ∈ ls → j < 2 * T.1 ∧ ∃ d, d ∈ D ∧ inD d j
  | [], _, _ => ⟨[], List.nodup_nil, Nat.le_refl _, fun j hj => absurd hj List.not_mem_nil⟩
  | d :: D, h, hp => by
    obtain ⟨p1, p2⟩ := List.pairwise_cons.mp hp
    obtain ⟨ls, l1, l2, l3⟩ := prt_lst D (fun d hd => h d (List.mem_cons_of_mem _ hd)) p2
    have hd := h d List.mem_cons_self
    have h2 := row_two hd
    have i0 : inD d (lbv d.1 d.2.2 0) := ⟨0, by omega, rfl⟩
    have i1 : inD d (lbv d.1 d.2.2 1) := ⟨1, by omega, rfl⟩
    have no : ∀ j, inD d j → j ∉ ls := fun j hj hm => by
      obtain ⟨-, d', d1, d2⟩ := l3 j hm
      exact p1 d' d1 j hj d2
    have ne : lbv d.1 d.2.2 0 ≠ lbv d.1 d.2.2 1 := fun e => by
      have := em_inj hd.1 (show 0 < d.1.flatten.length by omega) (show 1 < d.1.flatten.length by omega) e
      omega
    refine ⟨lbv d.1 d.2.2 0 :: lbv d.1 d.2.2 1 :: ls, List.nodup_cons.mpr ⟨fun hm => ?_, List.nodup_cons.mpr ⟨no _ i1, l1⟩⟩, ?_, fun j hj => ?_⟩
    · rcases List.mem_cons.mp hm with e | hm
      · exact ne e
      · exact no _ i0 hm
    · rw [List.length_cons, List.length_cons, List.length_cons]
      omega
    · rcases List.mem_cons.mp hj with e | hj
      · rw [e]
        exact ⟨em_lt hd.1 (by omega), d, List.mem_cons_self, i0⟩
      · rcases List.mem_cons.mp hj with e | hj
        · rw [e]
          exact ⟨em_lt hd.1 (by omega), d, List.mem_cons_self, i1⟩
        · obtain ⟨a1, d', a2, a3⟩ := l3 j hj
          exact ⟨a1, d', List.mem_cons_of_mem _ a2, a3⟩
theorem prt_len (h : ∀ d, d ∈ D → rowO T d) (hp : D.Pairwise (fun d d' => ∀ j, inD d j → ¬ inD d' j)) : D.length ≤ T.1 := by
  obtain ⟨ls, l1, l2, l3⟩ := prt_lst D h hp
  have := nodup_le ls (List.range (2 * T.1)) l1 (fun j hj => List.mem_range.mpr (l3 j hj).1)
  rw [List.length_range] at this
  omega
/-- the done rows are in order -/
def srM (Ms : List (rn_L × (Nat → Bool))) : Prop := Ms.Pairwise (fun a b => lsr (tk b.2 b.1) (tk a.2 a.1) = false)
theorem ins_srM {Ms : List (rn_L × (Nat → Bool))} {k : Nat} (h : srM Ms) (hk : k ≤ Ms.length) (h1 : ∀ i B t, i + 1 = k → Ms[i]? = some (B, t) → lsr (tk sg A) (tk t B) = false) (h2 : ∀ i B t, k ≤ i → Ms[i]? = some (B, t) → lsr (tk sg A) (tk t B) = true) : srM (Ms.take k ++ (A, sg) :: Ms.drop k) := by
  have hsp : (Ms.take k ++ Ms.drop k).Pairwise (fun a b => lsr (tk b.2 b.1) (tk a.2 a.1) = false) := by
    rw [List.take_append_drop]
    exact h
  obtain ⟨p1, p2, p3⟩ := List.pairwise_append.mp hsp
  have lo : ∀ a, a ∈ Ms.take k → lsr (tk sg A) (tk a.2 a.1) = false := fun a ha => by
    obtain ⟨i, hi, e⟩ := List.getElem_of_mem ha
    have hl : (Ms.take k).length = k := by rw [List.length_take]; omega
    rw [hl] at hi
    have ei : Ms[i]? = some a := by
      have := List.getElem?_eq_getElem (l := Ms.take k) (i := i) (by omega)
      rw [e, List.getElem?_take_of_lt hi] at this
      exact this
    by_cases hik : i + 1 = k
    · exact h1 i a.1 a.2 hik ei
    · have hkl : k - 1 < Ms.length := by omega
      have ek : Ms[k - 1]? = some Ms[k - 1] := List.getElem?_eq_getElem hkl
      have q1 := h1 (k - 1) Ms[k - 1].1 Ms[k - 1].2 (by omega) ek
      have hil : i < Ms.length := by omega
      have q2 := List.pairwise_iff_getElem.mp h i (k - 1) hil hkl (by omega)
      have ea : Ms[i] = a := Option.some.inj ((List.getElem?_eq_getElem hil).symm.trans ei)
      rw [ea] at q2
      cases q3 : lsr (tk sg A) (tk a.2 a.1) with
      | false => rfl
      | true =>
        exfalso
        by_cases e9 : tk Ms[k - 1].2 Ms[k - 1].1 = tk sg A
        · rw [e9, q3] at q2
          cases q2
        · rw [lsr_tr (lsr_tri q1 e9) q3] at q2
          cases q2
  have hi : ∀ b, b ∈ Ms.drop k → lsr (tk b.2 b.1) (tk sg A) = false := fun b hb => by
    obtain ⟨i, hi, e⟩ := List.getElem_of_mem hb
    have ei : Ms[k + i]? = some b := by
      have := List.getElem?_eq_getElem (l := Ms.drop k) hi
      rw [e, List.getElem?_drop] at this
      exact this
    have q := h2 (k + i) b.1 b.2 (by omega) ei
    cases q3 : lsr (tk b.2 b.1) (tk sg A) with
    | false => rfl
    | true =>
      have := lsr_tr q q3
      rw [lsr_irr] at this
      cases this
  refine List.pairwise_append.mpr ⟨p1, List.pairwise_cons.mpr ⟨hi, p2⟩, fun a ha b hb => ?_⟩
  rcases List.mem_cons.mp hb with e | hb
  · rw [e]
    exact lo a ha
  · exact p3 a ha b hb
def ptM (d : ptT) : rn_L × (Nat → Bool) := (d.1, d.2.1)
/-- the done ones and how far the net is parted -/
def suJ (T : ow_NT) (y : ow_MS) (L Dn : List ptT) : Prop := y.1 1 = 0 ∧ wRx y L ∧ (∃ Ms, rlR 35 39 36 16 y Ms ∧ srM Ms ∧ (Dn.map ptM).Perm Ms) ∧ (∀ d, d ∈ Dn → irA d.1) ∧ ∃ n S, vn T.1 S ∧ stN T.1 n T.2.2.1.1 S.1 ∧ prtD (ntS T S) (L ++ Dn)
/-- what summands leaves -/
def smE (T : ow_NT) (r : Int32 × ow_MS) : Prop := r.2.1 1 = 0 ∧ ∃ Ms Dn n S, rlR 35 39 36 16 r.2 Ms ∧ r.1 = nI Ms.length ∧ srM Ms ∧ (Dn.map ptM).Perm Ms ∧ (∀ d, d ∈ Dn → irA d.1) ∧ vn T.1 S ∧ stN T.1 n T.2.2.1.1 S.1 ∧ prtD (ntS T S) Dn
theorem xp_sum2 {e : Nat} (hT12 : T.1 ≤ 12) : ∀ (M : Nat) (L Dn : List ptT) (x3 : Int32) (y : ow_MS), 24 + L.length ≤ M + 2 * (L.length + Dn.length) → suJ T y L Dn → Tt (fun K i => q_X13_summands K i 5 (nI e) (nI L.length) x3 0 0 0 0 0 y) (smE T) := by
  intro M
  have fewR : ∀ {y : ow_MS} {L Dn : List ptT}, suJ T y L Dn → L.length + Dn.length ≤ 12 := fun {y L Dn} h => by
    obtain ⟨-, -, -, -, n, S, -, -, h5⟩ := h
    have := prt_len h5.1 h5.2.2
    rw [List.length_append] at this
    have : L.length + Dn.length ≤ T.1 := this
    omega
  have stop : ∀ {y : ow_MS} {Dn : List ptT} {x3 : Int32}, suJ T y [] Dn → Tt (fun K i => q_X13_summands K i 5 (nI e) (nI 0) x3 0 0 0 0 0 y) (smE T) := by
    intro y Dn x3 ⟨j1, j2, ⟨Ms, j3, j4, j5⟩, j6, n, S, j7, j8, j9⟩
    refine u_X13_summands_5 ?_; unfold qm_X13_summands_5
    exact w_leT (b := 0) (by omega) (by omega) (w_rdF j3.2.1 (w_some ⟨j1, Ms, Dn, n, S, j3, rfl, j4, j5, j6, j7, j8, j9⟩))
  induction M with
  | zero =>
    intro L Dn x3 y hM hJ
    have := fewR hJ
    have h0 : L = [] := List.eq_nil_of_length_eq_zero (by omega)
    subst h0
    exact stop hJ
  | succ M ihM =>
    intro L Dn x3 y hM hJ
    cases L with
    | nil => exact stop hJ
    | cons d L =>
      have hsm := fewR hJ
      rw [List.length_cons] at hM hsm ⊢
      obtain ⟨B, sgB, fB⟩ := d
      obtain ⟨j1, ⟨j2, j2'⟩, ⟨Ms, j3, j4, j5⟩, j6, n, S, j7, j8, j9⟩ := hJ
      have hvB : vRow y 37 (32 * L.length) B sgB := j2
      have hMs : Ms.length = Dn.length := by rw [← j5.length_eq, List.length_map]
      have hrow : rowO (ntS T S) (B, sgB, fB) := j9.1 _ (List.mem_append_left _ List.mem_cons_self)
      refine u_X13_summands_5 ?_; unfold qm_X13_summands_5
      rw [pk_m1, show (32 : Int32) * nI L.length = nI (32 * L.length) from pk_mul 32 L.length]
      refine w_leF (b := 0) (by omega) (by omega) (w_cs0 (to_unpack (by omega) ml37 (by omega) (by omega) hvB) (fun y1 ⟨a1, a2, a3⟩ => w_cs0 (to_link hvB a1 a2) (fun y2 ⟨b1, b2⟩ => ?_)))
      have F2 : fr (fun g => 1001 ≤ g ∧ g ≤ 1011) y y2 := fr_tr (fr_mono (fun g hg => by omega) a3) (fr_mono (fun g hg => by omega) b2)
      have hBl := b1.len
      have hBC := b1.2.2.2
      have hdB := wkF_ok b1.wk
      let I : ow_MS → Prop := fun y4 => fr (fun g => g = 38) y2 y4
      have oI : ∀ {y4 : ow_MS}, I y4 → oNet y4 1000 B sgB := fun hI => oNet_fr hI (fun g hg => by omega) b1
      have e37 : ∀ {y4 : ow_MS}, I y4 → y4.2.1 37 = y.2.1 37 := fun hI => by rw [(hI 37 (by omega)).2.1, (F2 37 (by omega)).2.1]
      have e1z : ∀ {y4 : ow_MS}, I y4 → y4.1 1 = 0 := fun hI => by rw [(hI 1 (by omega)).1, (F2 1 (by omega)).1]; exact j1
      have rlI : ∀ {y4 : ow_MS}, I y4 → rlR 35 39 36 16 y4 Ms := fun hI => rlR_k hI ⟨by omega, by omega, by omega⟩ (rlR_k F2 ⟨by omega, by omega, by omega⟩ j3)
      let nP : Nat → Nat → Nat → Prop := fun c g k => ∀ M, gdM B c g k M → ∃ u, u < B.flatten.length ∧ rn_c B u = c ∧ ¬ (g < u ∧ u ≤ k) ∧ M u = M k
      let NB : Nat → Nat → Nat → Prop := fun c g k => ∀ c' g' k', c' < B.length → rn_b B c' ≤ g' → g' < k' → k' < rn_b B (c' + 1) → (c' < c ∨ c' = c ∧ (g' < g ∨ g' = g ∧ k' < k)) → nP c' g' k'
      let PT : ow_MS → Prop := fun y4 => ∃ c g h9, rEa y4 B c g h9 ∧ c < B.length ∧ rn_b B c ≤ g ∧ g < h9 ∧ h9 < rn_b B (c + 1) ∧ (∀ v, v < B.flatten.length → y4.2.1 38 v = 1 → y4.2.1 38 (mtf B v) = 1) ∧ unU y4 B c
      have c11 : ∀ (x3 x4 : Int32) (y4 : ow_MS), I y4 → (x3 = 0 ∧ NB B.length 0 0 ∨ x3 = 1 ∧ PT y4) → Tt (fun K i => q_X13_summands K i 11 (nI e) (nI L.length) x3 x4 0 0 0 0 y4) (smE T) := by
        intro x3 x4 y4 hI hx
        have hvB4 : vRow y4 37 (32 * L.length) B sgB := vRow_eq9 (fun i _ _ => by rw [e37 hI]) hvB
        have wr4 : wRx y4 L := wRx_eq L (fun i _ => by rw [e37 hI]) j2'
        rcases hx with ⟨hx, hno⟩ | ⟨hx, c, g, h9, pE, pc, pg, pgh, ph, pcl, pun⟩
        · subst hx
          have hBne : B ≠ [] := fun e9 => by
            have h2 : cnA B fB (ntS T S) := hrow.2.1
            rw [e9] at h2
            exact h2.1 rfl
          refine u_X13_summands_11 ?_; unfold qm_X13_summands_11
          rw [show (32 : Int32) * nI L.length = nI (32 * L.length) from pk_mul 32 L.length]
          refine w_ifT rfl (w_cs0 (xp_addS (by omega) (by omega) (rlI hI) hBne hvB4) (fun y5 ⟨⟨k, k1, k2, k3, k4⟩, k5⟩ => ?_))
          refine u_X13_summands_12 ?_; unfold qm_X13_summands_12
          refine ihM L ((B, sgB, fB) :: Dn) 0 y5 (show 24 + L.length ≤ M + 2 * (L.length + (Dn.length + 1)) by omega) ⟨by rw [(k5 1 (by omega)).1]; exact e1z hI, wRx_eq L (fun i _ => by rw [(k5 37 (by omega)).2.1]) wr4, ⟨_, k2, ins_srM j4 k1 k3 k4, ?_⟩, fun d hd => ?_, n, S, j7, j8, prtD_perm j9 ?_⟩
          · have hp : (Ms.take k ++ (B, sgB) :: Ms.drop k).Perm ((B, sgB) :: Ms) := by
              have := List.perm_middle (a := (B, sgB)) (l₁ := Ms.take k) (l₂ := Ms.drop k)
              rw [List.take_append_drop] at this
              exact this
            exact (List.Perm.cons (B, sgB) j5).trans hp.symm
          · rcases List.mem_cons.mp hd with e9 | hd
            · rw [e9]
              exact fun c g k hc h1 h2 h3 => hno c g k hc h1 h2 h3 (Or.inl hc)
            · exact j6 d hd
          · exact List.perm_middle.symm
        · subst hx
          have r01 : ∀ v, v < B.flatten.length → y4.2.1 38 v = 0 ∨ y4.2.1 38 v = 1 := fun v hv9 => (pE v hv9).1
          have hbl := rn_b_le B (c + 1)
          have pcl0 : ∀ v, v < B.flatten.length → y4.2.1 38 v = 0 → y4.2.1 38 (mtf B v) = 0 := fun v hv9 hv0 => (r01 _ (mtf_lt hdB hv9)).resolve_right (fun e9 => by
            have := pcl _ (mtf_lt hdB hv9) e9
            rw [mtf_mtf hdB hv9, hv0] at this
            exact absurd this (by decide))
          have hs : prS B c g h9 (fun v => decide (y4.2.1 38 v = bZ true)) := by
            refine ⟨Or.inl (fun v v1 v2 => ?_), fun a b ha hb e1 e2 => ?_, fun v hv9 e9 => decide_eq_true (pcl v hv9 (of_decide_eq_true e9))⟩
            · rw [decide_eq_true_iff]
              exact (pE v (by omega)).2 (rn_c_of B c v v1 v2)
            · show decide (y4.2.1 38 a = bZ true) = decide (y4.2.1 38 b = bZ true)
              rw [pun a b ha hb e1 e2]
          refine u_X13_summands_11 ?_; unfold qm_X13_summands_11
          rw [nI_1, show nI L.length + 2 = nI (L.length + 2) from nI_add L.length 2]
          refine w_ifF (by decide) (w_cs0 (xp_waits (b := true) pn1 (by omega) (by omega) (oI hI) pcl) (fun y5 ⟨⟨m5, P5, k5, r5⟩, f5, i5⟩ => ?_))
          have e38 : y5.2.1 38 = y4.2.1 38 := (f5 38 (by omega)).2.1
          have o5 : oNet y5 1000 B sgB := oNet_fr f5 (fun g hg => by omega) (oI hI)
          refine w_cs0 (xp_waits (b := false) (at9 := L.length + 1) pn1 (by omega) (by omega) o5 (by rw [e38]; exact pcl0)) (fun y6 ⟨⟨m6, P6, k6, r6⟩, f6, i6⟩ => ?_)
          have ew : wfW B (fun v => decide (y5.2.1 38 v = bZ false)) B.length = wfW B (fun v => !decide (y4.2.1 38 v = bZ true)) B.length := wfW_cg (fun v hv9 => by
            show decide (y5.2.1 38 v = bZ false) = !decide (y4.2.1 38 v = bZ true)
            rw [e38]
            rcases r01 v hv9 with e9 | e9 <;> rw [e9] <;> decide) _
          rw [ew] at k6 r6
          obtain ⟨q1, d1, d2, q2, q3, q4⟩ := prt_step (T := ntS T S) (D := L ++ Dn) j9 j7 pc pg pgh ph hs k5 k6
          rw [q2] at r5
          rw [q3] at r6
          have w1 := q4.1 d1 List.mem_cons_self
          have w2 := q4.1 d2 (List.mem_cons_of_mem _ List.mem_cons_self)
          have gl' : g < B.flatten.length := by omega
          have kl : h9 < B.flatten.length := by omega
          have hem : emN B sgB fB (ntS T S) := hrow.1
          have lg9 : lbv B fB g < 2 * T.1 := em_lt (T := ntS T S) hem gl'
          have lk9 : lbv B fB h9 < 2 * T.1 := em_lt (T := ntS T S) hem kl
          refine u_X13_summands_12 ?_; unfold qm_X13_summands_12
          refine ihM (d2 :: d1 :: L) Dn 1 y6 (by rw [List.length_cons, List.length_cons]; omega) ⟨?_, ⟨?_, ?_, ?_⟩, ⟨Ms, ?_, j4, j5⟩, j6, n + 1, np_exchange S (lbv B fB g) (lbv B fB h9), vn_exchange j7 lg9 lk9, st_snoc n _ j8 q1, prtD_perm q4 ?_⟩
          · rw [(f6 1 (by omega)).1, (f5 1 (by omega)).1]
            exact e1z hI
          · exact ⟨r6, w2.2.2.2⟩
          · exact ⟨rc_eq (fun i h1 h2 => i6 i (by omega)) r5, w1.2.2.2⟩
          · exact wRx_eq L (fun i hi => by rw [i6 i (by omega), i5 i (by omega)]) wr4
          · exact rlR_k f6 ⟨by omega, by omega, by omega⟩ (rlR_k f5 ⟨by omega, by omega, by omega⟩ (rlI hI))
          · exact List.Perm.swap d2 d1 (L ++ Dn)
      have l6 : ∀ (dd c : Nat) (x3 : Int32) (y4 : ow_MS), c + dd = B.length → I y4 → (x3 = 0 ∧ NB c 0 0 ∨ x3 = 1 ∧ PT y4) → Tt (fun K i => q_X13_summands K i 6 (nI e) (nI L.length) x3 (nI c) 0 0 0 0 y4) (smE T) := by
        intro dd
        induction dd with
        | zero =>
          intro c x3 y4 hc hI hx
          have hcB : c = B.length := by omega
          rw [hcB] at hx ⊢
          refine u_X13_summands_6 ?_; unfold qm_X13_summands_6
          exact w_rdF (lk_C (oI hI).1) (w_leT (by omega) (by omega) (c11 x3 _ y4 hI hx))
        | succ dd ih6 =>
          intro c x3 y4 hc hI hx
          have m1 := rn_b_mono B c
          have m2 := rn_b_le B (c + 1)
          have c10 : ∀ (x5 x3 : Int32) (y4 : ow_MS), I y4 → (x3 = 0 ∧ NB (c + 1) 0 0 ∨ x3 = 1 ∧ PT y4) → Tt (fun K i => q_X13_summands K i 10 (nI e) (nI L.length) x3 (nI c) x5 0 0 0 y4) (smE T) := by
            intro x5 x3 y4 hI hx
            refine u_X13_summands_10 ?_; unfold qm_X13_summands_10
            rw [nI_1]
            exact ih6 (c + 1) x3 y4 (by omega) hI hx
          have l7 : ∀ (dg g : Nat) (x3 : Int32) (y4 : ow_MS), g + dg = rn_b B (c + 1) → rn_b B c ≤ g → I y4 → (x3 = 0 ∧ NB c g 0 ∨ x3 = 1 ∧ PT y4) → Tt (fun K i => q_X13_summands K i 7 (nI e) (nI L.length) x3 (nI c) (nI g) 0 0 0 y4) (smE T) := by
            intro dg
            induction dg with
            | zero =>
              intro g x3 y4 hg hlo hI hx
              refine u_X13_summands_7 ?_; unfold qm_X13_summands_7
              rw [nI_1]
              refine w_rdI (pl3 pn1) rfl (by omega) (lk_b (oI hI).1 (by omega)) (w_leT (by omega) (by omega) (c10 _ x3 y4 hI (hx.imp (fun ⟨q1, q2⟩ => ⟨q1, fun c' g' k' h1 h2 h3 h4 h5 => q2 c' g' k' h1 h2 h3 h4 ?_⟩) id)))
              by_cases ec : c' = c
              · subst ec
                exact Or.inr ⟨rfl, Or.inl (by omega)⟩
              · exact Or.inl (by omega)
            | succ dg ih7 =>
              intro g x3 y4 hg hlo hI hx
              have c9 : ∀ (x6 x3 : Int32) (y4 : ow_MS), I y4 → (x3 = 0 ∧ NB c (g + 1) 0 ∨ x3 = 1 ∧ PT y4) → Tt (fun K i => q_X13_summands K i 9 (nI e) (nI L.length) x3 (nI c) (nI g) x6 0 0 y4) (smE T) := by
                intro x6 x3 y4 hI hx
                refine u_X13_summands_9 ?_; unfold qm_X13_summands_9
                rw [nI_1]
                exact ih7 (g + 1) x3 y4 (by omega) (by omega) hI hx
              have l8 : ∀ (dh h9 : Nat) (x3 : Int32) (y4 : ow_MS), h9 + dh = rn_b B (c + 1) → g < h9 → I y4 → (x3 = 0 ∧ NB c g h9 ∨ x3 = 1 ∧ PT y4) → Tt (fun K i => q_X13_summands K i 8 (nI e) (nI L.length) x3 (nI c) (nI g) (nI h9) 0 0 y4) (smE T) := by
                intro dh
                induction dh with
                | zero =>
                  intro h9 x3 y4 hh hlo8 hI hx
                  refine u_X13_summands_8 ?_; unfold qm_X13_summands_8
                  rw [nI_1]
                  refine w_rdI (pl3 pn1) rfl (by omega) (lk_b (oI hI).1 (by omega)) (w_leT (by omega) (by omega) (c9 _ x3 y4 hI (hx.imp (fun ⟨q1, q2⟩ => ⟨q1, fun c' g' k' h1 h2 h3 h4 h5 => q2 c' g' k' h1 h2 h3 h4 ?_⟩) id)))
                  by_cases ec : c' = c
                  · subst ec
                    exact Or.inr ⟨rfl, by omega⟩
                  · exact Or.inl (by omega)
                | succ dh ih8 =>
                  intro h9 x3 y4 hh hlo8 hI hx
                  refine u_X13_summands_8 ?_; unfold qm_X13_summands_8
                  rw [nI_1, nI_1]
                  refine w_rdI (pl3 pn1) rfl (by omega) (lk_b (oI hI).1 (by omega)) (w_leF (by omega) (by omega) (w_if (fun hx0 => w_cs1 (xp_parted (oI hI) (by omega) hlo hlo8 (by omega)) (fun a y5 ⟨r1, r2, r3, r4⟩ => ?_)) (fun hx0 => c9 _ x3 y4 hI (hx.imp (fun q => absurd q.1 hx0) id))))
                  have r1 : fr (fun i => i = 38) y4 y5 := r1
                  have r2 : a = 0 ∨ a = 1 := r2
                  have r3 : a = 1 → rEa y5 B c g h9 ∧ (∀ v, v < B.flatten.length → y5.2.1 38 v = 1 → y5.2.1 38 (mtf B v) = 1) ∧ unU y5 B c := r3
                  have r4 : a = 0 → nP c g h9 := r4
                  refine ih8 (h9 + 1) a y5 (by omega) (by omega) (fr_tr hI r1) (r2.imp (fun e9 => ⟨e9, fun c' g' k' h1 h2 h3 h4 h5 => ?_⟩) (fun e9 => ⟨e9, c, g, h9, (r3 e9).1, by omega, hlo, hlo8, by omega, (r3 e9).2⟩))
                  rcases hx with ⟨-, q2⟩ | ⟨q1, -⟩
                  · by_cases ec : c' = c ∧ g' = g ∧ k' = h9
                    · obtain ⟨rfl, rfl, rfl⟩ := ec
                      exact r4 e9
                    · exact q2 c' g' k' h1 h2 h3 h4 (by omega)
                  · rw [hx0] at q1
                    exact absurd q1 (by decide)
              refine u_X13_summands_7 ?_; unfold qm_X13_summands_7
              rw [nI_1, nI_1]
              refine w_rdI (pl3 pn1) rfl (by omega) (lk_b (oI hI).1 (by omega)) (w_leF (by omega) (by omega) (w_if (fun hx0 => l8 (rn_b B (c + 1) - (g + 1)) (g + 1) x3 y4 (by omega) (by omega) hI (hx.imp (fun ⟨q1, q2⟩ => ⟨q1, fun c' g' k' h1 h2 h3 h4 h5 => q2 c' g' k' h1 h2 h3 h4 (by omega)⟩) id)) (fun hx0 => c10 _ x3 y4 hI (hx.imp (fun q => absurd q.1 hx0) id))))
          refine u_X13_summands_6 ?_; unfold qm_X13_summands_6
          refine w_rdF (lk_C (oI hI).1) (w_leF (by omega) (by omega) (w_if (fun hx0 => w_rdI (pl3 pn1) rfl (by omega) (lk_b (oI hI).1 (by omega)) (l7 (rn_b B (c + 1) - rn_b B c) (rn_b B c) x3 y4 (by omega) (Nat.le_refl _) hI (hx.imp (fun ⟨q1, q2⟩ => ⟨q1, fun c' g' k' h1 h2 h3 h4 h5 => q2 c' g' k' h1 h2 h3 h4 ?_⟩) id))) (fun hx0 => c11 x3 _ y4 hI (hx.imp (fun q => absurd q.1 hx0) id))))
          by_cases ec : c' = c
          · subst ec
            omega
          · omega
      exact l6 B.length 0 0 y2 (by omega) fr_rf (Or.inl ⟨rfl, fun c' g' k' h1 h2 h3 h4 h5 => by omega⟩)
end XTA
end
section
/-! 99zzzzzzzzzzzzzg.xsu15 -/
/-! summands of the reference: the first phase -/
section XTB
variable {X : (Nat → Nat → Int32) → Prop} {z : ow_MS} {St : plT} {x : Int32} {T : ow_NT} {A : rn_L} {sg : Nat → Bool} {f : Nat → Nat}
theorem xq_sumN (h : gI X z) (hR : relR z St) (h0 : ∀ d, d < 40 → x = nI d → St d = none) : Te (fun K => qe_X13_summands K x z) (rFl X z 1) := by
  have h1 := gI_1 (c := 0) h
  have hR1 := relR_1 (c := 0) hR
  refine e_X13_summands ?_
  refine u_X13_summands_0 ?_; unfold qm_X13_summands_0
  refine w_wrF (w_hasX hR1 (fun _ => w_ifT rfl (w_failX (k := 1) h1 fr_1)) (fun d A sg hd hx hSt hv hne => ?_))
  rw [h0 d hd hx] at hSt
  cases hSt
theorem xq_sum {d : Nat} (hR : relR z St) (hd : d < 40) (hSt : St d = some (A, sg)) (hi : isoN A sg f T) (hv : vn T.1 T.2.2.1) : Te (fun K => qe_X13_summands K (nI d) z) (smE T) := by
  have hR1 := relR_1 (c := 0) hR
  refine e_X13_summands ?_
  refine u_X13_summands_0 ?_; unfold qm_X13_summands_0
  refine w_wrF (w_hasX hR1 (fun h0 => ?_) (fun d' A' sg' hd' hx hSt' hvr hne => w_ifF (by decide) ?_))
  · rw [h0 d hd rfl] at hSt
    cases hSt
  have ed := nI_inj9 (a := d) (b := d') (by omega) (by omega) hx
  subst ed
  rw [hSt] at hSt'
  cases hSt'
  have hT12 := hi.2.2.1
  refine w_cs0 (to_open pn2 hd hvr) (fun z2 ⟨o1, f1⟩ => w_cs0 (tn_split pn2 (by have := o1.len; omega) (by have := o1.2.2.2; omega) (wkF_ok o1.wk) o1.1) (fun z3 ⟨f3, P, hpt⟩ => ?_))
  have o3 : oNet z3 2000 A sg := oNet_fr f3 (fun g hg => by rcases hg with hg | hg <;> omega) o1
  have e1 : z3.1 1 = 0 := by
    rw [(f3 1 (fun hg => by rcases hg with hg | hg <;> omega)).1, (f1 1 (by omega)).1]
    exact po_usF_at
  have hl := o3.len
  have hC := o3.2.2.2
  have hdk := wkF_ok o3.wk
  obtain ⟨m, hk, hmz⟩ := mk_of (by omega) hpt
  have hP := hpt.2.1
  let K1 : ow_MS → Prop := fun y => fr (fun g => 2 ≤ g ∧ g ≤ 9 ∨ g = 37 ∨ g = 38 ∨ 3001 ≤ g ∧ g ≤ 3013) z3 y
  have oK : ∀ {y : ow_MS}, K1 y → oNet y 2000 A sg := fun hf => oNet_fr hf (fun g hg => by omega) o3
  have ph1 : ∀ (k p : Nat) (L : List ptT) (y : ow_MS), p + k = P → K1 y → wRx y L → prtP T A f m p L → Tt (fun K i => q_X13_summands K i 1 (nI d) (nI L.length) (nI p) 0 0 0 0 0 y) (smE T) := by
    intro k
    induction k with
    | zero =>
      intro p L y hp hf hw hD
      have hpP : p = P := by omega
      rw [hpP] at hD
      have e13 : y.1 2013 = nI P := by rw [(hf 2013 (by omega)).1]; exact hpt.1
      refine u_X13_summands_1 ?_; unfold qm_X13_summands_1
      refine w_rdF e13 (w_leT (by omega) (by omega) (w_wrF ?_))
      refine xp_sum2 hT12 24 L [] _ _ (by rw [List.length_nil]; omega) ⟨?_, wRx_eq (y := y) L (fun i _ => rfl) hw, ⟨[], ⟨Nat.zero_le _, po_usF_at, fun k A sg hk => by rw [List.getElem?_nil] at hk; cases hk⟩, List.Pairwise.nil, List.Perm.nil⟩, fun d hd => absurd hd List.not_mem_nil, 0, T.2.2.1, hv, rfl, ?_⟩
      · have := (hf 1 (by omega)).1
        exact rf_ot (by omega) (this.trans e1)
      · rw [List.append_nil]
        exact ini_end hi hk hD
    | succ k ih =>
      intro p L y hp hf hw hD
      have e13 : y.1 2013 = nI P := by rw [(hf 2013 (by omega)).1]; exact hpt.1
      have hLl := prt_len hD.1 hD.2.2.2
      have l2 : ∀ (dd v : Nat) (x4 : Int32) (y : ow_MS), v + dd = A.flatten.length → K1 y → wRx y L → (∀ v', v' < v → y.2.1 38 v' = bZ (decide (m (rn_c A v') = p))) → ((x4 = 0 ∧ ∀ v', v' < v → m (rn_c A v') ≠ p) ∨ x4 = 1 ∧ ∃ v', v' < v ∧ m (rn_c A v') = p) → Tt (fun K i => q_X13_summands K i 2 (nI d) (nI L.length) (nI p) x4 (nI v) 0 0 0 y) (smE T) := by
        intro dd
        induction dd with
        | zero =>
          intro v x4 y hv9 hf hw hr hx
          have hvV : v = A.flatten.length := by omega
          rw [hvV] at hr hx ⊢
          have c4 : ∀ (x4 : Int32) (L2 : List ptT) (y2 : ow_MS), K1 y2 → wRx y2 L2 → prtP T A f m (p + 1) L2 → Tt (fun K i => q_X13_summands K i 4 (nI d) (nI L2.length) (nI p) x4 (nI A.flatten.length) 0 0 0 y2) (smE T) := by
            intro x4 L2 y2 hf2 hw2 hs2
            refine u_X13_summands_4 ?_; unfold qm_X13_summands_4
            rw [nI_1]
            exact ih (p + 1) L2 y2 (by omega) hf2 hw2 hs2
          refine u_X13_summands_2 ?_; unfold qm_X13_summands_2
          refine w_rdF (oK hf).1.V (w_leT (by omega) (Nat.le_refl _) ?_)
          rcases hx with ⟨hx, hno⟩ | ⟨hx, v0, hv0, hm0⟩
          · subst hx
            exact w_ifT rfl (c4 0 L y hf hw (ini_no hD hno))
          · subst hx
            have hclo : ∀ v', v' < A.flatten.length → y.2.1 38 v' = bZ true → y.2.1 38 (mtf A v') = bZ true := by
              intro v' hv' h9
              have hml := mtf_lt hdk hv'
              rw [hr _ hv'] at h9
              have hmp : m (rn_c A v') = p := by
                by_cases h8 : m (rn_c A v') = p
                · exact h8
                · rw [decide_eq_false h8] at h9
                  exact absurd h9 (by decide)
              rw [hr _ hml, ← hk.2.1 _ _ ⟨v', mtf A v', mtf_mt hdk hv', rfl, rfl⟩, hmp, decide_eq_true rfl]
            rw [nI_1]
            refine w_ifF (by decide) (w_cs0 (xp_waits (b := true) pn2 (by omega) (by omega) (oK hf) hclo) (fun y5 ⟨⟨m5, P5, k5, r5⟩, f5, i5⟩ => ?_))
            have ew : wfW A (fun v => decide (y.2.1 38 v = bZ true)) A.length = wfW A (fun v => decide (m (rn_c A v) = p)) A.length := wfW_cg (fun v hv9 => by
              show decide (y.2.1 38 v = bZ true) = decide (m (rn_c A v) = p)
              rw [hr v hv9]
              cases decide (m (rn_c A v) = p) <;> decide) _
            rw [ew] at k5 r5
            obtain ⟨d5, q1, q2⟩ := ini_s hi hv hk hC hD hv0 hm0 k5
            rw [q1] at r5
            have w5 := q2.1 d5 List.mem_cons_self
            exact c4 1 (d5 :: L) y5 (fr_tr hf (fr_mono (fun g hg => by omega) f5)) ⟨⟨r5, w5.2.2.2⟩, wRx_eq L (fun i hi => i5 i (by omega)) hw⟩ q2
        | succ dd ihd =>
          intro v x4 y hv9 hf hw hr hx
          have hvl : v < A.flatten.length := by omega
          have hcl := (rn_c_in A v hvl).1
          have e12 : y.2.1 2012 (rn_c A v) = nI (m (rn_c A v)) := by
            rw [(hf 2012 (by omega)).2.1]
            exact hmz _ hcl
          have hmP := hk.1 _ hcl
          have c3 : ∀ (b : Bool), decide (m (rn_c A v) = p) = b → Tt (fun K i => q_X13_summands K i 3 (nI d) (nI L.length) (nI p) x4 (nI v) 0 (bZ b) (nI v) y) (smE T) := by
            intro b hb
            refine u_X13_summands_3 ?_; unfold qm_X13_summands_3
            rw [nI_1]
            refine w_wrZ ml38 rfl (by omega) (w_rdI ml38 rfl (by omega) (x := bZ b) (by rw [po_usI_at]; cases b <;> rfl) ?_)
            have f9 : fr (fun g => g = 38) y (usI y 38 v (vp_nar .boolean (bZ b))) := fr_I rfl
            refine ihd (v + 1) (x4 ||| bZ b) _ (by omega) (fr_tr hf (fr_mono (fun g hg => by omega) f9)) (wRx_eq L (fun i _ => by rw [(f9 37 (by omega)).2.1]) hw) (fun v' hv' => ?_) ?_
            · by_cases hvv : v' = v
              · rw [hvv, po_usI_at, hb]
                cases b <;> rfl
              · rw [po_usI_ne hvv]
                exact hr v' (by omega)
            · rcases hx with ⟨e0, hall⟩ | ⟨e0, v0, hv0, hm0⟩
              · subst e0
                cases b with
                | true => exact Or.inr ⟨by decide, v, by omega, of_decide_eq_true hb⟩
                | false =>
                  refine Or.inl ⟨by decide, fun v' hv' => ?_⟩
                  by_cases hvv : v' = v
                  · rw [hvv]; exact of_decide_eq_false hb
                  · exact hall v' (by omega)
              · subst e0
                exact Or.inr ⟨by cases b <;> decide, v0, by omega, hm0⟩
          refine u_X13_summands_2 ?_; unfold qm_X13_summands_2
          exact w_rdF (oK hf).1.V (w_leF (by omega) (by omega) (w_rdI (pl8 pn2) rfl (by omega) (lk_c (oK hf).1 hvl) (w_rdI (pl12 pn2) rfl (by omega) e12 (w_eqN (by omega) (by omega) (fun h9 => c3 true (decide_eq_true h9)) (fun h9 => c3 false (decide_eq_false h9))))))
      refine u_X13_summands_1 ?_; unfold qm_X13_summands_1
      exact w_rdF e13 (w_leF (by omega) (by omega) (l2 A.flatten.length 0 0 y (by omega) hf hw (fun v' hv' => by omega) (Or.inl ⟨rfl, fun v' hv' => by omega⟩)))
  exact ph1 P 0 [] z3 (by omega) fr_rf trivial ini_0
end XTB
end
section
/-! 99zzzzzzzzzzzzzh.xsu16 -/
/-! the rows at the end of parting, and the codes that the class finds -/
section XTC
variable {A : rn_L} {sg : Nat → Bool} {f : Nat → Nat} {T : ow_NT} {d : ptT} {D : List ptT} {S S' : ow_NP} {Cs : List cdT} {os : List Nat} {c : Nat}
theorem stG_em (h : emN A sg f T) (hT : pm1 T) {p : vT} (hp : p ∈ A.flatten) : stG T.2.2.2 (gl f p) = (decide (p.2 = 0) == !sg p.1) := by
  obtain ⟨t1, t2, t3, t4⟩ := em_to h
  have h2 := (h.1.2 p hp).2.1
  obtain ⟨e1, e2⟩ := gl_hf (f := f) h2
  have hx := t1 p hp
  have hs := t4 p hp
  unfold stG
  rw [e1, e2]
  congr 1
  rcases hT _ hx with e | e
  · rw [e] at hs ⊢
    cases hq : sg p.1 with
    | true => exact absurd (hs.mpr hq) (by decide)
    | false => rfl
  · rw [e] at hs ⊢
    cases hq : sg p.1 with
    | true => rfl
    | false =>
      have := hs.mp (by decide)
      rw [hq] at this
      cases this
/-- what a part of a plane net shows is plane -/
theorem em_pl (h : emN A sg f T) (hv : vn T.1 T.2.2.1) (hT : pm1 T) (hp : nt_plane T = true) : plnA A sg := by
  intro f' T' h' hT'
  obtain ⟨t1, t2, t3, t4⟩ := em_to h
  have hv' := isoV_vn h'
  have ex : ∀ v, ∃ u, ∀ p, p ∈ A.flatten → gl f' p = v → u = gl f p := fun v => by
    by_cases h9 : ∃ p, p ∈ A.flatten ∧ gl f' p = v
    · obtain ⟨p, p1, p2⟩ := h9
      exact ⟨gl f p, fun q q1 q2 => by rw [gl_gin h'.1 p q p1 q1 (p2.trans q2.symm)]⟩
    · exact ⟨0, fun p p1 p2 => absurd ⟨p, p1, p2⟩ h9⟩
  obtain ⟨ψ, hψ⟩ := Classical.skolem.mp ex
  have at9 : ∀ p, p ∈ A.flatten → ψ (gl f' p) = gl f p := fun p hp => hψ _ p hp rfl
  rw [plane_iff hv' h'.1.2.2.1]
  refine sub_pl hv stG_fl hv' (ψ := ψ) (fun v hv9 => ?_) (fun u v hu hv9 e => ?_) ((plane_iff hv h.2.2.1).mp hp)
  · obtain ⟨p, p1, rfl⟩ := gl_sur h' hv9
    have hp2 := h.1.2 p p1
    obtain ⟨L, l1, l2⟩ := List.mem_flatten.mp p1
    have nL := L_nd h.1.1 l1
    rw [at9 p p1]
    refine ⟨?_, ?_, ?_, ?_⟩
    · have := t1 p p1
      have := hp2.2.1
      unfold gl
      omega
    · rw [t3 L l1 p l2, (h'.2 L l1 p l2).1]
      exact (at9 _ (List.mem_flatten.mpr ⟨L, l1, sc_in l2 nL⟩)).symm
    · rw [gl_mate hp2.2.1, gl_mate hp2.2.1]
      exact (at9 _ hp2.2.2).symm
    · rw [stG_em h hT p1, stG_gl h' hT' p1]
  · obtain ⟨p, p1, rfl⟩ := gl_sur h' hu
    obtain ⟨q, q1, rfl⟩ := gl_sur h' hv9
    rw [at9 p p1, at9 q q1] at e
    rw [gl_inj h p1 q1 e]
theorem rch_pt {a b : Nat} (h : rch c S a b) : ptN c S.1 a b := fun m hm => (h (fun u => m u = m a) rfl (fun j hj e => (hm j hj).1.trans e) (fun j hj e => (hm j hj).2.trans e)).symm
/-- parting keeps plane -/
theorem all_pl (hc : T.1 ≤ 12) : ∀ (k : Nat) (S : ow_NP), vn T.1 S → nt_plane (ntS T S) = true → nt_plane (ntS T (np_all T.1 k S)) = true
  | 0, S, _, hp => hp
  | k + 1, S, hv, hp => by
    rw [np_all]
    cases e : np_once T.1 S with
    | none =>
      rw [if_neg (by rw [Option.isSome_none]; decide)]
      exact hp
    | some q =>
      rw [if_pos Option.isSome_some]
      have h1 := po_v_in (2 * T.1) 0 (by omega) e
      have h2 := po_v_lt _ _ e
      have h3 := po_v_P _ _ e
      have hpr := (po_iff hv hc h1.1 h1.2 (by omega)).mp h3
      have hv' := vn_exchange hv h1.1 h1.2
      refine all_pl hc k (np_exchange S q.1 q.2) hv' ?_
      have hpl : pn_pl T.1 S (stG T.2.2.2) := (plane_iff (T := ntS T S) hv hc).mp hp
      have hb := ex_bridge hv stG_fl hpl h1.1 h1.2 (fun h9 => hpr.2.2.2.2 (rch_pt h9))
      exact (plane_iff (T := ntS T (np_exchange S q.1 q.2)) hv' hc).mpr (pn_exch hv stG_fl hpl h1.1 h1.2 (by omega) (Or.inr (Or.inl hb.1)))
/-- the code of a list that is one part is its row -/
theorem gp_cl {B : rn_L} (h : gp B c) (hc : c ≤ 12) (h6 : B.length ≤ 6) : okL B c ∧ ∀ sgB, clC sgB B = (c, tk sgB B) := by
  have e0 : shN 0 B = B := by
    unfold shN
    have : ∀ L : List (Nat × Nat), L.map (fun p => (p.1 + 0, p.2)) = L := fun L => List.map_id L
    rw [show (fun L : List (Nat × Nat) => L.map (fun p => (p.1 + 0, p.2))) = fun L => L from funext this, List.map_id']
  have hl := okF_len h.1
  have key : ∀ sgB, ucd sgB 0 [] B = tk sgB B ∧ bsO 0 [] B := fun sgB => by
    obtain ⟨u1, u2⟩ := ucd_part (sg := sgB) (sgB := sgB) (R := []) clD_nil h (fun x _ => rfl) B.length 0 (by omega) (List.length_pos_iff.mpr h.2.2.2.1)
    rw [show B.take 0 = [] from rfl, show shN 0 [] = [] from rfl, List.append_nil, List.drop_zero, e0, List.append_nil] at u1 u2
    refine ⟨?_, u2 trivial⟩
    rw [u1]
    show tk sgB B ++ [] = _
    rw [List.append_nil]
  refine ⟨⟨h.1, h.2.1, (key (fun _ => true)).2, hc, h6⟩, fun sgB => ?_⟩
  unfold clC
  rw [(key sgB).1, hl, show 2 * c / 2 = c by omega]
/-- a row is read off itself -/
theorem row_tr (h : rowO T d) : ∃ s, s < d.1.flatten.length ∧ d.1.length = (trS d.1 s).length ∧ gp d.1 (d.1.flatten.length / 2) := by
  obtain ⟨h1, h2, h3, ⟨c, h4, h5⟩, h6⟩ := h
  have h3 : lsC d.1 d.2.1 (List.range d.1.flatten.length) = some (tk d.2.1 d.1) := h3
  obtain ⟨w, w1, w2⟩ := lsC_mem _ h3
  have hw := List.mem_range.mp w1
  obtain ⟨B, sgB, g1, g2, g3, g4⟩ := cdv_gp (sg := d.2.1) h1.1 hw
  obtain ⟨eB, -⟩ := tk_inj d.1 B (fun p hp => (h1.1.2 p hp).2.1) (fun p hp => ((g1.1.2 p).mp hp).2) (w2.trans g2)
  subst eB
  refine ⟨w, hw, g4, ?_⟩
  have := okF_len g1.1
  rw [show d.1.flatten.length / 2 = (fm d.1 (vsO d.1 (trS d.1 w))).length by omega]
  exact g1
theorem row_ne (h : rowO T d) : ∀ L, L ∈ d.1 → L ≠ [] := by
  obtain ⟨s, s1, s2, -⟩ := row_tr h
  obtain ⟨t1, -, -, -⟩ := trS_all (wkF_ok h.1.1) s1
  intro L hL e
  obtain ⟨k, hk, ek⟩ := List.getElem_of_mem hL
  have hm : k ∈ (trS d.1 s).map (rn_c d.1) := full_mem (n := d.1.length) t1.1 (by rw [List.length_map, s2]) (fun x hx => by
    obtain ⟨t, ht, rfl⟩ := List.mem_map.mp hx
    exact (rc_mem (t1.2 t ht)).1) hk
  obtain ⟨t, ht, et⟩ := List.mem_map.mp hm
  have := (rc_mem (t1.2 t ht)).2
  rw [et, List.getD_eq_getElem?_getD, List.getElem?_eq_getElem hk, ek, e] at this
  cases this
/-- the code that the class finds of the part that a row shows -/
theorem row_cd (h : rowO T d) (hv : vn T.1 T.2.2.1) {r : Nat} {C : cdT} (er : (np_parts T.1 T.2.2.1.1).1 (lbv d.1 d.2.2 0) = nI r) (hC : epC T (np_parts T.1 T.2.2.1.1).1 (nI r) C) : okL d.1 C.1 ∧ C = clC d.2.1 d.1 := by
  obtain ⟨s9, -, -, hgp⟩ := row_tr h
  obtain ⟨h1, h2, h3, ⟨c, h4, h5⟩, h6⟩ := h
  have h3 : lsC d.1 d.2.1 (List.range d.1.flatten.length) = some (tk d.2.1 d.1) := h3
  have hc := h1.2.2.1
  have hl : 0 < d.1.flatten.length := List.length_pos_iff.mpr h2.1
  obtain ⟨k, k1, k2, k3, k4⟩ := epC_le (n0 := ptL T.1 T.2.2.1 r) (fun v hv1 ev => tf_len_pt T.2.2.2 hv hc hv1 ev) ⟨_, em_lt h1 hl, er⟩ hC
  have pk : ptN T.1 T.2.2.1.1 (lbv d.1 d.2.2 0) k := (pt_iff9 hv hc (em_lt h1 hl) k1).mp (er.trans k2.symm)
  obtain ⟨s, s1, s2, -⟩ := em_lab h1 hv (q := fun _ => 0) (fun _ _ => rfl) (fun _ _ => rfl) hl pk
  have e2 : C.2 = cdv d.1 d.2.1 s := by
    rw [k3, ← s2]
    exact em_code h1 (by omega) s1
  have e3 : C.2 = tk d.2.1 d.1 := by
    obtain ⟨w, w1, w2⟩ := lsC_mem _ h3
    have a1 := lsC_le _ _ h3 s (List.mem_range.mpr s1)
    have hw := List.mem_range.mp w1
    have a2 : lexD C.2 (tk d.2.1 d.1) ≤ 0 := by
      rw [w2, ← em_code h1 (by omega) hw]
      refine k4 _ (em_lt h1 hw) ?_
      rw [← er]
      exact (pt_iff9 hv hc (em_lt h1 hw) (em_lt h1 hl)).mpr (h2.2 w 0 hw hl)
    rw [← e2] at a1
    have a3 := lexD_sym (tk d.2.1 d.1) C.2
    exact (lexD_0 _ _ (by omega)).symm
  have cnt : cntV (np_parts T.1 T.2.2.1.1).1 (nI r) (2 * T.1) = d.1.flatten.length := by
    have e9 : d.1.flatten.length = ((List.range d.1.flatten.length).map (lbv d.1 d.2.2)).length := by rw [List.length_map, List.length_range]
    rw [cntV_f, e9]
    refine nodup_eq (nodup_filter List.nodup_range) (nodup_map List.nodup_range (fun a b ha hb e => em_inj h1 (List.mem_range.mp ha) (List.mem_range.mp hb) e)) (fun k => ?_)
    rw [List.mem_filter, List.mem_range, decide_eq_true_iff, List.mem_map]
    constructor
    · rintro ⟨q1, q2⟩
      obtain ⟨v, v1, v2, -⟩ := em_lab h1 hv (q := fun _ => 0) (fun _ _ => rfl) (fun _ _ => rfl) hl ((pt_iff9 hv hc (em_lt h1 hl) q1).mp (er.trans q2.symm))
      exact ⟨v, List.mem_range.mpr v1, v2⟩
    · rintro ⟨v, v1, rfl⟩
      have v1 := List.mem_range.mp v1
      refine ⟨em_lt h1 v1, ?_⟩
      rw [← er]
      exact (pt_iff9 hv hc (em_lt h1 v1) (em_lt h1 hl)).mpr (h2.2 v 0 v1 hl)
  have hC1 : C.1 = d.1.flatten.length / 2 := by rw [hC.1, cnt]
  have hlen := okF_len h4
  rw [← hC1] at hgp
  obtain ⟨q1, q2⟩ := gp_cl hgp (by omega) h6
  refine ⟨q1, ?_⟩
  rw [q2, ← e3]
/-- a row is the list of its own code -/
theorem row_nrm (h : rowO T d) (hv : vn T.1 T.2.2.1) : nrm d.1 d.2.1 := by
  have hne := row_ne h
  obtain ⟨s9, -, -, hgp⟩ := row_tr h
  obtain ⟨h1, h2, h3, ⟨c, h4, h5⟩, h6⟩ := h
  have h3 : lsC d.1 d.2.1 (List.range d.1.flatten.length) = some (tk d.2.1 d.1) := h3
  have hlen := okF_len h4
  obtain ⟨f', R, i1, i2⟩ := net_of h1.1 (by omega) h6 d.2.1
  have iN : isoN d.1 d.2.1 f' (R.1, R.2.1, R.2.2.1, fun x => if R.2.2.2 x < 0 then -1 else 1) := by
    refine ⟨i1.1, i1.2.1, i1.2.2.1, i1.2.2.2.1, i1.2.2.2.2.1, i1.2.2.2.2.2.1, fun v hv9 => ?_, i1.2.2.2.2.2.2.2⟩
    rw [← i1.2.2.2.2.2.2.1 v hv9]
    show (if R.2.2.2 (f' (crs d.1 v)) < 0 then (-1 : Int32) else 1) < 0 ↔ _
    by_cases e : R.2.2.2 (f' (crs d.1 v)) < 0
    · rw [if_pos e]
      exact ⟨fun _ => e, fun _ => by decide⟩
    · rw [if_neg e]
      exact ⟨fun h9 => absurd h9 (by decide), fun h9 => absurd h9 e⟩
  have pm : pm1 (R.1, R.2.1, R.2.2.1, fun x => if R.2.2.2 x < 0 then -1 else 1) := fun x _ => by
    show (if R.2.2.2 x < 0 then (-1 : Int32) else 1) = 1 ∨ (if R.2.2.2 x < 0 then (-1 : Int32) else 1) = -1
    by_cases e : R.2.2.2 x < 0
    · rw [if_pos e]
      exact Or.inr rfl
    · rw [if_neg e]
      exact Or.inl rfl
  have n2 : nv (R.1, R.2.1, R.2.2.1, fun x => if R.2.2.2 x < 0 then -1 else 1) := i2
  obtain ⟨Ds, qs, hz⟩ := cp_ex n2
  obtain ⟨m, P, hk⟩ := mk_ex d.1
  obtain ⟨A', sg', p1, p2, p3, p4, f9, p5⟩ := enc_iso iN h6 n2 hk hz
  have e1 : tk d.2.1 d.1 = pkR d.1 d.2.1 m P := Option.some.inj (h3.symm.trans (pkR_one h1 hv h2 hne hk))
  have et : tk d.2.1 d.1 = tk sg' A' := e1.trans p1
  obtain ⟨eA, -⟩ := tk_inj d.1 A' (fun p hp => (h1.1.2 p hp).2.1) (fun p hp => ((p2.1.2 p).mp hp).2) et
  subst eA
  obtain ⟨q1, q2⟩ := gp_cl hgp (by omega) h6
  refine ⟨_, f', Ds, qs, n2, pm, isoV_of iN n2.1, hz, ?_⟩
  rw [p3, q2 sg', q2 d.2.1, et]
/-- rows of nets that go the same ways -/
theorem row_cg (he : ∀ a, a < 2 * T.1 → S.1 a = S'.1 a) (h : rowO (ntS T S) d) : rowO (ntS T S') d := by
  obtain ⟨h1, h2, h3⟩ := h
  refine ⟨⟨h1.1, h1.2.1, h1.2.2.1, h1.2.2.2.1, h1.2.2.2.2.1, fun v hv => ?_, h1.2.2.2.2.2.2⟩, ⟨h2.1, fun u v hu hv m hm => h2.2 u v hu hv m (fun k hk => ?_)⟩, h3⟩
  · have := h1.2.2.2.2.2.1 v hv
    have this : S.1 (lbv d.1 d.2.2 v) = lbv d.1 d.2.2 (rn_nx d.1 v) := this
    rw [he _ (em_lt (T := ntS T S) h1 hv)] at this
    exact this
  · have := hm k hk
    have this : m (S'.1 k) = m k ∧ m (mt k) = m k := this
    rw [← he k hk] at this
    exact this
/-- the codes of the parts are those of the rows -/
theorem prt_perm (hD : prtD T D) (hv : vn T.1 T.2.2.1) (hc : T.1 ≤ 12) (hZ : cpZ T (np_parts T.1 T.2.2.1.1).2 Cs os) : (D.map (fun d => clC d.2.1 d.1)).Perm Cs ∧ ∀ d, d ∈ D → ∃ c, okL d.1 c := by
  obtain ⟨i1, i2, i3, i4⟩ := parts_I hv hc
  have ex : ∀ d : ptT, ∃ r, d ∈ D → r < (np_parts T.1 T.2.2.1.1).2 ∧ (np_parts T.1 T.2.2.1.1).1 (lbv d.1 d.2.2 0) = nI r := fun d => by
    by_cases hd : d ∈ D
    · have h := hD.1 d hd
      have := row_two h
      obtain ⟨r, r1, r2⟩ := i2 _ (em_lt h.1 (show 0 < d.1.flatten.length by omega))
      exact ⟨r, fun _ => ⟨r1, r2⟩⟩
    · exact ⟨0, fun h => absurd h hd⟩
  obtain ⟨ρ, hρ⟩ := Classical.skolem.mp ex
  have cd : ∀ d, d ∈ D → (∃ c, okL d.1 c) ∧ clC d.2.1 d.1 = Cs.getD (ρ d) (0, []) := fun d hd => by
    obtain ⟨r1, r2⟩ := hρ d hd
    have hlt : ρ d < Cs.length := by rw [hZ.1]; exact r1
    obtain ⟨q1, q2⟩ := row_cd (hD.1 d hd) hv r2 (hZ.2.1 (ρ d) Cs[ρ d] (List.getElem?_eq_getElem hlt)).1
    refine ⟨⟨_, q1⟩, ?_⟩
    rw [List.getD_eq_getElem?_getD, List.getElem?_eq_getElem hlt]
    exact q2.symm
  have same : ∀ d, d ∈ D → ∀ v, v < d.1.flatten.length → (np_parts T.1 T.2.2.1.1).1 (lbv d.1 d.2.2 v) = nI (ρ d) := fun d hd v hv9 => by
    have h := hD.1 d hd
    rw [← (hρ d hd).2]
    exact (pt_iff9 hv hc (em_lt h.1 hv9) (em_lt h.1 (by omega))).mpr (h.2.1.2 v 0 hv9 (by omega))
  have nd : (D.map ρ).Nodup := by
    refine List.pairwise_map.mpr (hD.2.2.imp_of_mem (fun {a b} ha hb hab e => ?_))
    have h1 := hD.1 a ha
    have h2 := hD.1 b hb
    have l1 := row_two h1
    have l2 := row_two h2
    have e1 := same a ha 0 (by omega)
    have e2 := same b hb 0 (by omega)
    rw [← e] at e2
    obtain ⟨v, v1, v2, -⟩ := em_lab h1.1 hv (q := fun _ => 0) (fun _ _ => rfl) (fun _ _ => rfl) (show 0 < a.1.flatten.length by omega) ((pt_iff9 hv hc (em_lt h1.1 (by omega)) (em_lt h2.1 (show 0 < b.1.flatten.length by omega))).mp (e1.trans e2.symm))
    exact hab _ ⟨v, v1, v2⟩ ⟨0, by omega, rfl⟩
  have pI : (D.map ρ).Perm (List.range (np_parts T.1 T.2.2.1.1).2) := (List.perm_ext_iff_of_nodup nd List.nodup_range).mpr (fun r => by
    rw [List.mem_range, List.mem_map]
    constructor
    · rintro ⟨d, hd, rfl⟩
      exact (hρ d hd).1
    · intro hr
      obtain ⟨v, v1, v2⟩ := i3 r hr
      obtain ⟨d, d1, w, w1, w2⟩ := hD.2.1 v v1
      refine ⟨d, d1, ?_⟩
      have := same d d1 w w1
      rw [w2, v2] at this
      have hb := (hρ d d1).1
      exact (nI_inj9 (a := r) (b := ρ d) (by omega) (by omega) this).symm)
  refine ⟨?_, fun d hd => (cd d hd).1⟩
  have e1 : D.map (fun d => clC d.2.1 d.1) = (D.map ρ).map (fun r => Cs.getD r (0, [])) := by
    rw [List.map_map]
    exact List.map_congr_left (fun d hd => (cd d hd).2)
  have e2 : (List.range (np_parts T.1 T.2.2.1.1).2).map (fun r => Cs.getD r (0, [])) = Cs := by
    refine List.ext_getElem (by rw [List.length_map, List.length_range, hZ.1]) (fun i h1 h2 => ?_)
    rw [List.getElem_map, List.getElem_range, List.getD_eq_getElem?_getD, List.getElem?_eq_getElem h2]
    rfl
  rw [e1]
  exact (pI.map _).trans (by rw [e2])
/-- the lists of both sides -/
theorem sum_join {Ms : List (rn_L × (Nat → Bool))} (hD : prtD T D) (hv : vn T.1 T.2.2.1) (hc : T.1 ≤ 12) (hZ : cpZ T (np_parts T.1 T.2.2.1.1).2 Cs os) (hM : srM Ms) (hp : (D.map ptM).Perm Ms) : os.length = Ms.length ∧ (∀ (k : Nat) A sg, Ms[k]? = some (A, sg) → atC Cs os k = clC sg A) ∧ ∀ m, m ∈ Ms → ∃ d, d ∈ D ∧ m = ptM d := by
  obtain ⟨p1, p2⟩ := prt_perm hD hv hc hZ
  have mem : ∀ m, m ∈ Ms → ∃ d, d ∈ D ∧ m = ptM d := fun m hm => by
    obtain ⟨d, hd, e⟩ := List.mem_map.mp (hp.mem_iff.mpr hm)
    exact ⟨d, hd, e.symm⟩
  have w1 : (Ms.map (fun m => clC m.2 m.1)).Pairwise (fun a b => cmpC a b ≤ 0) := by
    refine List.pairwise_map.mpr (List.Pairwise.imp_of_mem (fun {a b} ha hb hab => ?_) hM)
    obtain ⟨d1, hd1, rfl⟩ := mem a ha
    obtain ⟨d2, hd2, rfl⟩ := mem b hb
    obtain ⟨c1, o1⟩ := p2 d1 hd1
    obtain ⟨c2, o2⟩ := p2 d2 hd2
    have hab : lsr (tk d2.2.1 d2.1) (tk d1.2.1 d1.1) = false := hab
    have hn : ¬ cmpC (clC d2.2.1 d2.1) (clC d1.2.1 d1.1) < 0 := fun h9 => by
      rw [(lsr_cmp o2 o1).mpr h9] at hab
      cases hab
    have := cmpC_sym (A := clC d1.2.1 d1.1) (B := clC d2.2.1 d2.1)
    show cmpC (clC d1.2.1 d1.1) (clC d2.2.1 d2.1) ≤ 0
    omega
  have w2 := srt_pw hZ.2.2.2
  have pm1' : (Ms.map (fun m => clC m.2 m.1)).Perm Cs := by
    have := (hp.map (fun m : rn_L × (Nat → Bool) => clC m.2 m.1)).symm
    rw [List.map_map] at this
    exact this.trans p1
  have e2 : (List.range (np_parts T.1 T.2.2.1.1).2).map (fun r => Cs.getD r (0, [])) = Cs := by
    refine List.ext_getElem (by rw [List.length_map, List.length_range, hZ.1]) (fun i h1 h2 => ?_)
    rw [List.getElem_map, List.getElem_range, List.getD_eq_getElem?_getD, List.getElem?_eq_getElem h2]
    rfl
  have pm2 : (os.map (fun s => Cs.getD s (0, []))).Perm Cs := by
    have := hZ.2.2.1.map (fun s => Cs.getD s (0, []))
    rw [e2] at this
    exact this
  have eq := pw_eq w1 w2 (pm1'.trans pm2.symm)
  have hl := congrArg List.length eq
  rw [List.length_map, List.length_map] at hl
  refine ⟨hl.symm, fun k A sg hk => ?_, mem⟩
  have h1 : (Ms.map (fun m => clC m.2 m.1))[k]? = some (clC sg A) := by rw [List.getElem?_map, hk]; rfl
  rw [eq, List.getElem?_map] at h1
  unfold atC
  rw [List.getD_eq_getElem?_getD (l := os)]
  cases e : os[k]? with
  | none =>
    rw [e] at h1
    cases h1
  | some s =>
    rw [e] at h1
    exact Option.some.inj h1
end XTC
end
