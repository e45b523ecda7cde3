section
/-! 99zzzzzzzzzzzzzb.xsu10 -/
/-! the rows that wait and the rows that are done show a net parted so far -/
def ptT : Type := rn_L × (Nat → Bool) × (Nat → Nat)
def rowO (T : ow_NT) (d : ptT) : Prop := emN d.1 d.2.1 d.2.2 T ∧ cnA d.1 d.2.2 T ∧ lsA9 d.1 d.2.1 ∧ (∃ c, okF d.1.flatten c ∧ c ≤ 12) ∧ d.1.length ≤ 6
def inD (d : ptT) (j : Nat) : Prop := ∃ v, v < d.1.flatten.length ∧ lbv d.1 d.2.2 v = j
def prtD (T : ow_NT) (D : List ptT) : Prop := (∀ d, d ∈ D → rowO T d) ∧ (∀ j, j < 2 * T.1 → ∃ d, d ∈ D ∧ inD d j) ∧ D.Pairwise (fun d d' => ∀ j, inD d j → ¬ inD d' j)
/-- no ring can be parted -/
def irA (A : rn_L) : Prop := ∀ c g k, c < A.length → rn_b A c ≤ g → g < k → k < rn_b A (c + 1) → ∀ M, gdM A c g k M → ∃ u, u < A.flatten.length ∧ rn_c A u = c ∧ ¬ (g < u ∧ u ≤ k) ∧ M u = M k
section XSX
variable {A : rn_L} {sg : Nat → Bool} {σ : Nat → Bool} {f : Nat → Nat} {T : ow_NT} {c g k : Nat} {d d1 d2 : ptT} {D : List ptT}
theorem prtD_perm {D' : List ptT} (h : prtD T D) (hp : D.Perm D') : prtD T D' := ⟨fun d hd => h.1 d (hp.mem_iff.mpr hd), fun j hj => by
  obtain ⟨d, d1, d2⟩ := h.2.1 j hj
  exact ⟨d, hp.mem_iff.mp d1, d2⟩, (hp.pairwise_iff (fun {a b} h9 j hb ha => h9 j ha hb)).mp h.2.2⟩
theorem sel_lb (h : emN A sg f T) (hv : vn T.1 T.2.2.1) (hc : c < A.length) (hg1 : rn_b A c ≤ g) (hgh : g < k) (hh : k < rn_b A (c + 1)) (hs : prS A c g k σ) : ∃ q, lbN T.1 (exN T.2.2.1.1 (lbv A f g) (lbv A f k)) q ∧ ∀ v, v < A.flatten.length → q (lbv A f v) = if σ v then 1 else 0 := by
  have hle := rn_b_le A (c + 1)
  have gl' : g < A.flatten.length := by omega
  have kl : k < A.flatten.length := by omega
  have hd := wkF_ok h.1
  have hs' := prS_not hs hd
  have hdec : DecidablePred (fun j => ∃ v, v < A.flatten.length ∧ σ v = true ∧ lbv A f v = j) := fun j => Classical.propDecidable _
  have eqv : ∀ {P Q : Prop} [Decidable P] [Decidable Q], (P ↔ Q) → (if P then (1 : Nat) else 0) = if Q then 1 else 0 := fun {P Q} _ _ h => by
    by_cases hp : P
    · rw [if_pos hp, if_pos (h.mp hp)]
    · rw [if_neg hp, if_neg (fun q => hp (h.mpr q))]
  refine ⟨fun j => if ∃ v, v < A.flatten.length ∧ σ v = true ∧ lbv A f v = j then 1 else 0, fun j hj => ⟨eqv ⟨?_, ?_⟩, eqv ⟨?_, ?_⟩⟩, fun v hv => eqv ⟨fun ⟨u, u1, u2, u3⟩ => by rw [← em_inj h u1 hv u3]; exact u2, fun e => ⟨v, hv, e, rfl⟩⟩⟩
  · rintro ⟨v, v1, v2, v3⟩
    refine Classical.byContradiction (fun h9 => ?_)
    by_cases hin : ∃ u, u < A.flatten.length ∧ lbv A f u = j
    · obtain ⟨u, u1, u2⟩ := hin
      have hu : (!σ u) = true := by
        cases e : σ u with
        | false => rfl
        | true => exact absurd ⟨u, u1, e, u2⟩ h9
      obtain ⟨i, i1, i2, i3⟩ := prt_go h hc hg1 hgh hh hs' u1 hu
      rw [u2, ← v3] at i3
      rw [← em_inj h v1 i1 i3, v2] at i2
      exact absurd i2 (by decide)
    · have n1 : j ≠ lbv A f g := fun e => hin ⟨g, gl', e.symm⟩
      have n2 : j ≠ lbv A f k := fun e => hin ⟨k, kl, e.symm⟩
      rw [exN_o n1 n2, ← nx_pv v1, ← h.2.2.2.2.2.1 _ (rn_pv_lt v1)] at v3
      exact hin ⟨rn_pv A v, rn_pv_lt v1, (bj_vn hv).2 _ _ (em_lt h (rn_pv_lt v1)) hj v3⟩
  · rintro ⟨v, v1, v2, v3⟩
    obtain ⟨i, i1, i2, i3⟩ := prt_go h hc hg1 hgh hh hs v1 v2
    rw [v3] at i3
    exact ⟨i, i1, i2, i3.symm⟩
  · rintro ⟨v, v1, v2, v3⟩
    obtain ⟨m1, m2, m3, m4⟩ := em_mt h v1
    refine ⟨mtf A v, m1, hs.2.2 v v1 v2, ?_⟩
    rw [m3, v3]
    exact mt_mt j
  · rintro ⟨v, v1, v2, v3⟩
    obtain ⟨m1, m2, m3, m4⟩ := em_mt h v1
    exact ⟨mtf A v, m1, hs.2.2 v v1 v2, by rw [m3, v3]⟩
/-- each piece is one part -/
theorem cn_prt (h : emN A sg f T) (hv : vn T.1 T.2.2.1) (hcn : cnA A f T) (hc : c < A.length) (hg1 : rn_b A c ≤ g) (hgh : g < k) (hh : k < rn_b A (c + 1)) (hs : prS A c g k σ) {u v : Nat} (hu : u < A.flatten.length) (hv9 : v < A.flatten.length) (e : σ u = σ v) : ptN T.1 (exN T.2.2.1.1 (lbv A f g) (lbv A f k)) (lbv A f u) (lbv A f v) := by
  intro m hm
  have hle := rn_b_le A (c + 1)
  have gl' : g < A.flatten.length := by omega
  have kl : k < A.flatten.length := by omega
  obtain ⟨q, q1, q2⟩ := sel_lb h hv hc hg1 hgh hh hs
  have gv := em_lt h gl'
  have kv := em_lt h kl
  have ngk : lbv A f g ≠ lbv A f k := fun e9 => by
    have := em_inj h gl' kl e9
    omega
  have two : ∀ w, w < A.flatten.length → (m (lbv A f w) = m (lbv A f g) ∧ q (lbv A f w) = q (lbv A f g)) ∨ (m (lbv A f w) = m (lbv A f k) ∧ q (lbv A f w) = q (lbv A f k)) := fun w hw => by
    have key := hcn.2 g w gl' hw (fun j => if (m j = m (lbv A f g) ∧ q j = q (lbv A f g)) ∨ (m j = m (lbv A f k) ∧ q j = q (lbv A f k)) then 1 else 0) (fun j hj => ?_)
    · rw [if_pos (Or.inl ⟨rfl, rfl⟩)] at key
      refine Classical.byContradiction (fun h9 => ?_)
      rw [if_neg h9] at key
      exact absurd key (by decide)
    · rw [(hm j hj).2, (q1 j hj).2]
      refine ⟨?_, rfl⟩
      by_cases e1 : j = lbv A f g
      · have a1 := hm _ kv
        have a2 := q1 _ kv
        rw [exN_w] at a1 a2
        rw [e1, a1.1, a2.1, if_pos (Or.inr ⟨rfl, rfl⟩), if_pos (Or.inl ⟨rfl, rfl⟩)]
      · by_cases e2 : j = lbv A f k
        · have a1 := hm _ gv
          have a2 := q1 _ gv
          rw [exN_v ngk] at a1 a2
          rw [e2, a1.1, a2.1, if_pos (Or.inl ⟨rfl, rfl⟩), if_pos (Or.inr ⟨rfl, rfl⟩)]
        · have a1 := (hm j hj).1
          have a2 := (q1 j hj).1
          rw [exN_o e1 e2] at a1 a2
          rw [a1, a2]
  have dif : σ g ≠ σ k := fun e => by
    rcases hs.1 with h1 | h1
    · have a1 := h1 g hg1 (by omega)
      have a2 := (h1 k (by omega) hh).mpr ⟨hgh, Nat.le_refl _⟩
      have := a1.mp (e.trans a2)
      omega
    · have a1 := (h1 g hg1 (by omega)).mpr (by omega)
      have a2 := (h1 k (by omega) hh).mp (e.symm.trans a1)
      omega
  have qe : ∀ a b, a < A.flatten.length → b < A.flatten.length → q (lbv A f a) = q (lbv A f b) → σ a = σ b := fun a b ha hb e9 => by
    rw [q2 a ha, q2 b hb] at e9
    revert e9
    cases σ a <;> cases σ b <;> decide
  rcases two u hu with a | a <;> rcases two v hv9 with b | b
  · rw [a.1, b.1]
  · exact absurd ((qe u g hu gl' a.2).symm.trans (e.trans (qe v k hv9 kl b.2))) dif
  · exact absurd ((qe v g hv9 gl' b.2).symm.trans (e.symm.trans (qe u k hu kl a.2))) dif
  · rw [a.1, b.1]
/-- a row that has nothing of an exchange stays -/
theorem row_keep (h : rowO T d) (hv : vn T.1 T.2.2.1) {x y : Nat} (hx : ¬ inD d x) (hy : ¬ inD d y) : rowO (ntS T (np_exchange T.2.2.1 x y)) d := by
  obtain ⟨h1, h2, h3⟩ := h
  have off : ∀ v, v < d.1.flatten.length → exN T.2.2.1.1 x y (lbv d.1 d.2.2 v) = T.2.2.1.1 (lbv d.1 d.2.2 v) := fun v hv => exN_o (fun e => hx ⟨v, hv, e⟩) (fun e => hy ⟨v, hv, e⟩)
  refine ⟨⟨h1.1, h1.2.1, h1.2.2.1, h1.2.2.2.1, h1.2.2.2.2.1, fun v hv => (off v hv).trans (h1.2.2.2.2.2.1 v hv), h1.2.2.2.2.2.2⟩, ⟨h2.1, fun u v hu hv9 m hm => ?_⟩, h3⟩
  have hm : lbN T.1 (exN T.2.2.1.1 x y) m := hm
  obtain ⟨w, w1, w2, w3⟩ := em_lab h1 hv (q := fun v => m (lbv d.1 d.2.2 v)) (fun v hv => by
    have := (hm _ (em_lt h1 hv)).1
    have this : m (exN T.2.2.1.1 x y (lbv d.1 d.2.2 v)) = m (lbv d.1 d.2.2 v) := this
    rw [off v hv, h1.2.2.2.2.2.1 v hv] at this
    exact this) (fun v hv => by
    show m (lbv d.1 d.2.2 (mtf d.1 v)) = m (lbv d.1 d.2.2 v)
    rw [(em_mt h1 hv).2.2.1]
    exact (hm _ (em_lt h1 hv)).2) hu (h2.2 u v hu hv9)
  have w3 : m (lbv d.1 d.2.2 w) = m (lbv d.1 d.2.2 u) := w3
  rw [← w3, w2]
end XSX
end
section
/-! 99zzzzzzzzzzzzzc.xsu11 -/
/-! one step of parting, on rows -/
section XSY
variable {A : rn_L} {sg : Nat → Bool} {σ : Nat → Bool} {f : Nat → Nat} {T R : ow_NT} {c g k : Nat} {D : List ptT} {m : Nat → Nat} {P : Nat}
theorem wl_to {u : Nat} (hu : u < (wfW A σ A.length).flatten.length) : ∃ j, j < A.flatten.length ∧ σ j = true ∧ lbv (wfW A σ A.length) f u = lbv A f j := by
  obtain ⟨j, j1, j2, j3⟩ := wfW_el (vAt_mem hu)
  refine ⟨j, j1, j2, ?_⟩
  show gl f (vAt (wfW A σ A.length) u) = gl f (vAt A j)
  rw [j3]
theorem wf_ne {L : List vT} (h : L ∈ wfW A σ A.length) : L ≠ [] := by
  obtain ⟨r, r1, r2, r3⟩ := wfW_in _ h
  rw [r2]
  exact fun e => r3 (List.map_eq_nil_iff.mp e)
/-- a chosen piece that is one part has its row -/
theorem piece (hE : emN (wfW A σ A.length) sg f R) (hv : vn R.1 R.2.2.1) (h6 : A.length ≤ 6) {w0 : Nat} (hw0 : w0 < A.flatten.length) (hs0 : σ w0 = true) (hcn : ∀ u v, u < A.flatten.length → v < A.flatten.length → σ u = true → σ v = true → ptN R.1 R.2.2.1.1 (lbv A f u) (lbv A f v)) (hk : mk (wfW A σ A.length) m P) : ∃ d : ptT, pkR (wfW A σ A.length) sg m P = tk d.2.1 d.1 ∧ rowO R d ∧ ∀ j, inD d j ↔ ∃ i, i < A.flatten.length ∧ σ i = true ∧ lbv A f i = j := by
  have hc : cnA (wfW A σ A.length) f R := by
    refine ⟨List.ne_nil_of_mem (wfW_le hw0 hs0), fun u v hu hv9 => ?_⟩
    obtain ⟨a, a1, a2, a3⟩ := wl_to (f := f) hu
    obtain ⟨b, b1, b2, b3⟩ := wl_to (f := f) hv9
    rw [a3, b3]
    exact hcn a b a1 b1 a2 b2
  have hl6 : (wfW A σ A.length).length ≤ 6 := by
    have := wfI_n (A := A) (σ := σ) A.length
    unfold wfW
    rw [List.length_map]
    omega
  obtain ⟨A', sg', g', e1, e2, e3, e4, e5, e6, e7⟩ := em_row hE hv hc (fun L hL => wf_ne hL) hl6 hk
  have h2 := hE.2.1
  have h12 := hE.2.2.1
  refine ⟨(A', sg', g'), e1, ⟨e4, e5, e6, ⟨_, e2, by omega⟩, by show A'.length ≤ 6; omega⟩, fun j => ⟨?_, ?_⟩⟩
  · rintro ⟨v, v1, v2⟩
    obtain ⟨w, w1, w2⟩ := e7 v v1
    obtain ⟨i, i1, i2, i3⟩ := wl_to (f := f) w1
    exact ⟨i, i1, i2, by rw [← i3, ← w2]; exact v2⟩
  · rintro ⟨i, i1, i2, i3⟩
    have hl : 0 < A'.flatten.length := List.length_pos_iff.mpr e5.1
    obtain ⟨w, w1, w2⟩ := e7 0 hl
    obtain ⟨a, a1, a2, a3⟩ := wl_to (f := f) w1
    obtain ⟨v, v1, v2, _⟩ := em_lab e4 hv (q := fun _ => 0) (fun _ _ => rfl) (fun _ _ => rfl) hl (j := j) (by
      rw [w2, a3, ← i3]
      exact hcn a i a1 i1 a2 i2)
    exact ⟨v, v1, v2⟩
/-- a row is parted -/
theorem prt_step (hD : prtD T ((A, sg, f) :: D)) (hv : vn T.1 T.2.2.1) (hc : c < A.length) (hg1 : rn_b A c ≤ g) (hgh : g < k) (hh : k < rn_b A (c + 1)) (hs : prS A c g k σ) {m' : Nat → Nat} {P' : Nat} (hk : mk (wfW A σ A.length) m P) (hk' : mk (wfW A (fun v => !σ v) A.length) m' P') : prN T.1 T.2.2.1.1 (lbv A f g) (lbv A f k) ∧ ∃ d1 d2 : ptT, pkR (wfW A σ A.length) sg m P = tk d1.2.1 d1.1 ∧ pkR (wfW A (fun v => !σ v) A.length) sg m' P' = tk d2.2.1 d2.1 ∧ prtD (ntS T (np_exchange T.2.2.1 (lbv A f g) (lbv A f k))) (d1 :: d2 :: D) := by
  obtain ⟨hr, hcov, hpw⟩ := hD
  obtain ⟨h1, h2, h3, h4, h5⟩ := hr _ (List.mem_cons_self ..)
  have h1 : emN A sg f T := h1
  have h2 : cnA A f T := h2
  have h5 : A.length ≤ 6 := h5
  have hd := wkF_ok h1.1
  have hle := rn_b_le A (c + 1)
  have gl' : g < A.flatten.length := by omega
  have kl : k < A.flatten.length := by omega
  have hs' := prS_not hs hd
  have hv' : vn T.1 (np_exchange T.2.2.1 (lbv A f g) (lbv A f k)) := vn_exchange hv (em_lt h1 gl') (em_lt h1 kl)
  have ex1 : ∃ w, w < A.flatten.length ∧ σ w = true := by
    rcases hs.1 with q | q
    · exact ⟨k, kl, (q k (by omega) hh).mpr ⟨hgh, Nat.le_refl _⟩⟩
    · exact ⟨g, gl', (q g hg1 (by omega)).mpr (by omega)⟩
  have ex2 : ∃ w, w < A.flatten.length ∧ (!σ w) = true := by
    rcases hs'.1 with q | q
    · exact ⟨k, kl, (q k (by omega) hh).mpr ⟨hgh, Nat.le_refl _⟩⟩
    · exact ⟨g, gl', (q g hg1 (by omega)).mpr (by omega)⟩
  obtain ⟨w1, w11, w12⟩ := ex1
  obtain ⟨w2, w21, w22⟩ := ex2
  obtain ⟨d1, a1, a2, a3⟩ := piece (R := ntS T (np_exchange T.2.2.1 (lbv A f g) (lbv A f k))) (em_prt h1 hc hg1 hgh hh hs) hv' h5 w11 w12 (fun u v hu hv9 e1 e2 => cn_prt h1 hv h2 hc hg1 hgh hh hs hu hv9 (e1.trans e2.symm)) hk
  obtain ⟨d2, b1, b2, b3⟩ := piece (σ := fun v => !σ v) (R := ntS T (np_exchange T.2.2.1 (lbv A f g) (lbv A f k))) (em_prt h1 hc hg1 hgh hh hs') hv' h5 w21 w22 (fun u v hu hv9 e1 e2 => cn_prt h1 hv h2 hc hg1 hgh hh hs' hu hv9 (e1.trans e2.symm)) hk'
  have pw := List.pairwise_cons.mp hpw
  have i1 : ∀ j, inD d1 j → inD (A, sg, f) j := fun j hj => by
    obtain ⟨i, x1, _, x3⟩ := (a3 j).mp hj
    exact ⟨i, x1, x3⟩
  have i2 : ∀ j, inD d2 j → inD (A, sg, f) j := fun j hj => by
    obtain ⟨i, x1, _, x3⟩ := (b3 j).mp hj
    exact ⟨i, x1, x3⟩
  refine ⟨pr_of h1 hv hc hg1 hgh hh hs, d1, d2, a1, b1, fun d hd9 => ?_, fun j hj => ?_, ?_⟩
  · rcases List.mem_cons.mp hd9 with e | hd9
    · rw [e]
      exact a2
    · rcases List.mem_cons.mp hd9 with e | hd9
      · rw [e]
        exact b2
      · exact row_keep (hr d (List.mem_cons_of_mem _ hd9)) hv (pw.1 d hd9 _ ⟨g, gl', rfl⟩) (pw.1 d hd9 _ ⟨k, kl, rfl⟩)
  · obtain ⟨d, x1, x2⟩ := hcov j hj
    rcases List.mem_cons.mp x1 with e | x1
    · rw [e] at x2
      obtain ⟨i, y1, y2⟩ := x2
      have y1 : i < A.flatten.length := y1
      have y2 : lbv A f i = j := y2
      cases e9 : σ i with
      | true => exact ⟨d1, List.mem_cons_self .., (a3 j).mpr ⟨i, y1, e9, y2⟩⟩
      | false => exact ⟨d2, List.mem_cons_of_mem _ (List.mem_cons_self ..), (b3 j).mpr ⟨i, y1, by rw [e9]; rfl, y2⟩⟩
    · exact ⟨d, List.mem_cons_of_mem _ (List.mem_cons_of_mem _ x1), x2⟩
  · refine List.pairwise_cons.mpr ⟨fun d hd9 j hj hj2 => ?_, List.pairwise_cons.mpr ⟨fun d hd9 j hj hj2 => pw.1 d hd9 j (i2 j hj) hj2, pw.2⟩⟩
    rcases List.mem_cons.mp hd9 with e | hd9
    · rw [e] at hj2
      obtain ⟨i, x1, x2, x3⟩ := (a3 j).mp hj
      obtain ⟨l, y1, y2, y3⟩ := (b3 j).mp hj2
      have := em_inj h1 x1 y1 (x3.trans y3.symm)
      rw [← this, x2] at y2
      exact absurd y2 (by decide)
    · exact pw.1 d hd9 j (i1 j hj) hj2
/-- when no row can be parted, the net can't -/
theorem prt_end (hD : prtD T D) (hv : vn T.1 T.2.2.1) (hi : ∀ d, d ∈ D → irA d.1) : irN T.1 T.2.2.1.1 := by
  intro v w hp
  obtain ⟨d, d1, a, a1, a2⟩ := hD.2.1 v hp.1
  have h1 := (hD.1 d d1).1
  have run : ∀ i, ∃ b, b < d.1.flatten.length ∧ it T.2.2.1.1 i (lbv d.1 d.2.2 a) = lbv d.1 d.2.2 b ∧ rn_c d.1 b = rn_c d.1 a := by
    intro i
    induction i with
    | zero => exact ⟨a, a1, rfl, rfl⟩
    | succ i ih =>
      obtain ⟨b, b1, b2, b3⟩ := ih
      refine ⟨rn_nx d.1 b, rnx_lt b1, ?_, by rw [c_nx b1]; exact b3⟩
      show T.2.2.1.1 (it T.2.2.1.1 i (lbv d.1 d.2.2 a)) = _
      rw [b2]
      exact h1.2.2.2.2.2.1 b b1
  have key : ∀ a b, a < b → a < d.1.flatten.length → b < d.1.flatten.length → rn_c d.1 b = rn_c d.1 a → ¬ prN T.1 T.2.2.1.1 (lbv d.1 d.2.2 a) (lbv d.1 d.2.2 b) := fun a b hab ha hb e => by
    obtain ⟨q1, q2, q3⟩ := rn_c_in d.1 a ha
    obtain ⟨r1, r2, r3⟩ := rn_c_in d.1 b hb
    rw [e] at r3
    exact pr_no h1 q1 q2 hab r3 (hi d d1 _ a b q1 q2 hab r3)
  obtain ⟨i, i1⟩ := hp.2.2.2.1
  obtain ⟨b, b1, b2, b3⟩ := run i
  rw [a2, i1] at b2
  have ne := hp.2.2.1
  rcases Nat.lt_trichotomy a b with q | q | q
  · refine key a b q a1 b1 b3 ?_
    rw [a2, ← b2]
    exact hp
  · rw [b2, ← q, a2] at ne
    exact ne rfl
  · refine key b a q b1 a1 b3.symm ?_
    rw [a2, ← b2]
    exact pr_sy (bj_vn hv) hp
end XSY
end
section
/-! 99zzzzzzzzzzzzzd.xsu12 -/
/-! addSummand, exactly -/
section XSZ
variable {z : ow_MS} {A : rn_L} {sg : Nat → Bool}
theorem ins_at {α : Type} {l : List α} {x : α} {k i : Nat} (hk : k ≤ l.length) : (l.take k ++ x :: l.drop k)[i]? = if i < k then l[i]? else if i = k then some x else l[i - 1]? := by
  have hl : (l.take k).length = k := by rw [List.length_take]; omega
  by_cases h1 : i < k
  · rw [if_pos h1, List.getElem?_append_left (by omega), List.getElem?_take_of_lt h1]
  · rw [if_neg h1, List.getElem?_append_right (by omega), hl]
    by_cases h2 : i = k
    · rw [if_pos h2, h2, Nat.sub_self]
      rfl
    · rw [if_neg h2, show i - k = (i - k - 1) + 1 by omega, List.getElem?_cons_succ, List.getElem?_drop, show k + (i - k - 1) = i - 1 by omega]
theorem vRow_fr9 {F : Nat → Prop} {z z1 : ow_MS} {h o : Nat} {B : rn_L} {t : Nat → Bool} (hf : fr F z z1) (hF : ¬ F h) (hv : vRow z h o B t) : vRow z1 h o B t := by
  have e := (hf h hF).2.1
  obtain ⟨⟨a1, a2, a3, a4⟩, a5⟩ := hv
  exact ⟨⟨a1, a2, by rw [e]; exact a3, fun i t hi => by rw [e]; exact a4 i t hi⟩, a5⟩
theorem vRow_eq9 {z z1 : ow_MS} {h o : Nat} {B : rn_L} {t : Nat → Bool} (he : ∀ i, o ≤ i → i < o + 32 → z1.2.1 h i = z.2.1 h i) (hv : vRow z h o B t) : vRow z1 h o B t := by
  obtain ⟨⟨a1, a2, a3, a4⟩, a5⟩ := hv
  refine ⟨⟨a1, a2, by rw [he o (by omega) (by omega)]; exact a3, fun i t hi => ?_⟩, a5⟩
  have := (List.getElem?_eq_some_iff.mp hi).1
  rw [he _ (by omega) (by omega)]
  exact a4 i t hi
theorem xp_addS {Ms : List (rn_L × (Nat → Bool))} {k9 : Nat} (hS : Ms.length < 16) (hk9 : k9 < 16) (hG : rlR 35 39 36 16 z Ms) (hne : A ≠ []) (hv : vRow z 37 (32 * k9) A sg) : Te (fun K => qe_X13_addSummand K (nI (32 * k9)) z) (fun z1 => (∃ k, k ≤ Ms.length ∧ rlR 35 39 36 16 z1 (Ms.take k ++ (A, sg) :: Ms.drop k) ∧ (∀ i B t, i + 1 = k → Ms[i]? = some (B, t) → lsr (tk sg A) (tk t B) = false) ∧ ∀ i B t, k ≤ i → Ms[i]? = some (B, t) → lsr (tk sg A) (tk t B) = true) ∧ fr (fun g => g = 35 ∨ g = 36 ∨ g = 39) z z1) := by
  obtain ⟨g0, g1, g2⟩ := hG
  generalize hSe : Ms.length = S at g0 g1 g2 hS
  have hl := hv.1.1
  let Q : ow_MS → Prop := fun z1 => (∃ k, k ≤ S ∧ rlR 35 39 36 16 z1 (Ms.take k ++ (A, sg) :: Ms.drop k) ∧ (∀ i B t, i + 1 = k → Ms[i]? = some (B, t) → lsr (tk sg A) (tk t B) = false) ∧ ∀ i B t, k ≤ i → Ms[i]? = some (B, t) → lsr (tk sg A) (tk t B) = true) ∧ fr (fun g => g = 35 ∨ g = 36 ∨ g = 39) z z1
  have fin : ∀ (k : Nat) (y : ow_MS), k ≤ S → fr (fun g => g = 35 ∨ g = 39) z y → vRow y 35 (32 * S) A sg → (∀ i B t, Ms[i]? = some (B, t) → i < k → ∃ j, j < S ∧ y.2.1 39 i = nI j ∧ B ≠ [] ∧ vRow y 35 (32 * j) B t) → (∀ i B t, Ms[i]? = some (B, t) → k ≤ i → (∃ j, j < S ∧ y.2.1 39 (i + 1) = nI j ∧ B ≠ [] ∧ vRow y 35 (32 * j) B t) ∧ lsr (tk sg A) (tk t B) = true) → (∀ i B t, i + 1 = k → Ms[i]? = some (B, t) → lsr (tk sg A) (tk t B) = false) → ∀ z1 : ow_MS, z1.1 36 = nI (S + 1) → z1.2.1 39 k = nI S → (∀ i, i ≠ k → z1.2.1 39 i = y.2.1 39 i) → fr (fun g => g = 36 ∨ g = 39) y z1 → Q z1 := by
    intro k y hkS hf hR h1 h2 h3 z1 u1 u2 u3 f9
    have hlen : (Ms.take k ++ (A, sg) :: Ms.drop k).length = S + 1 := by
      rw [List.length_append, List.length_cons, List.length_take, List.length_drop]
      omega
    refine ⟨⟨k, hkS, ⟨by omega, by rw [hlen]; exact u1, fun i B t hi => ?_⟩, h3, fun i B t hi hm => (h2 i B t hm hi).2⟩, fr_tr (fr_mono (fun g hg => by omega) hf) (fr_mono (fun g hg => by omega) f9)⟩
    rw [ins_at (by omega)] at hi
    rw [hlen]
    by_cases c1 : i < k
    · rw [if_pos c1] at hi
      obtain ⟨j, j1, j2, j3, j4⟩ := h1 i B t hi c1
      exact ⟨j, by omega, (u3 i (by omega)).trans j2, j3, vRow_fr9 f9 (by omega) j4⟩
    · rw [if_neg c1] at hi
      by_cases c2 : i = k
      · rw [if_pos c2] at hi
        have hi := Option.some.inj hi
        have e1 : A = B := congrArg Prod.fst hi
        have e2 : sg = t := congrArg Prod.snd hi
        rw [← e1, ← e2, c2]
        exact ⟨S, by omega, u2, hne, vRow_fr9 f9 (by omega) hR⟩
      · rw [if_neg c2] at hi
        obtain ⟨⟨j, j1, j2, j3, j4⟩, _⟩ := h2 (i - 1) B t hi (by omega)
        rw [show i - 1 + 1 = i by omega] at j2
        exact ⟨j, by omega, (u3 i c2).trans j2, j3, vRow_fr9 f9 (by omega) j4⟩
  have l2 : ∀ (k : Nat) (y : ow_MS), k ≤ S → fr (fun g => g = 35 ∨ g = 39) z y → vRow y 35 (32 * S) A sg → (∀ i B t, Ms[i]? = some (B, t) → i < k → ∃ j, j < S ∧ y.2.1 39 i = nI j ∧ B ≠ [] ∧ vRow y 35 (32 * j) B t) → (∀ i B t, Ms[i]? = some (B, t) → k ≤ i → (∃ j, j < S ∧ y.2.1 39 (i + 1) = nI j ∧ B ≠ [] ∧ vRow y 35 (32 * j) B t) ∧ lsr (tk sg A) (tk t B) = true) → Tt (fun K i => q_X13_addSummand K i 2 (nI (32 * k9)) (nI k) y) Q := by
    intro k
    induction k with
    | zero =>
      intro y hkS hf hR ho1 ho2
      have e36 : y.1 36 = nI S := by rw [(hf 36 (by omega)).1]; exact g1
      refine u_X13_addSummand_2 ?_; unfold qm_X13_addSummand_2
      refine w_leT (b := 0) (by omega) (by omega) ?_
      refine u_X13_addSummand_3 ?_; unfold qm_X13_addSummand_3
      refine w_rdF e36 (w_wrI ml39 rfl (by omega) (w_rdF e36 (w_wrF ?_)))
      rw [nI_1]
      exact w_some (fin 0 y hkS hf hR ho1 ho2 (fun i B t hi => by omega) _ po_usF_at po_usI_at (fun i hi => po_usI_ne hi) (fr_F2 (fr_I (Or.inr rfl)) (Or.inl rfl)))
    | succ k ih =>
      intro y hkS hf hR ho1 ho2
      have e36 : y.1 36 = nI S := by rw [(hf 36 (by omega)).1]; exact g1
      have hkl : k < Ms.length := by omega
      rcases hB : Ms[k] with ⟨B2, t2⟩
      have hM : Ms[k]? = some (B2, t2) := by rw [List.getElem?_eq_getElem hkl, hB]
      obtain ⟨j, hj, e, nB, v2⟩ := ho1 k B2 t2 hM (by omega)
      have l1 := hR.1.1
      have l2 := v2.1.1
      refine u_X13_addSummand_2 ?_; unfold qm_X13_addSummand_2
      rw [nI_pred, pk_m1]
      refine w_leF (b := 0) (by omega) (by omega) (w_rdF e36 (w_rdI ml39 rfl (by omega) e ?_))
      rw [show (32 : Int32) * nI S = nI (32 * S) from pk_mul 32 S, show (32 : Int32) * nI j = nI (32 * j) from pk_mul 32 j]
      refine w_cs1 (tr_lesser ml35 ml35 (by omega) (by omega) (by omega) (by omega) hR.1 v2.1) (fun a y9 e9 => ?_)
      cases e9
      cases hls : lsr (tk sg A) (tk t2 B2) with
      | false =>
        refine w_ifT rfl ?_
        refine u_X13_addSummand_3 ?_; unfold qm_X13_addSummand_3
        refine w_rdF e36 (w_wrI ml39 rfl (by omega) (w_rdF e36 (w_wrF ?_)))
        rw [nI_1]
        exact w_some (fin (k + 1) y hkS hf hR ho1 ho2 (fun i B t hi hm => by
          rw [show i = k by omega, hM] at hm
          have hm := Option.some.inj hm
          have e1 : B2 = B := congrArg Prod.fst hm
          have e2 : t2 = t := congrArg Prod.snd hm
          rw [← e1, ← e2]
          exact hls) _ po_usF_at po_usI_at (fun i hi => po_usI_ne hi) (fr_F2 (fr_I (Or.inr rfl)) (Or.inl rfl)))
      | true =>
        refine w_ifF (by decide) (w_rdI ml39 rfl (by omega) e (w_wrI ml39 rfl (by omega) (ih _ (by omega) (fr_I2 hf (Or.inr rfl)) (vRow_fr9 (F := fun g => g = 39) (fr_I rfl) (by omega) hR) (fun i B t hm hi => ?_) (fun i B t hm hi => ?_))))
        · obtain ⟨j9, q1, q2, q3, q4⟩ := ho1 i B t hm (by omega)
          exact ⟨j9, q1, rd_ne (by omega) q2, q3, vRow_fr9 (F := fun g => g = 39) (fr_I rfl) (by omega) q4⟩
        · by_cases hik : i = k
          · rw [hik, hM] at hm
            have hm := Option.some.inj hm
            have e1 : B2 = B := congrArg Prod.fst hm
            have e2 : t2 = t := congrArg Prod.snd hm
            rw [← e1, ← e2, hik]
            exact ⟨⟨j, hj, po_usI_at, nB, vRow_fr9 (F := fun g => g = 39) (fr_I rfl) (by omega) v2⟩, hls⟩
          · obtain ⟨⟨j9, q1, q2, q3, q4⟩, q5⟩ := ho2 i B t hm (by omega)
            exact ⟨⟨j9, q1, rd_ne (by omega) q2, q3, vRow_fr9 (F := fun g => g = 39) (fr_I rfl) (by omega) q4⟩, q5⟩
  have l1 : ∀ (d k : Nat) (y : ow_MS), k + d = (tk sg A).length + 1 → fr (fun g => g = 35) z y → (∀ i, i < k → y.2.1 35 (32 * S + i) = z.2.1 37 (32 * k9 + i)) → (∀ i, i < 32 * S → y.2.1 35 i = z.2.1 35 i) → Tt (fun K i => q_X13_addSummand K i 1 (nI (32 * k9)) (nI k) y) Q := by
    intro d
    induction d with
    | zero =>
      intro k y hk hf hc hi
      have e36 : y.1 36 = nI S := by rw [(hf 36 (by omega)).1]; exact g1
      refine u_X13_addSummand_1 ?_; unfold qm_X13_addSummand_1
      refine w_rdI ml37 rfl (by omega) (x := nI (tk sg A).length) (by rw [(hf 37 (by omega)).2.1]; exact hv.1.2.2.1) (w_ltT (by omega) (by omega) (w_rdF e36 (l2 S y (Nat.le_refl _) (fr_mono (fun g hg => Or.inl hg) hf) ?_ (fun i B t hm hi9 => ?_) (fun i B t hm hi9 => ?_))))
      · refine ⟨⟨hv.1.1, hv.1.2.1, ?_, fun i t hi9 => ?_⟩, hv.2⟩
        · have := hc 0 (by omega)
          rw [Nat.add_zero, Nat.add_zero] at this
          rw [this]
          exact hv.1.2.2.1
        · have := (List.getElem?_eq_some_iff.mp hi9).1
          rw [hc (i + 1) (by omega)]
          exact hv.1.2.2.2 i t hi9
      · obtain ⟨j, j1, j2, j3, j4⟩ := g2 i B t hm
        exact ⟨j, j1, by rw [(hf 39 (by omega)).2.1]; exact j2, j3, vRow_eq9 (fun i h1 h2 => hi i (by omega)) j4⟩
      · have := (List.getElem?_eq_some_iff.mp hm).1
        omega
    | succ d ih =>
      intro k y hk hf hc hi
      have e36 : y.1 36 = nI S := by rw [(hf 36 (by omega)).1]; exact g1
      refine u_X13_addSummand_1 ?_; unfold qm_X13_addSummand_1
      refine w_rdI ml37 rfl (by omega) (x := nI (tk sg A).length) (by rw [(hf 37 (by omega)).2.1]; exact hv.1.2.2.1) (w_ltF (by omega) (by omega) (w_rdF e36 ?_))
      rw [nI_add, show (32 : Int32) * nI S = nI (32 * S) from pk_mul 32 S, nI_add, nI_1]
      refine w_rdI ml37 rfl (by omega) (by rw [(hf 37 (by omega)).2.1]) (w_wrI ml35 rfl (by omega) (ih (k + 1) _ (by omega) (fr_I2 hf rfl) (fun i hi9 => ?_) (fun i hi9 => rd_ne (by omega) (hi i hi9))))
      by_cases hik : i = k
      · rw [hik, po_usI_at]
      · exact rd_ne (by omega) (hc i (by omega))
  refine e_X13_addSummand ?_
  refine u_X13_addSummand_0 ?_; unfold qm_X13_addSummand_0
  exact l1 _ 0 z (Nat.zero_add _) fr_rf (fun i hi => by omega) (fun i _ => rfl)
end XSZ
end
section
/-! 99zzzzzzzzzzzzze.xsu13 -/
/-! summands: the first rows -/
section XSA
variable {A : rn_L} {sg : Nat → Bool} {σ : Nat → Bool} {f : Nat → Nat} {T : ow_NT} {D : List ptT} {m : Nat → Nat} {P p : Nat}
theorem wfI_cg {τ : Nat → Bool} (h : ∀ v, v < A.flatten.length → σ v = τ v) : ∀ n, wfI A σ n = wfI A τ n
  | 0 => rfl
  | n + 1 => by
    have hle := rn_b_le A (n + 1)
    have e : wfB A σ n (rn_b A (n + 1)) = wfB A τ n (rn_b A (n + 1)) := by
      unfold wfB
      refine List.filter_congr (fun j hj => ?_)
      have := List.mem_range.mp hj
      rw [h j (by omega)]
    rw [wfI, wfI, e, wfI_cg h n]
theorem wfW_cg {τ : Nat → Bool} (h : ∀ v, v < A.flatten.length → σ v = τ v) (n : Nat) : wfW A σ n = wfW A τ n := by
  unfold wfW
  rw [wfI_cg h n]
theorem iso_em (h : isoN A sg f T) : emN A sg f T := ⟨h.1, Nat.le_of_eq h.2.1, h.2.2.1, h.2.2.2.1, h.2.2.2.2.1, h.2.2.2.2.2.1, h.2.2.2.2.2.2.1, trivial⟩
/-- whole rings are shown as they were -/
theorem em_un (h : emN A sg f T) (hs2 : ∀ a b, a < A.flatten.length → b < A.flatten.length → rn_c A a = rn_c A b → σ a = σ b) (hcl : ∀ v, v < A.flatten.length → σ v = true → σ (mtf A v) = true) : emN (wfW A σ A.length) sg f T := by
  obtain ⟨t1, t2, t3, t4⟩ := em_to h
  have sub : ∀ p, p ∈ (wfW A σ A.length).flatten → p ∈ A.flatten := fun p hp => by
    obtain ⟨j, j1, _, rfl⟩ := wfW_el hp
    exact vAt_mem j1
  refine em_of (wfW_wk h.1 hcl) ?_ h.2.2.1 (fun p hp => t1 p (sub p hp)) (fun p q hp hq => t2 p q (sub p hp) (sub q hq)) (fun L hL p hp => ?_) (fun p hp => t4 p (sub p hp))
  · have := wf_len (A := A) (σ := σ) (c := A.length) (i := A.flatten.length) (by rw [rn_b_len]; exact Nat.le_refl _)
    have h2 := h.2.1
    unfold wfW
    rw [fl_map, List.length_map]
    omega
  · obtain ⟨r, r1, r2, r3⟩ := wfW_in _ hL
    obtain ⟨R, R1, R2⟩ := ring_sg A r r1
    have hle := rn_b_le A (r + 1)
    have cR : ∀ j, j ∈ sg9 (rn_b A r) (rn_b A (r + 1)) → j < A.flatten.length ∧ rn_c A j = r := fun j hj => by
      have hj := sg9_m.mp hj
      exact ⟨by omega, rn_c_of A r j hj.1 hj.2⟩
    have all : ∀ j, j ∈ sg9 (rn_b A r) (rn_b A (r + 1)) → σ j = true := fun j hj => by
      obtain ⟨i, hi⟩ := List.exists_mem_of_ne_nil _ r3
      obtain ⟨i1, i2⟩ := List.mem_filter.mp hi
      rw [← i2]
      exact hs2 j i (cR j hj).1 (cR i i1).1 (by rw [(cR j hj).2, (cR i i1).2])
    rw [fil_all all, R2] at r2
    rw [r2] at hp ⊢
    exact t3 R R1 p hp
/-- the rows of the first p parts -/
def prtP (T : ow_NT) (A : rn_L) (f m : Nat → Nat) (p : Nat) (D : List ptT) : Prop := (∀ d, d ∈ D → rowO T d) ∧ (∀ v, v < A.flatten.length → m (rn_c A v) < p → ∃ d, d ∈ D ∧ inD d (lbv A f v)) ∧ (∀ d, d ∈ D → ∀ j, inD d j → ∃ v, v < A.flatten.length ∧ lbv A f v = j ∧ m (rn_c A v) < p) ∧ D.Pairwise (fun d d' => ∀ j, inD d j → ¬ inD d' j)
theorem ini_0 : prtP T A f m 0 [] := ⟨fun d hd => absurd hd List.not_mem_nil, fun v _ h => absurd h (Nat.not_lt_zero _), fun d hd => absurd hd List.not_mem_nil, List.Pairwise.nil⟩
theorem ini_no (h : prtP T A f m p D) (hn : ∀ v, v < A.flatten.length → m (rn_c A v) ≠ p) : prtP T A f m (p + 1) D := ⟨h.1, fun v hv h9 => h.2.1 v hv (by have := hn v hv; omega), fun d hd j hj => by
  obtain ⟨v, v1, v2, v3⟩ := h.2.2.1 d hd j hj
  exact ⟨v, v1, v2, by omega⟩, h.2.2.2⟩
theorem ini_s (hi : isoN A sg f T) (hv : vn T.1 T.2.2.1) (hk : mk A m P) (h6 : A.length ≤ 6) (hP : prtP T A f m p D) {v0 : Nat} (hv0 : v0 < A.flatten.length) (e0 : m (rn_c A v0) = p) {m' : Nat → Nat} {P' : Nat} (hk' : mk (wfW A (fun v => decide (m (rn_c A v) = p)) A.length) m' P') : ∃ d : ptT, pkR (wfW A (fun v => decide (m (rn_c A v) = p)) A.length) sg m' P' = tk d.2.1 d.1 ∧ prtP T A f m (p + 1) (d :: D) := by
  have h := iso_em hi
  have hd := wkF_ok h.1
  obtain ⟨d, a1, a2, a3⟩ := piece (σ := fun v => decide (m (rn_c A v) = p)) (em_un h (fun a b ha hb e => by
    show decide (m (rn_c A a) = p) = decide (m (rn_c A b) = p)
    rw [e]) (fun v hv9 e9 => by
    have e9 := of_decide_eq_true e9
    refine decide_eq_true ?_
    rw [← hk.2.1 _ _ ⟨v, mtf A v, mtf_mt hd hv9, rfl, rfl⟩]
    exact e9)) hv h6 hv0 (decide_eq_true e0) (fun u w hu hw e1 e2 => (pt_iff9 hv h.2.2.1 (em_lt h hu) (em_lt h hw)).mp ((part_iff hi hv hk hu hw).mpr ((of_decide_eq_true e1).trans (of_decide_eq_true e2).symm))) hk'
  refine ⟨d, a1, fun x hx => ?_, fun v hv9 h9 => ?_, fun x hx j hj => ?_, List.pairwise_cons.mpr ⟨fun x hx j hj hj2 => ?_, hP.2.2.2⟩⟩
  · rcases List.mem_cons.mp hx with e | hx
    · rw [e]
      exact a2
    · exact hP.1 x hx
  · by_cases e : m (rn_c A v) = p
    · exact ⟨d, List.mem_cons_self .., (a3 _).mpr ⟨v, hv9, decide_eq_true e, rfl⟩⟩
    · obtain ⟨x, x1, x2⟩ := hP.2.1 v hv9 (by omega)
      exact ⟨x, List.mem_cons_of_mem _ x1, x2⟩
  · rcases List.mem_cons.mp hx with e | hx
    · rw [e] at hj
      obtain ⟨v, v1, v2, v3⟩ := (a3 j).mp hj
      exact ⟨v, v1, v3, by have := of_decide_eq_true v2; omega⟩
    · obtain ⟨v, v1, v2, v3⟩ := hP.2.2.1 x hx j hj
      exact ⟨v, v1, v2, by omega⟩
  · obtain ⟨v, v1, v2, v3⟩ := (a3 j).mp hj
    obtain ⟨w, w1, w2, w3⟩ := hP.2.2.1 x hx j hj2
    have e := em_inj h v1 w1 (v3.trans w2.symm)
    have := of_decide_eq_true v2
    rw [← e] at w3
    omega
theorem ini_end (hi : isoN A sg f T) (hk : mk A m P) (h : prtP T A f m P D) : prtD T D := ⟨h.1, fun j hj => by
  obtain ⟨v, v1, v2⟩ := lbv_sur hi hj
  obtain ⟨d, d1, d2⟩ := h.2.1 v v1 (hk.1 _ (rn_c_in A v v1).1)
  rw [v2] at d2
  exact ⟨d, d1, d2⟩, h.2.2.2⟩
end XSA
end
section
/-! 99zzzzzzzzzzzzzf.xsu14 -/
/-! summands of the reference, exactly -/
section XTA
variable {X : (Nat → Nat → Int32) → Prop} {z y y1 : ow_MS} {T : ow_NT} {A : rn_L} {sg : Nat → Bool} {D : List ptT} {N M : Nat → Nat} {c : Nat}
/-- the rows that wait, the last one first -/
def wRx (y : ow_MS) : List ptT → Prop
  | [] => True
  | d :: L => vRow y 37 (32 * L.length) d.1 d.2.1 ∧ wRx y L
theorem wRx_eq : ∀ L : List ptT, (∀ i, i < 32 * L.length → y1.2.1 37 i = y.2.1 37 i) → wRx y L → wRx y1 L
  | [], _, _ => trivial
  | d :: L, he, h => by
    have hl : (d :: L).length = L.length + 1 := List.length_cons
    rw [hl] at he
    exact ⟨vRow_eq9 (fun i h1 h2 => he i (by omega)) h.1, wRx_eq L (fun i hi => he i (by omega)) h.2⟩
theorem st_snoc {v w : Nat} : ∀ (n : Nat) (N : Nat → Nat), stN c n N M → prN c M v w → stN c (n + 1) N (exN M v w)
  | 0, N, h, hp => by
    have h : N = M := h
    subst h
    exact ⟨v, w, hp, rfl⟩
  | n + 1, N, ⟨a, b, h1, h2⟩, hp => ⟨a, b, h1, st_snoc n _ h2 hp⟩
theorem row_two {d : ptT} (h : rowO T d) : 2 ≤ d.1.flatten.length := by
  obtain ⟨-, h2, -, ⟨c, h4, -⟩, -⟩ := h
  have := okF_len h4
  have := List.length_pos_iff.mpr h2.1
  omega
theorem prt_lst : ∀ (D : List ptT), (∀ d, d ∈ D → rowO T d) → D.Pairwise (fun d d' => ∀ j, inD d j → ¬ inD d' j) → ∃ ls : List Nat, ls.Nodup ∧ 2 * D.length ≤ ls.length ∧ ∀ j, j ∈ ls → j < 2 * T.1 ∧ ∃ d, d ∈ D ∧ inD d j
  | [], _, _ => ⟨[], List.nodup_nil, Nat.le_refl _, fun j hj => absurd hj List.not_mem_nil⟩
  | d :: D, h, hp => by
    obtain ⟨p1, p2⟩ := List.pairwise_cons.mp hp
    obtain ⟨ls, l1, l2, l3⟩ := prt_lst D (fun d hd => h d (List.mem_cons_of_mem _ hd)) p2
    have hd := h d List.mem_cons_self
    have h2 := row_two hd
    have i0 : inD d (lbv d.1 d.2.2 0) := ⟨0, by omega, rfl⟩
    have i1 : inD d (lbv d.1 d.2.2 1) := ⟨1, by omega, rfl⟩
    have no : ∀ j, inD d j → j ∉ ls := fun j hj hm => by
      obtain ⟨-, d', d1, d2⟩ := l3 j hm
      exact p1 d' d1 j hj d2
    have ne : lbv d.1 d.2.2 0 ≠ lbv d.1 d.2.2 1 := fun e => by
      have := em_inj hd.1 (show 0 < d.1.flatten.length by omega) (show 1 < d.1.flatten.length by omega) e
      omega
    refine ⟨lbv d.1 d.2.2 0 :: lbv d.1 d.2.2 1 :: ls, List.nodup_cons.mpr ⟨fun hm => ?_, List.nodup_cons.mpr ⟨no _ i1, l1⟩⟩, ?_, fun j hj => ?_⟩
    · rcases List.mem_cons.mp hm with e | hm
      · exact ne e
      · exact no _ i0 hm
    · rw [List.length_cons, List.length_cons, List.length_cons]
      omega
    · rcases List.mem_cons.mp hj with e | hj
      · rw [e]
        exact ⟨em_lt hd.1 (by omega), d, List.mem_cons_self, i0⟩
      · rcases List.mem_cons.mp hj with e | hj
        · rw [e]
          exact ⟨em_lt hd.1 (by omega), d, List.mem_cons_self, i1⟩
        · obtain ⟨a1, d', a2, a3⟩ := l3 j hj
          exact ⟨a1, d', List.mem_cons_of_mem _ a2, a3⟩
theorem prt_len (h : ∀ d, d ∈ D → rowO T d) (hp : D.Pairwise (fun d d' => ∀ j, inD d j → ¬ inD d' j)) : D.length ≤ T.1 := by
  obtain ⟨ls, l1, l2, l3⟩ := prt_lst D h hp
  have := nodup_le ls (List.range (2 * T.1)) l1 (fun j hj => List.mem_range.mpr (l3 j hj).1)
  rw [List.length_range] at this
  omega
/-- the done rows are in order -/
def srM (Ms : List (rn_L × (Nat → Bool))) : Prop := Ms.Pairwise (fun a b => lsr (tk b.2 b.1) (tk a.2 a.1) = false)
theorem ins_srM {Ms : List (rn_L × (Nat → Bool))} {k : Nat} (h : srM Ms) (hk : k ≤ Ms.length) (h1 : ∀ i B t, i + 1 = k → Ms[i]? = some (B, t) → lsr (tk sg A) (tk t B) = false) (h2 : ∀ i B t, k ≤ i → Ms[i]? = some (B, t) → lsr (tk sg A) (tk t B) = true) : srM (Ms.take k ++ (A, sg) :: Ms.drop k) := by
  have hsp : (Ms.take k ++ Ms.drop k).Pairwise (fun a b => lsr (tk b.2 b.1) (tk a.2 a.1) = false) := by
    rw [List.take_append_drop]
    exact h
  obtain ⟨p1, p2, p3⟩ := List.pairwise_append.mp hsp
  have lo : ∀ a, a ∈ Ms.take k → lsr (tk sg A) (tk a.2 a.1) = false := fun a ha => by
    obtain ⟨i, hi, e⟩ := List.getElem_of_mem ha
    have hl : (Ms.take k).length = k := by rw [List.length_take]; omega
    rw [hl] at hi
    have ei : Ms[i]? = some a := by
      have := List.getElem?_eq_getElem (l := Ms.take k) (i := i) (by omega)
      rw [e, List.getElem?_take_of_lt hi] at this
      exact this
    by_cases hik : i + 1 = k
    · exact h1 i a.1 a.2 hik ei
    · have hkl : k - 1 < Ms.length := by omega
      have ek : Ms[k - 1]? = some Ms[k - 1] := List.getElem?_eq_getElem hkl
      have q1 := h1 (k - 1) Ms[k - 1].1 Ms[k - 1].2 (by omega) ek
      have hil : i < Ms.length := by omega
      have q2 := List.pairwise_iff_getElem.mp h i (k - 1) hil hkl (by omega)
      have ea : Ms[i] = a := Option.some.inj ((List.getElem?_eq_getElem hil).symm.trans ei)
      rw [ea] at q2
      cases q3 : lsr (tk sg A) (tk a.2 a.1) with
      | false => rfl
      | true =>
        exfalso
        by_cases e9 : tk Ms[k - 1].2 Ms[k - 1].1 = tk sg A
        · rw [e9, q3] at q2
          cases q2
        · rw [lsr_tr (lsr_tri q1 e9) q3] at q2
          cases q2
  have hi : ∀ b, b ∈ Ms.drop k → lsr (tk b.2 b.1) (tk sg A) = false := fun b hb => by
    obtain ⟨i, hi, e⟩ := List.getElem_of_mem hb
    have ei : Ms[k + i]? = some b := by
      have := List.getElem?_eq_getElem (l := Ms.drop k) hi
      rw [e, List.getElem?_drop] at this
      exact this
    have q := h2 (k + i) b.1 b.2 (by omega) ei
    cases q3 : lsr (tk b.2 b.1) (tk sg A) with
    | false => rfl
    | true =>
      have := lsr_tr q q3
      rw [lsr_irr] at this
      cases this
  refine List.pairwise_append.mpr ⟨p1, List.pairwise_cons.mpr ⟨hi, p2⟩, fun a ha b hb => ?_⟩
  rcases List.mem_cons.mp hb with e | hb
  · rw [e]
    exact lo a ha
  · exact p3 a ha b hb
def ptM (d : ptT) : rn_L × (Nat → Bool) := (d.1, d.2.1)
/-- the done ones and how far the net is parted -/
def suJ (T : ow_NT) (y : ow_MS) (L Dn : List ptT) : Prop := y.1 1 = 0 ∧ wRx y L ∧ (∃ Ms, rlR 35 39 36 16 y Ms ∧ srM Ms ∧ (Dn.map ptM).Perm Ms) ∧ (∀ d, d ∈ Dn → irA d.1) ∧ ∃ n S, vn T.1 S ∧ stN T.1 n T.2.2.1.1 S.1 ∧ prtD (ntS T S) (L ++ Dn)
/-- what summands leaves -/
def smE (T : ow_NT) (r : Int32 × ow_MS) : Prop := r.2.1 1 = 0 ∧ ∃ Ms Dn n S, rlR 35 39 36 16 r.2 Ms ∧ r.1 = nI Ms.length ∧ srM Ms ∧ (Dn.map ptM).Perm Ms ∧ (∀ d, d ∈ Dn → irA d.1) ∧ vn T.1 S ∧ stN T.1 n T.2.2.1.1 S.1 ∧ prtD (ntS T S) Dn
theorem xp_sum2 {e : Nat} (hT12 : T.1 ≤ 12) : ∀ (M : Nat) (L Dn : List ptT) (x3 : Int32) (y : ow_MS), 24 + L.length ≤ M + 2 * (L.length + Dn.length) → suJ T y L Dn → Tt (fun K i => q_X13_summands K i 5 (nI e) (nI L.length) x3 0 0 0 0 0 y) (smE T) := by
  intro M
  have fewR : ∀ {y : ow_MS} {L Dn : List ptT}, suJ T y L Dn → L.length + Dn.length ≤ 12 := fun {y L Dn} h => by
    obtain ⟨-, -, -, -, n, S, -, -, h5⟩ := h
    have := prt_len h5.1 h5.2.2
    rw [List.length_append] at this
    have : L.length + Dn.length ≤ T.1 := this
    omega
  have stop : ∀ {y : ow_MS} {Dn : List ptT} {x3 : Int32}, suJ T y [] Dn → Tt (fun K i => q_X13_summands K i 5 (nI e) (nI 0) x3 0 0 0 0 0 y) (smE T) := by
    intro y Dn x3 ⟨j1, j2, ⟨Ms, j3, j4, j5⟩, j6, n, S, j7, j8, j9⟩
    refine u_X13_summands_5 ?_; unfold qm_X13_summands_5
    exact w_leT (b := 0) (by omega) (by omega) (w_rdF j3.2.1 (w_some ⟨j1, Ms, Dn, n, S, j3, rfl, j4, j5, j6, j7, j8, j9⟩))
  induction M with
  | zero =>
    intro L Dn x3 y hM hJ
    have := fewR hJ
    have h0 : L = [] := List.eq_nil_of_length_eq_zero (by omega)
    subst h0
    exact stop hJ
  | succ M ihM =>
    intro L Dn x3 y hM hJ
    cases L with
    | nil => exact stop hJ
    | cons d L =>
      have hsm := fewR hJ
      rw [List.length_cons] at hM hsm ⊢
      obtain ⟨B, sgB, fB⟩ := d
      obtain ⟨j1, ⟨j2, j2'⟩, ⟨Ms, j3, j4, j5⟩, j6, n, S, j7, j8, j9⟩ := hJ
      have hvB : vRow y 37 (32 * L.length) B sgB := j2
      have hMs : Ms.length = Dn.length := by rw [← j5.length_eq, List.length_map]
      have hrow : rowO (ntS T S) (B, sgB, fB) := j9.1 _ (List.mem_append_left _ List.mem_cons_self)
      refine u_X13_summands_5 ?_; unfold qm_X13_summands_5
      rw [pk_m1, show (32 : Int32) * nI L.length = nI (32 * L.length) from pk_mul 32 L.length]
      refine w_leF (b := 0) (by omega) (by omega) (w_cs0 (to_unpack (by omega) ml37 (by omega) (by omega) hvB) (fun y1 ⟨a1, a2, a3⟩ => w_cs0 (to_link hvB a1 a2) (fun y2 ⟨b1, b2⟩ => ?_)))
      have F2 : fr (fun g => 1001 ≤ g ∧ g ≤ 1011) y y2 := fr_tr (fr_mono (fun g hg => by omega) a3) (fr_mono (fun g hg => by omega) b2)
      have hBl := b1.len
      have hBC := b1.2.2.2
      have hdB := wkF_ok b1.wk
      let I : ow_MS → Prop := fun y4 => fr (fun g => g = 38) y2 y4
      have oI : ∀ {y4 : ow_MS}, I y4 → oNet y4 1000 B sgB := fun hI => oNet_fr hI (fun g hg => by omega) b1
      have e37 : ∀ {y4 : ow_MS}, I y4 → y4.2.1 37 = y.2.1 37 := fun hI => by rw [(hI 37 (by omega)).2.1, (F2 37 (by omega)).2.1]
      have e1z : ∀ {y4 : ow_MS}, I y4 → y4.1 1 = 0 := fun hI => by rw [(hI 1 (by omega)).1, (F2 1 (by omega)).1]; exact j1
      have rlI : ∀ {y4 : ow_MS}, I y4 → rlR 35 39 36 16 y4 Ms := fun hI => rlR_k hI ⟨by omega, by omega, by omega⟩ (rlR_k F2 ⟨by omega, by omega, by omega⟩ j3)
      let nP : Nat → Nat → Nat → Prop := fun c g k => ∀ M, gdM B c g k M → ∃ u, u < B.flatten.length ∧ rn_c B u = c ∧ ¬ (g < u ∧ u ≤ k) ∧ M u = M k
      let NB : Nat → Nat → Nat → Prop := fun c g k => ∀ c' g' k', c' < B.length → rn_b B c' ≤ g' → g' < k' → k' < rn_b B (c' + 1) → (c' < c ∨ c' = c ∧ (g' < g ∨ g' = g ∧ k' < k)) → nP c' g' k'
      let PT : ow_MS → Prop := fun y4 => ∃ c g h9, rEa y4 B c g h9 ∧ c < B.length ∧ rn_b B c ≤ g ∧ g < h9 ∧ h9 < rn_b B (c + 1) ∧ (∀ v, v < B.flatten.length → y4.2.1 38 v = 1 → y4.2.1 38 (mtf B v) = 1) ∧ unU y4 B c
      have c11 : ∀ (x3 x4 : Int32) (y4 : ow_MS), I y4 → (x3 = 0 ∧ NB B.length 0 0 ∨ x3 = 1 ∧ PT y4) → Tt (fun K i => q_X13_summands K i 11 (nI e) (nI L.length) x3 x4 0 0 0 0 y4) (smE T) := by
        intro x3 x4 y4 hI hx
        have hvB4 : vRow y4 37 (32 * L.length) B sgB := vRow_eq9 (fun i _ _ => by rw [e37 hI]) hvB
        have wr4 : wRx y4 L := wRx_eq L (fun i _ => by rw [e37 hI]) j2'
        rcases hx with ⟨hx, hno⟩ | ⟨hx, c, g, h9, pE, pc, pg, pgh, ph, pcl, pun⟩
        · subst hx
          have hBne : B ≠ [] := fun e9 => by
            have h2 : cnA B fB (ntS T S) := hrow.2.1
            rw [e9] at h2
            exact h2.1 rfl
          refine u_X13_summands_11 ?_; unfold qm_X13_summands_11
          rw [show (32 : Int32) * nI L.length = nI (32 * L.length) from pk_mul 32 L.length]
          refine w_ifT rfl (w_cs0 (xp_addS (by omega) (by omega) (rlI hI) hBne hvB4) (fun y5 ⟨⟨k, k1, k2, k3, k4⟩, k5⟩ => ?_))
          refine u_X13_summands_12 ?_; unfold qm_X13_summands_12
          refine ihM L ((B, sgB, fB) :: Dn) 0 y5 (show 24 + L.length ≤ M + 2 * (L.length + (Dn.length + 1)) by omega) ⟨by rw [(k5 1 (by omega)).1]; exact e1z hI, wRx_eq L (fun i _ => by rw [(k5 37 (by omega)).2.1]) wr4, ⟨_, k2, ins_srM j4 k1 k3 k4, ?_⟩, fun d hd => ?_, n, S, j7, j8, prtD_perm j9 ?_⟩
          · have hp : (Ms.take k ++ (B, sgB) :: Ms.drop k).Perm ((B, sgB) :: Ms) := by
              have := List.perm_middle (a := (B, sgB)) (l₁ := Ms.take k) (l₂ := Ms.drop k)
              rw [List.take_append_drop] at this
              exact this
            exact (List.Perm.cons (B, sgB) j5).trans hp.symm
          · rcases List.mem_cons.mp hd with e9 | hd
            · rw [e9]
              exact fun c g k hc h1 h2 h3 => hno c g k hc h1 h2 h3 (Or.inl hc)
            · exact j6 d hd
          · exact List.perm_middle.symm
        · subst hx
          have r01 : ∀ v, v < B.flatten.length → y4.2.1 38 v = 0 ∨ y4.2.1 38 v = 1 := fun v hv9 => (pE v hv9).1
          have hbl := rn_b_le B (c + 1)
          have pcl0 : ∀ v, v < B.flatten.length → y4.2.1 38 v = 0 → y4.2.1 38 (mtf B v) = 0 := fun v hv9 hv0 => (r01 _ (mtf_lt hdB hv9)).resolve_right (fun e9 => by
            have := pcl _ (mtf_lt hdB hv9) e9
            rw [mtf_mtf hdB hv9, hv0] at this
            exact absurd this (by decide))
          have hs : prS B c g h9 (fun v => decide (y4.2.1 38 v = bZ true)) := by
            refine ⟨Or.inl (fun v v1 v2 => ?_), fun a b ha hb e1 e2 => ?_, fun v hv9 e9 => decide_eq_true (pcl v hv9 (of_decide_eq_true e9))⟩
            · rw [decide_eq_true_iff]
              exact (pE v (by omega)).2 (rn_c_of B c v v1 v2)
            · show decide (y4.2.1 38 a = bZ true) = decide (y4.2.1 38 b = bZ true)
              rw [pun a b ha hb e1 e2]
          refine u_X13_summands_11 ?_; unfold qm_X13_summands_11
          rw [nI_1, show nI L.length + 2 = nI (L.length + 2) from nI_add L.length 2]
          refine w_ifF (by decide) (w_cs0 (xp_waits (b := true) pn1 (by omega) (by omega) (oI hI) pcl) (fun y5 ⟨⟨m5, P5, k5, r5⟩, f5, i5⟩ => ?_))
          have e38 : y5.2.1 38 = y4.2.1 38 := (f5 38 (by omega)).2.1
          have o5 : oNet y5 1000 B sgB := oNet_fr f5 (fun g hg => by omega) (oI hI)
          refine w_cs0 (xp_waits (b := false) (at9 := L.length + 1) pn1 (by omega) (by omega) o5 (by rw [e38]; exact pcl0)) (fun y6 ⟨⟨m6, P6, k6, r6⟩, f6, i6⟩ => ?_)
          have ew : wfW B (fun v => decide (y5.2.1 38 v = bZ false)) B.length = wfW B (fun v => !decide (y4.2.1 38 v = bZ true)) B.length := wfW_cg (fun v hv9 => by
            show decide (y5.2.1 38 v = bZ false) = !decide (y4.2.1 38 v = bZ true)
            rw [e38]
            rcases r01 v hv9 with e9 | e9 <;> rw [e9] <;> decide) _
          rw [ew] at k6 r6
          obtain ⟨q1, d1, d2, q2, q3, q4⟩ := prt_step (T := ntS T S) (D := L ++ Dn) j9 j7 pc pg pgh ph hs k5 k6
          rw [q2] at r5
          rw [q3] at r6
          have w1 := q4.1 d1 List.mem_cons_self
          have w2 := q4.1 d2 (List.mem_cons_of_mem _ List.mem_cons_self)
          have gl' : g < B.flatten.length := by omega
          have kl : h9 < B.flatten.length := by omega
          have hem : emN B sgB fB (ntS T S) := hrow.1
          have lg9 : lbv B fB g < 2 * T.1 := em_lt (T := ntS T S) hem gl'
          have lk9 : lbv B fB h9 < 2 * T.1 := em_lt (T := ntS T S) hem kl
          refine u_X13_summands_12 ?_; unfold qm_X13_summands_12
          refine ihM (d2 :: d1 :: L) Dn 1 y6 (by rw [List.length_cons, List.length_cons]; omega) ⟨?_, ⟨?_, ?_, ?_⟩, ⟨Ms, ?_, j4, j5⟩, j6, n + 1, np_exchange S (lbv B fB g) (lbv B fB h9), vn_exchange j7 lg9 lk9, st_snoc n _ j8 q1, prtD_perm q4 ?_⟩
          · rw [(f6 1 (by omega)).1, (f5 1 (by omega)).1]
            exact e1z hI
          · exact ⟨r6, w2.2.2.2⟩
          · exact ⟨rc_eq (fun i h1 h2 => i6 i (by omega)) r5, w1.2.2.2⟩
          · exact wRx_eq L (fun i hi => by rw [i6 i (by omega), i5 i (by omega)]) wr4
          · exact rlR_k f6 ⟨by omega, by omega, by omega⟩ (rlR_k f5 ⟨by omega, by omega, by omega⟩ (rlI hI))
          · exact List.Perm.swap d2 d1 (L ++ Dn)
      have l6 : ∀ (dd c : Nat) (x3 : Int32) (y4 : ow_MS), c + dd = B.length → I y4 → (x3 = 0 ∧ NB c 0 0 ∨ x3 = 1 ∧ PT y4) → Tt (fun K i => q_X13_summands K i 6 (nI e) (nI L.length) x3 (nI c) 0 0 0 0 y4) (smE T) := by
        intro dd
        induction dd with
        | zero =>
          intro c x3 y4 hc hI hx
          have hcB : c = B.length := by omega
          rw [hcB] at hx ⊢
          refine u_X13_summands_6 ?_; unfold qm_X13_summands_6
          exact w_rdF (lk_C (oI hI).1) (w_leT (by omega) (by omega) (c11 x3 _ y4 hI hx))
        | succ dd ih6 =>
          intro c x3 y4 hc hI hx
          have m1 := rn_b_mono B c
          have m2 := rn_b_le B (c + 1)
          have c10 : ∀ (x5 x3 : Int32) (y4 : ow_MS), I y4 → (x3 = 0 ∧ NB (c + 1) 0 0 ∨ x3 = 1 ∧ PT y4) → Tt (fun K i => q_X13_summands K i 10 (nI e) (nI L.length) x3 (nI c) x5 0 0 0 y4) (smE T) := by
            intro x5 x3 y4 hI hx
            refine u_X13_summands_10 ?_; unfold qm_X13_summands_10
            rw [nI_1]
            exact ih6 (c + 1) x3 y4 (by omega) hI hx
          have l7 : ∀ (dg g : Nat) (x3 : Int32) (y4 : ow_MS), g + dg = rn_b B (c + 1) → rn_b B c ≤ g → I y4 → (x3 = 0 ∧ NB c g 0 ∨ x3 = 1 ∧ PT y4) → Tt (fun K i => q_X13_summands K i 7 (nI e) (nI L.length) x3 (nI c) (nI g) 0 0 0 y4) (smE T) := by
            intro dg
            induction dg with
            | zero =>
              intro g x3 y4 hg hlo hI hx
              refine u_X13_summands_7 ?_; unfold qm_X13_summands_7
              rw [nI_1]
              refine w_rdI (pl3 pn1) rfl (by omega) (lk_b (oI hI).1 (by omega)) (w_leT (by omega) (by omega) (c10 _ x3 y4 hI (hx.imp (fun ⟨q1, q2⟩ => ⟨q1, fun c' g' k' h1 h2 h3 h4 h5 => q2 c' g' k' h1 h2 h3 h4 ?_⟩) id)))
              by_cases ec : c' = c
              · subst ec
                exact Or.inr ⟨rfl, Or.inl (by omega)⟩
              · exact Or.inl (by omega)
            | succ dg ih7 =>
              intro g x3 y4 hg hlo hI hx
              have c9 : ∀ (x6 x3 : Int32) (y4 : ow_MS), I y4 → (x3 = 0 ∧ NB c (g + 1) 0 ∨ x3 = 1 ∧ PT y4) → Tt (fun K i => q_X13_summands K i 9 (nI e) (nI L.length) x3 (nI c) (nI g) x6 0 0 y4) (smE T) := by
                intro x6 x3 y4 hI hx
                refine u_X13_summands_9 ?_; unfold qm_X13_summands_9
                rw [nI_1]
                exact ih7 (g + 1) x3 y4 (by omega) (by omega) hI hx
              have l8 : ∀ (dh h9 : Nat) (x3 : Int32) (y4 : ow_MS), h9 + dh = rn_b B (c + 1) → g < h9 → I y4 → (x3 = 0 ∧ NB c g h9 ∨ x3 = 1 ∧ PT y4) → Tt (fun K i => q_X13_summands K i 8 (nI e) (nI L.length) x3 (nI c) (nI g) (nI h9) 0 0 y4) (smE T) := by
                intro dh
                induction dh with
                | zero =>
                  intro h9 x3 y4 hh hlo8 hI hx
                  refine u_X13_summands_8 ?_; unfold qm_X13_summands_8
                  rw [nI_1]
                  refine w_rdI (pl3 pn1) rfl (by omega) (lk_b (oI hI).1 (by omega)) (w_leT (by omega) (by omega) (c9 _ x3 y4 hI (hx.imp (fun ⟨q1, q2⟩ => ⟨q1, fun c' g' k' h1 h2 h3 h4 h5 => q2 c' g' k' h1 h2 h3 h4 ?_⟩) id)))
                  by_cases ec : c' = c
                  · subst ec
                    exact Or.inr ⟨rfl, by omega⟩
                  · exact Or.inl (by omega)
                | succ dh ih8 =>
                  intro h9 x3 y4 hh hlo8 hI hx
                  refine u_X13_summands_8 ?_; unfold qm_X13_summands_8
                  rw [nI_1, nI_1]
                  refine w_rdI (pl3 pn1) rfl (by omega) (lk_b (oI hI).1 (by omega)) (w_leF (by omega) (by omega) (w_if (fun hx0 => w_cs1 (xp_parted (oI hI) (by omega) hlo hlo8 (by omega)) (fun a y5 ⟨r1, r2, r3, r4⟩ => ?_)) (fun hx0 => c9 _ x3 y4 hI (hx.imp (fun q => absurd q.1 hx0) id))))
                  have r1 : fr (fun i => i = 38) y4 y5 := r1
                  have r2 : a = 0 ∨ a = 1 := r2
                  have r3 : a = 1 → rEa y5 B c g h9 ∧ (∀ v, v < B.flatten.length → y5.2.1 38 v = 1 → y5.2.1 38 (mtf B v) = 1) ∧ unU y5 B c := r3
                  have r4 : a = 0 → nP c g h9 := r4
                  refine ih8 (h9 + 1) a y5 (by omega) (by omega) (fr_tr hI r1) (r2.imp (fun e9 => ⟨e9, fun c' g' k' h1 h2 h3 h4 h5 => ?_⟩) (fun e9 => ⟨e9, c, g, h9, (r3 e9).1, by omega, hlo, hlo8, by omega, (r3 e9).2⟩))
                  rcases hx with ⟨-, q2⟩ | ⟨q1, -⟩
                  · by_cases ec : c' = c ∧ g' = g ∧ k' = h9
                    · obtain ⟨rfl, rfl, rfl⟩ := ec
                      exact r4 e9
                    · exact q2 c' g' k' h1 h2 h3 h4 (by omega)
                  · rw [hx0] at q1
                    exact absurd q1 (by decide)
              refine u_X13_summands_7 ?_; unfold qm_X13_summands_7
              rw [nI_1, nI_1]
              refine w_rdI (pl3 pn1) rfl (by omega) (lk_b (oI hI).1 (by omega)) (w_leF (by omega) (by omega) (w_if (fun hx0 => l8 (rn_b B (c + 1) - (g + 1)) (g + 1) x3 y4 (by omega) (by omega) hI (hx.imp (fun ⟨q1, q2⟩ => ⟨q1, fun c' g' k' h1 h2 h3 h4 h5 => q2 c' g' k' h1 h2 h3 h4 (by omega)⟩) id)) (fun hx0 => c10 _ x3 y4 hI (hx.imp (fun q => absurd q.1 hx0) id))))
          refine u_X13_summands_6 ?_; unfold qm_X13_summands_6
          refine w_rdF (lk_C (oI hI).1) (w_leF (by omega) (by omega) (w_if (fun hx0 => w_rdI (pl3 pn1) rfl (by omega) (lk_b (oI hI).1 (by omega)) (l7 (rn_b B (c + 1) - rn_b B c) (rn_b B c) x3 y4 (by omega) (Nat.le_refl _) hI (hx.imp (fun ⟨q1, q2⟩ => ⟨q1, fun c' g' k' h1 h2 h3 h4 h5 => q2 c' g' k' h1 h2 h3 h4 ?_⟩) id))) (fun hx0 => c11 x3 _ y4 hI (hx.imp (fun q => absurd q.1 hx0) id))))
          by_cases ec : c' = c
          · subst ec
            omega
          · omega
      exact l6 B.length 0 0 y2 (by omega) fr_rf (Or.inl ⟨rfl, fun c' g' k' h1 h2 h3 h4 h5 => by omega⟩)
end XTA
end
section
/-! 99zzzzzzzzzzzzzg.xsu15 -/
/-! summands of the reference: the first phase -/
section XTB
variable {X : (Nat → Nat → Int32) → Prop} {z : ow_MS} {St : plT} {x : Int32} {T : ow_NT} {A : rn_L} {sg : Nat → Bool} {f : Nat → Nat}
theorem xq_sumN (h : gI X z) (hR : relR z St) (h0 : ∀ d, d < 40 → x = nI d → St d = none) : Te (fun K => qe_X13_summands K x z) (rFl X z 1) := by
  have h1 := gI_1 (c := 0) h
  have hR1 := relR_1 (c := 0) hR
  refine e_X13_summands ?_
  refine u_X13_summands_0 ?_; unfold qm_X13_summands_0
  refine w_wrF (w_hasX hR1 (fun _ => w_ifT rfl (w_failX (k := 1) h1 fr_1)) (fun d A sg hd hx hSt hv hne => ?_))
  rw [h0 d hd hx] at hSt
  cases hSt
theorem xq_sum {d : Nat} (hR : relR z St) (hd : d < 40) (hSt : St d = some (A, sg)) (hi : isoN A sg f T) (hv : vn T.1 T.2.2.1) : Te (fun K => qe_X13_summands K (nI d) z) (smE T) := by
  have hR1 := relR_1 (c := 0) hR
  refine e_X13_summands ?_
  refine u_X13_summands_0 ?_; unfold qm_X13_summands_0
  refine w_wrF (w_hasX hR1 (fun h0 => ?_) (fun d' A' sg' hd' hx hSt' hvr hne => w_ifF (by decide) ?_))
  · rw [h0 d hd rfl] at hSt
    cases hSt
  have ed := nI_inj9 (a := d) (b := d') (by omega) (by omega) hx
  subst ed
  rw [hSt] at hSt'
  cases hSt'
  have hT12 := hi.2.2.1
  refine w_cs0 (to_open pn2 hd hvr) (fun z2 ⟨o1, f1⟩ => w_cs0 (tn_split pn2 (by have := o1.len; omega) (by have := o1.2.2.2; omega) (wkF_ok o1.wk) o1.1) (fun z3 ⟨f3, P, hpt⟩ => ?_))
  have o3 : oNet z3 2000 A sg := oNet_fr f3 (fun g hg => by rcases hg with hg | hg <;> omega) o1
  have e1 : z3.1 1 = 0 := by
    rw [(f3 1 (fun hg => by rcases hg with hg | hg <;> omega)).1, (f1 1 (by omega)).1]
    exact po_usF_at
  have hl := o3.len
  have hC := o3.2.2.2
  have hdk := wkF_ok o3.wk
  obtain ⟨m, hk, hmz⟩ := mk_of (by omega) hpt
  have hP := hpt.2.1
  let K1 : ow_MS → Prop := fun y => fr (fun g => 2 ≤ g ∧ g ≤ 9 ∨ g = 37 ∨ g = 38 ∨ 3001 ≤ g ∧ g ≤ 3013) z3 y
  have oK : ∀ {y : ow_MS}, K1 y → oNet y 2000 A sg := fun hf => oNet_fr hf (fun g hg => by omega) o3
  have ph1 : ∀ (k p : Nat) (L : List ptT) (y : ow_MS), p + k = P → K1 y → wRx y L → prtP T A f m p L → Tt (fun K i => q_X13_summands K i 1 (nI d) (nI L.length) (nI p) 0 0 0 0 0 y) (smE T) := by
    intro k
    induction k with
    | zero =>
      intro p L y hp hf hw hD
      have hpP : p = P := by omega
      rw [hpP] at hD
      have e13 : y.1 2013 = nI P := by rw [(hf 2013 (by omega)).1]; exact hpt.1
      refine u_X13_summands_1 ?_; unfold qm_X13_summands_1
      refine w_rdF e13 (w_leT (by omega) (by omega) (w_wrF ?_))
      refine xp_sum2 hT12 24 L [] _ _ (by rw [List.length_nil]; omega) ⟨?_, wRx_eq (y := y) L (fun i _ => rfl) hw, ⟨[], ⟨Nat.zero_le _, po_usF_at, fun k A sg hk => by rw [List.getElem?_nil] at hk; cases hk⟩, List.Pairwise.nil, List.Perm.nil⟩, fun d hd => absurd hd List.not_mem_nil, 0, T.2.2.1, hv, rfl, ?_⟩
      · have := (hf 1 (by omega)).1
        exact rf_ot (by omega) (this.trans e1)
      · rw [List.append_nil]
        exact ini_end hi hk hD
    | succ k ih =>
      intro p L y hp hf hw hD
      have e13 : y.1 2013 = nI P := by rw [(hf 2013 (by omega)).1]; exact hpt.1
      have hLl := prt_len hD.1 hD.2.2.2
      have l2 : ∀ (dd v : Nat) (x4 : Int32) (y : ow_MS), v + dd = A.flatten.length → K1 y → wRx y L → (∀ v', v' < v → y.2.1 38 v' = bZ (decide (m (rn_c A v') = p))) → ((x4 = 0 ∧ ∀ v', v' < v → m (rn_c A v') ≠ p) ∨ x4 = 1 ∧ ∃ v', v' < v ∧ m (rn_c A v') = p) → Tt (fun K i => q_X13_summands K i 2 (nI d) (nI L.length) (nI p) x4 (nI v) 0 0 0 y) (smE T) := by
        intro dd
        induction dd with
        | zero =>
          intro v x4 y hv9 hf hw hr hx
          have hvV : v = A.flatten.length := by omega
          rw [hvV] at hr hx ⊢
          have c4 : ∀ (x4 : Int32) (L2 : List ptT) (y2 : ow_MS), K1 y2 → wRx y2 L2 → prtP T A f m (p + 1) L2 → Tt (fun K i => q_X13_summands K i 4 (nI d) (nI L2.length) (nI p) x4 (nI A.flatten.length) 0 0 0 y2) (smE T) := by
            intro x4 L2 y2 hf2 hw2 hs2
            refine u_X13_summands_4 ?_; unfold qm_X13_summands_4
            rw [nI_1]
            exact ih (p + 1) L2 y2 (by omega) hf2 hw2 hs2
          refine u_X13_summands_2 ?_; unfold qm_X13_summands_2
          refine w_rdF (oK hf).1.V (w_leT (by omega) (Nat.le_refl _) ?_)
          rcases hx with ⟨hx, hno⟩ | ⟨hx, v0, hv0, hm0⟩
          · subst hx
            exact w_ifT rfl (c4 0 L y hf hw (ini_no hD hno))
          · subst hx
            have hclo : ∀ v', v' < A.flatten.length → y.2.1 38 v' = bZ true → y.2.1 38 (mtf A v') = bZ true := by
              intro v' hv' h9
              have hml := mtf_lt hdk hv'
              rw [hr _ hv'] at h9
              have hmp : m (rn_c A v') = p := by
                by_cases h8 : m (rn_c A v') = p
                · exact h8
                · rw [decide_eq_false h8] at h9
                  exact absurd h9 (by decide)
              rw [hr _ hml, ← hk.2.1 _ _ ⟨v', mtf A v', mtf_mt hdk hv', rfl, rfl⟩, hmp, decide_eq_true rfl]
            rw [nI_1]
            refine w_ifF (by decide) (w_cs0 (xp_waits (b := true) pn2 (by omega) (by omega) (oK hf) hclo) (fun y5 ⟨⟨m5, P5, k5, r5⟩, f5, i5⟩ => ?_))
            have ew : wfW A (fun v => decide (y.2.1 38 v = bZ true)) A.length = wfW A (fun v => decide (m (rn_c A v) = p)) A.length := wfW_cg (fun v hv9 => by
              show decide (y.2.1 38 v = bZ true) = decide (m (rn_c A v) = p)
              rw [hr v hv9]
              cases decide (m (rn_c A v) = p) <;> decide) _
            rw [ew] at k5 r5
            obtain ⟨d5, q1, q2⟩ := ini_s hi hv hk hC hD hv0 hm0 k5
            rw [q1] at r5
            have w5 := q2.1 d5 List.mem_cons_self
            exact c4 1 (d5 :: L) y5 (fr_tr hf (fr_mono (fun g hg => by omega) f5)) ⟨⟨r5, w5.2.2.2⟩, wRx_eq L (fun i hi => i5 i (by omega)) hw⟩ q2
        | succ dd ihd =>
          intro v x4 y hv9 hf hw hr hx
          have hvl : v < A.flatten.length := by omega
          have hcl := (rn_c_in A v hvl).1
          have e12 : y.2.1 2012 (rn_c A v) = nI (m (rn_c A v)) := by
            rw [(hf 2012 (by omega)).2.1]
            exact hmz _ hcl
          have hmP := hk.1 _ hcl
          have c3 : ∀ (b : Bool), decide (m (rn_c A v) = p) = b → Tt (fun K i => q_X13_summands K i 3 (nI d) (nI L.length) (nI p) x4 (nI v) 0 (bZ b) (nI v) y) (smE T) := by
            intro b hb
            refine u_X13_summands_3 ?_; unfold qm_X13_summands_3
            rw [nI_1]
            refine w_wrZ ml38 rfl (by omega) (w_rdI ml38 rfl (by omega) (x := bZ b) (by rw [po_usI_at]; cases b <;> rfl) ?_)
            have f9 : fr (fun g => g = 38) y (usI y 38 v (vp_nar .boolean (bZ b))) := fr_I rfl
            refine ihd (v + 1) (x4 ||| bZ b) _ (by omega) (fr_tr hf (fr_mono (fun g hg => by omega) f9)) (wRx_eq L (fun i _ => by rw [(f9 37 (by omega)).2.1]) hw) (fun v' hv' => ?_) ?_
            · by_cases hvv : v' = v
              · rw [hvv, po_usI_at, hb]
                cases b <;> rfl
              · rw [po_usI_ne hvv]
                exact hr v' (by omega)
            · rcases hx with ⟨e0, hall⟩ | ⟨e0, v0, hv0, hm0⟩
              · subst e0
                cases b with
                | true => exact Or.inr ⟨by decide, v, by omega, of_decide_eq_true hb⟩
                | false =>
                  refine Or.inl ⟨by decide, fun v' hv' => ?_⟩
                  by_cases hvv : v' = v
                  · rw [hvv]; exact of_decide_eq_false hb
                  · exact hall v' (by omega)
              · subst e0
                exact Or.inr ⟨by cases b <;> decide, v0, by omega, hm0⟩
          refine u_X13_summands_2 ?_; unfold qm_X13_summands_2
          exact w_rdF (oK hf).1.V (w_leF (by omega) (by omega) (w_rdI (pl8 pn2) rfl (by omega) (lk_c (oK hf).1 hvl) (w_rdI (pl12 pn2) rfl (by omega) e12 (w_eqN (by omega) (by omega) (fun h9 => c3 true (decide_eq_true h9)) (fun h9 => c3 false (decide_eq_false h9))))))
      refine u_X13_summands_1 ?_; unfold qm_X13_summands_1
      exact w_rdF e13 (w_leF (by omega) (by omega) (l2 A.flatten.length 0 0 y (by omega) hf hw (fun v' hv' => by omega) (Or.inl ⟨rfl, fun v' hv' => by omega⟩)))
  exact ph1 P 0 [] z3 (by omega) fr_rf trivial ini_0
end XTB
end
section
/-! 99zzzzzzzzzzzzzh.xsu16 -/
/-! the rows at the end of parting, and the codes that the class finds -/
section XTC
variable {A : rn_L} {sg : Nat → Bool} {f : Nat → Nat} {T : ow_NT} {d : ptT} {D : List ptT} {S S' : ow_NP} {Cs : List cdT} {os : List Nat} {c : Nat}
theorem stG_em (h : emN A sg f T) (hT : pm1 T) {p : vT} (hp : p ∈ A.flatten) : stG T.2.2.2 (gl f p) = (decide (p.2 = 0) == !sg p.1) := by
  obtain ⟨t1, t2, t3, t4⟩ := em_to h
  have h2 := (h.1.2 p hp).2.1
  obtain ⟨e1, e2⟩ := gl_hf (f := f) h2
  have hx := t1 p hp
  have hs := t4 p hp
  unfold stG
  rw [e1, e2]
  congr 1
  rcases hT _ hx with e | e
  · rw [e] at hs ⊢
    cases hq : sg p.1 with
    | true => exact absurd (hs.mpr hq) (by decide)
    | false => rfl
  · rw [e] at hs ⊢
    cases hq : sg p.1 with
    | true => rfl
    | false =>
      have := hs.mp (by decide)
      rw [hq] at this
      cases this
/-- what a part of a plane net shows is plane -/
theorem em_pl (h : emN A sg f T) (hv : vn T.1 T.2.2.1) (hT : pm1 T) (hp : nt_plane T = true) : plnA A sg := by
  intro f' T' h' hT'
  obtain ⟨t1, t2, t3, t4⟩ := em_to h
  have hv' := isoV_vn h'
  have ex : ∀ v, ∃ u, ∀ p, p ∈ A.flatten → gl f' p = v → u = gl f p := fun v => by
    by_cases h9 : ∃ p, p ∈ A.flatten ∧ gl f' p = v
    · obtain ⟨p, p1, p2⟩ := h9
      exact ⟨gl f p, fun q q1 q2 => by rw [gl_gin h'.1 p q p1 q1 (p2.trans q2.symm)]⟩
    · exact ⟨0, fun p p1 p2 => absurd ⟨p, p1, p2⟩ h9⟩
  obtain ⟨ψ, hψ⟩ := Classical.skolem.mp ex
  have at9 : ∀ p, p ∈ A.flatten → ψ (gl f' p) = gl f p := fun p hp => hψ _ p hp rfl
  rw [plane_iff hv' h'.1.2.2.1]
  refine sub_pl hv stG_fl hv' (ψ := ψ) (fun v hv9 => ?_) (fun u v hu hv9 e => ?_) ((plane_iff hv h.2.2.1).mp hp)
  · obtain ⟨p, p1, rfl⟩ := gl_sur h' hv9
    have hp2 := h.1.2 p p1
    obtain ⟨L, l1, l2⟩ := List.mem_flatten.mp p1
    have nL := L_nd h.1.1 l1
    rw [at9 p p1]
    refine ⟨?_, ?_, ?_, ?_⟩
    · have := t1 p p1
      have := hp2.2.1
      unfold gl
      omega
    · rw [t3 L l1 p l2, (h'.2 L l1 p l2).1]
      exact (at9 _ (List.mem_flatten.mpr ⟨L, l1, sc_in l2 nL⟩)).symm
    · rw [gl_mate hp2.2.1, gl_mate hp2.2.1]
      exact (at9 _ hp2.2.2).symm
    · rw [stG_em h hT p1, stG_gl h' hT' p1]
  · obtain ⟨p, p1, rfl⟩ := gl_sur h' hu
    obtain ⟨q, q1, rfl⟩ := gl_sur h' hv9
    rw [at9 p p1, at9 q q1] at e
    rw [gl_inj h p1 q1 e]
theorem rch_pt {a b : Nat} (h : rch c S a b) : ptN c S.1 a b := fun m hm => (h (fun u => m u = m a) rfl (fun j hj e => (hm j hj).1.trans e) (fun j hj e => (hm j hj).2.trans e)).symm
/-- parting keeps plane -/
theorem all_pl (hc : T.1 ≤ 12) : ∀ (k : Nat) (S : ow_NP), vn T.1 S → nt_plane (ntS T S) = true → nt_plane (ntS T (np_all T.1 k S)) = true
  | 0, S, _, hp => hp
  | k + 1, S, hv, hp => by
    rw [np_all]
    cases e : np_once T.1 S with
    | none =>
      rw [if_neg (by rw [Option.isSome_none]; decide)]
      exact hp
    | some q =>
      rw [if_pos Option.isSome_some]
      have h1 := po_v_in (2 * T.1) 0 (by omega) e
      have h2 := po_v_lt _ _ e
      have h3 := po_v_P _ _ e
      have hpr := (po_iff hv hc h1.1 h1.2 (by omega)).mp h3
      have hv' := vn_exchange hv h1.1 h1.2
      refine all_pl hc k (np_exchange S q.1 q.2) hv' ?_
      have hpl : pn_pl T.1 S (stG T.2.2.2) := (plane_iff (T := ntS T S) hv hc).mp hp
      have hb := ex_bridge hv stG_fl hpl h1.1 h1.2 (fun h9 => hpr.2.2.2.2 (rch_pt h9))
      exact (plane_iff (T := ntS T (np_exchange S q.1 q.2)) hv' hc).mpr (pn_exch hv stG_fl hpl h1.1 h1.2 (by omega) (Or.inr (Or.inl hb.1)))
/-- the code of a list that is one part is its row -/
theorem gp_cl {B : rn_L} (h : gp B c) (hc : c ≤ 12) (h6 : B.length ≤ 6) : okL B c ∧ ∀ sgB, clC sgB B = (c, tk sgB B) := by
  have e0 : shN 0 B = B := by
    unfold shN
    have : ∀ L : List (Nat × Nat), L.map (fun p => (p.1 + 0, p.2)) = L := fun L => List.map_id L
    rw [show (fun L : List (Nat × Nat) => L.map (fun p => (p.1 + 0, p.2))) = fun L => L from funext this, List.map_id']
  have hl := okF_len h.1
  have key : ∀ sgB, ucd sgB 0 [] B = tk sgB B ∧ bsO 0 [] B := fun sgB => by
    obtain ⟨u1, u2⟩ := ucd_part (sg := sgB) (sgB := sgB) (R := []) clD_nil h (fun x _ => rfl) B.length 0 (by omega) (List.length_pos_iff.mpr h.2.2.2.1)
    rw [show B.take 0 = [] from rfl, show shN 0 [] = [] from rfl, List.append_nil, List.drop_zero, e0, List.append_nil] at u1 u2
    refine ⟨?_, u2 trivial⟩
    rw [u1]
    show tk sgB B ++ [] = _
    rw [List.append_nil]
  refine ⟨⟨h.1, h.2.1, (key (fun _ => true)).2, hc, h6⟩, fun sgB => ?_⟩
  unfold clC
  rw [(key sgB).1, hl, show 2 * c / 2 = c by omega]
/-- a row is read off itself -/
theorem row_tr (h : rowO T d) : ∃ s, s < d.1.flatten.length ∧ d.1.length = (trS d.1 s).length ∧ gp d.1 (d.1.flatten.length / 2) := by
  obtain ⟨h1, h2, h3, ⟨c, h4, h5⟩, h6⟩ := h
  have h3 : lsC d.1 d.2.1 (List.range d.1.flatten.length) = some (tk d.2.1 d.1) := h3
  obtain ⟨w, w1, w2⟩ := lsC_mem _ h3
  have hw := List.mem_range.mp w1
  obtain ⟨B, sgB, g1, g2, g3, g4⟩ := cdv_gp (sg := d.2.1) h1.1 hw
  obtain ⟨eB, -⟩ := tk_inj d.1 B (fun p hp => (h1.1.2 p hp).2.1) (fun p hp => ((g1.1.2 p).mp hp).2) (w2.trans g2)
  subst eB
  refine ⟨w, hw, g4, ?_⟩
  have := okF_len g1.1
  rw [show d.1.flatten.length / 2 = (fm d.1 (vsO d.1 (trS d.1 w))).length by omega]
  exact g1
theorem row_ne (h : rowO T d) : ∀ L, L ∈ d.1 → L ≠ [] := by
  obtain ⟨s, s1, s2, -⟩ := row_tr h
  obtain ⟨t1, -, -, -⟩ := trS_all (wkF_ok h.1.1) s1
  intro L hL e
  obtain ⟨k, hk, ek⟩ := List.getElem_of_mem hL
  have hm : k ∈ (trS d.1 s).map (rn_c d.1) := full_mem (n := d.1.length) t1.1 (by rw [List.length_map, s2]) (fun x hx => by
    obtain ⟨t, ht, rfl⟩ := List.mem_map.mp hx
    exact (rc_mem (t1.2 t ht)).1) hk
  obtain ⟨t, ht, et⟩ := List.mem_map.mp hm
  have := (rc_mem (t1.2 t ht)).2
  rw [et, List.getD_eq_getElem?_getD, List.getElem?_eq_getElem hk, ek, e] at this
  cases this
/-- the code that the class finds of the part that a row shows -/
theorem row_cd (h : rowO T d) (hv : vn T.1 T.2.2.1) {r : Nat} {C : cdT} (er : (np_parts T.1 T.2.2.1.1).1 (lbv d.1 d.2.2 0) = nI r) (hC : epC T (np_parts T.1 T.2.2.1.1).1 (nI r) C) : okL d.1 C.1 ∧ C = clC d.2.1 d.1 := by
  obtain ⟨s9, -, -, hgp⟩ := row_tr h
  obtain ⟨h1, h2, h3, ⟨c, h4, h5⟩, h6⟩ := h
  have h3 : lsC d.1 d.2.1 (List.range d.1.flatten.length) = some (tk d.2.1 d.1) := h3
  have hc := h1.2.2.1
  have hl : 0 < d.1.flatten.length := List.length_pos_iff.mpr h2.1
  obtain ⟨k, k1, k2, k3, k4⟩ := epC_le (n0 := ptL T.1 T.2.2.1 r) (fun v hv1 ev => tf_len_pt T.2.2.2 hv hc hv1 ev) ⟨_, em_lt h1 hl, er⟩ hC
  have pk : ptN T.1 T.2.2.1.1 (lbv d.1 d.2.2 0) k := (pt_iff9 hv hc (em_lt h1 hl) k1).mp (er.trans k2.symm)
  obtain ⟨s, s1, s2, -⟩ := em_lab h1 hv (q := fun _ => 0) (fun _ _ => rfl) (fun _ _ => rfl) hl pk
  have e2 : C.2 = cdv d.1 d.2.1 s := by
    rw [k3, ← s2]
    exact em_code h1 (by omega) s1
  have e3 : C.2 = tk d.2.1 d.1 := by
    obtain ⟨w, w1, w2⟩ := lsC_mem _ h3
    have a1 := lsC_le _ _ h3 s (List.mem_range.mpr s1)
    have hw := List.mem_range.mp w1
    have a2 : lexD C.2 (tk d.2.1 d.1) ≤ 0 := by
      rw [w2, ← em_code h1 (by omega) hw]
      refine k4 _ (em_lt h1 hw) ?_
      rw [← er]
      exact (pt_iff9 hv hc (em_lt h1 hw) (em_lt h1 hl)).mpr (h2.2 w 0 hw hl)
    rw [← e2] at a1
    have a3 := lexD_sym (tk d.2.1 d.1) C.2
    exact (lexD_0 _ _ (by omega)).symm
  have cnt : cntV (np_parts T.1 T.2.2.1.1).1 (nI r) (2 * T.1) = d.1.flatten.length := by
    have e9 : d.1.flatten.length = ((List.range d.1.flatten.length).map (lbv d.1 d.2.2)).length := by rw [List.length_map, List.length_range]
    rw [cntV_f, e9]
    refine nodup_eq (nodup_filter List.nodup_range) (nodup_map List.nodup_range (fun a b ha hb e => em_inj h1 (List.mem_range.mp ha) (List.mem_range.mp hb) e)) (fun k => ?_)
    rw [List.mem_filter, List.mem_range, decide_eq_true_iff, List.mem_map]
    constructor
    · rintro ⟨q1, q2⟩
      obtain ⟨v, v1, v2, -⟩ := em_lab h1 hv (q := fun _ => 0) (fun _ _ => rfl) (fun _ _ => rfl) hl ((pt_iff9 hv hc (em_lt h1 hl) q1).mp (er.trans q2.symm))
      exact ⟨v, List.mem_range.mpr v1, v2⟩
    · rintro ⟨v, v1, rfl⟩
      have v1 := List.mem_range.mp v1
      refine ⟨em_lt h1 v1, ?_⟩
      rw [← er]
      exact (pt_iff9 hv hc (em_lt h1 v1) (em_lt h1 hl)).mpr (h2.2 v 0 v1 hl)
  have hC1 : C.1 = d.1.flatten.length / 2 := by rw [hC.1, cnt]
  have hlen := okF_len h4
  rw [← hC1] at hgp
  obtain ⟨q1, q2⟩ := gp_cl hgp (by omega) h6
  refine ⟨q1, ?_⟩
  rw [q2, ← e3]
/-- a row is the list of its own code -/
theorem row_nrm (h : rowO T d) (hv : vn T.1 T.2.2.1) : nrm d.1 d.2.1 := by
  have hne := row_ne h
  obtain ⟨s9, -, -, hgp⟩ := row_tr h
  obtain ⟨h1, h2, h3, ⟨c, h4, h5⟩, h6⟩ := h
  have h3 : lsC d.1 d.2.1 (List.range d.1.flatten.length) = some (tk d.2.1 d.1) := h3
  have hlen := okF_len h4
  obtain ⟨f', R, i1, i2⟩ := net_of h1.1 (by omega) h6 d.2.1
  have iN : isoN d.1 d.2.1 f' (R.1, R.2.1, R.2.2.1, fun x => if R.2.2.2 x < 0 then -1 else 1) := by
    refine ⟨i1.1, i1.2.1, i1.2.2.1, i1.2.2.2.1, i1.2.2.2.2.1, i1.2.2.2.2.2.1, fun v hv9 => ?_, i1.2.2.2.2.2.2.2⟩
    rw [← i1.2.2.2.2.2.2.1 v hv9]
    show (if R.2.2.2 (f' (crs d.1 v)) < 0 then (-1 : Int32) else 1) < 0 ↔ _
    by_cases e : R.2.2.2 (f' (crs d.1 v)) < 0
    · rw [if_pos e]
      exact ⟨fun _ => e, fun _ => by decide⟩
    · rw [if_neg e]
      exact ⟨fun h9 => absurd h9 (by decide), fun h9 => absurd h9 e⟩
  have pm : pm1 (R.1, R.2.1, R.2.2.1, fun x => if R.2.2.2 x < 0 then -1 else 1) := fun x _ => by
    show (if R.2.2.2 x < 0 then (-1 : Int32) else 1) = 1 ∨ (if R.2.2.2 x < 0 then (-1 : Int32) else 1) = -1
    by_cases e : R.2.2.2 x < 0
    · rw [if_pos e]
      exact Or.inr rfl
    · rw [if_neg e]
      exact Or.inl rfl
  have n2 : nv (R.1, R.2.1, R.2.2.1, fun x => if R.2.2.2 x < 0 then -1 else 1) := i2
  obtain ⟨Ds, qs, hz⟩ := cp_ex n2
  obtain ⟨m, P, hk⟩ := mk_ex d.1
  obtain ⟨A', sg', p1, p2, p3, p4, f9, p5⟩ := enc_iso iN h6 n2 hk hz
  have e1 : tk d.2.1 d.1 = pkR d.1 d.2.1 m P := Option.some.inj (h3.symm.trans (pkR_one h1 hv h2 hne hk))
  have et : tk d.2.1 d.1 = tk sg' A' := e1.trans p1
  obtain ⟨eA, -⟩ := tk_inj d.1 A' (fun p hp => (h1.1.2 p hp).2.1) (fun p hp => ((p2.1.2 p).mp hp).2) et
  subst eA
  obtain ⟨q1, q2⟩ := gp_cl hgp (by omega) h6
  refine ⟨_, f', Ds, qs, n2, pm, isoV_of iN n2.1, hz, ?_⟩
  rw [p3, q2 sg', q2 d.2.1, et]
/-- rows of nets that go the same ways -/
theorem row_cg (he : ∀ a, a < 2 * T.1 → S.1 a = S'.1 a) (h : rowO (ntS T S) d) : rowO (ntS T S') d := by
  obtain ⟨h1, h2, h3⟩ := h
  refine ⟨⟨h1.1, h1.2.1, h1.2.2.1, h1.2.2.2.1, h1.2.2.2.2.1, fun v hv => ?_, h1.2.2.2.2.2.2⟩, ⟨h2.1, fun u v hu hv m hm => h2.2 u v hu hv m (fun k hk => ?_)⟩, h3⟩
  · have := h1.2.2.2.2.2.1 v hv
    have this : S.1 (lbv d.1 d.2.2 v) = lbv d.1 d.2.2 (rn_nx d.1 v) := this
    rw [he _ (em_lt (T := ntS T S) h1 hv)] at this
    exact this
  · have := hm k hk
    have this : m (S'.1 k) = m k ∧ m (mt k) = m k := this
    rw [← he k hk] at this
    exact this
/-- the codes of the parts are those of the rows -/
theorem prt_perm (hD : prtD T D) (hv : vn T.1 T.2.2.1) (hc : T.1 ≤ 12) (hZ : cpZ T (np_parts T.1 T.2.2.1.1).2 Cs os) : (D.map (fun d => clC d.2.1 d.1)).Perm Cs ∧ ∀ d, d ∈ D → ∃ c, okL d.1 c := by
  obtain ⟨i1, i2, i3, i4⟩ := parts_I hv hc
  have ex : ∀ d : ptT, ∃ r, d ∈ D → r < (np_parts T.1 T.2.2.1.1).2 ∧ (np_parts T.1 T.2.2.1.1).1 (lbv d.1 d.2.2 0) = nI r := fun d => by
    by_cases hd : d ∈ D
    · have h := hD.1 d hd
      have := row_two h
      obtain ⟨r, r1, r2⟩ := i2 _ (em_lt h.1 (show 0 < d.1.flatten.length by omega))
      exact ⟨r, fun _ => ⟨r1, r2⟩⟩
    · exact ⟨0, fun h => absurd h hd⟩
  obtain ⟨ρ, hρ⟩ := Classical.skolem.mp ex
  have cd : ∀ d, d ∈ D → (∃ c, okL d.1 c) ∧ clC d.2.1 d.1 = Cs.getD (ρ d) (0, []) := fun d hd => by
    obtain ⟨r1, r2⟩ := hρ d hd
    have hlt : ρ d < Cs.length := by rw [hZ.1]; exact r1
    obtain ⟨q1, q2⟩ := row_cd (hD.1 d hd) hv r2 (hZ.2.1 (ρ d) Cs[ρ d] (List.getElem?_eq_getElem hlt)).1
    refine ⟨⟨_, q1⟩, ?_⟩
    rw [List.getD_eq_getElem?_getD, List.getElem?_eq_getElem hlt]
    exact q2.symm
  have same : ∀ d, d ∈ D → ∀ v, v < d.1.flatten.length → (np_parts T.1 T.2.2.1.1).1 (lbv d.1 d.2.2 v) = nI (ρ d) := fun d hd v hv9 => by
    have h := hD.1 d hd
    rw [← (hρ d hd).2]
    exact (pt_iff9 hv hc (em_lt h.1 hv9) (em_lt h.1 (by omega))).mpr (h.2.1.2 v 0 hv9 (by omega))
  have nd : (D.map ρ).Nodup := by
    refine List.pairwise_map.mpr (hD.2.2.imp_of_mem (fun {a b} ha hb hab e => ?_))
    have h1 := hD.1 a ha
    have h2 := hD.1 b hb
    have l1 := row_two h1
    have l2 := row_two h2
    have e1 := same a ha 0 (by omega)
    have e2 := same b hb 0 (by omega)
    rw [← e] at e2
    obtain ⟨v, v1, v2, -⟩ := em_lab h1.1 hv (q := fun _ => 0) (fun _ _ => rfl) (fun _ _ => rfl) (show 0 < a.1.flatten.length by omega) ((pt_iff9 hv hc (em_lt h1.1 (by omega)) (em_lt h2.1 (show 0 < b.1.flatten.length by omega))).mp (e1.trans e2.symm))
    exact hab _ ⟨v, v1, v2⟩ ⟨0, by omega, rfl⟩
  have pI : (D.map ρ).Perm (List.range (np_parts T.1 T.2.2.1.1).2) := (List.perm_ext_iff_of_nodup nd List.nodup_range).mpr (fun r => by
    rw [List.mem_range, List.mem_map]
    constructor
    · rintro ⟨d, hd, rfl⟩
      exact (hρ d hd).1
    · intro hr
      obtain ⟨v, v1, v2⟩ := i3 r hr
      obtain ⟨d, d1, w, w1, w2⟩ := hD.2.1 v v1
      refine ⟨d, d1, ?_⟩
      have := same d d1 w w1
      rw [w2, v2] at this
      have hb := (hρ d d1).1
      exact (nI_inj9 (a := r) (b := ρ d) (by omega) (by omega) this).symm)
  refine ⟨?_, fun d hd => (cd d hd).1⟩
  have e1 : D.map (fun d => clC d.2.1 d.1) = (D.map ρ).map (fun r => Cs.getD r (0, [])) := by
    rw [List.map_map]
    exact List.map_congr_left (fun d hd => (cd d hd).2)
  have e2 : (List.range (np_parts T.1 T.2.2.1.1).2).map (fun r => Cs.getD r (0, [])) = Cs := by
    refine List.ext_getElem (by rw [List.length_map, List.length_range, hZ.1]) (fun i h1 h2 => ?_)
    rw [List.getElem_map, List.getElem_range, List.getD_eq_getElem?_getD, List.getElem?_eq_getElem h2]
    rfl
  rw [e1]
  exact (pI.map _).trans (by rw [e2])
/-- the lists of both sides -/
theorem sum_join {Ms : List (rn_L × (Nat → Bool))} (hD : prtD T D) (hv : vn T.1 T.2.2.1) (hc : T.1 ≤ 12) (hZ : cpZ T (np_parts T.1 T.2.2.1.1).2 Cs os) (hM : srM Ms) (hp : (D.map ptM).Perm Ms) : os.length = Ms.length ∧ (∀ (k : Nat) A sg, Ms[k]? = some (A, sg) → atC Cs os k = clC sg A) ∧ ∀ m, m ∈ Ms → ∃ d, d ∈ D ∧ m = ptM d := by
  obtain ⟨p1, p2⟩ := prt_perm hD hv hc hZ
  have mem : ∀ m, m ∈ Ms → ∃ d, d ∈ D ∧ m = ptM d := fun m hm => by
    obtain ⟨d, hd, e⟩ := List.mem_map.mp (hp.mem_iff.mpr hm)
    exact ⟨d, hd, e.symm⟩
  have w1 : (Ms.map (fun m => clC m.2 m.1)).Pairwise (fun a b => cmpC a b ≤ 0) := by
    refine List.pairwise_map.mpr (List.Pairwise.imp_of_mem (fun {a b} ha hb hab => ?_) hM)
    obtain ⟨d1, hd1, rfl⟩ := mem a ha
    obtain ⟨d2, hd2, rfl⟩ := mem b hb
    obtain ⟨c1, o1⟩ := p2 d1 hd1
    obtain ⟨c2, o2⟩ := p2 d2 hd2
    have hab : lsr (tk d2.2.1 d2.1) (tk d1.2.1 d1.1) = false := hab
    have hn : ¬ cmpC (clC d2.2.1 d2.1) (clC d1.2.1 d1.1) < 0 := fun h9 => by
      rw [(lsr_cmp o2 o1).mpr h9] at hab
      cases hab
    have := cmpC_sym (A := clC d1.2.1 d1.1) (B := clC d2.2.1 d2.1)
    show cmpC (clC d1.2.1 d1.1) (clC d2.2.1 d2.1) ≤ 0
    omega
  have w2 := srt_pw hZ.2.2.2
  have pm1' : (Ms.map (fun m => clC m.2 m.1)).Perm Cs := by
    have := (hp.map (fun m : rn_L × (Nat → Bool) => clC m.2 m.1)).symm
    rw [List.map_map] at this
    exact this.trans p1
  have e2 : (List.range (np_parts T.1 T.2.2.1.1).2).map (fun r => Cs.getD r (0, [])) = Cs := by
    refine List.ext_getElem (by rw [List.length_map, List.length_range, hZ.1]) (fun i h1 h2 => ?_)
    rw [List.getElem_map, List.getElem_range, List.getD_eq_getElem?_getD, List.getElem?_eq_getElem h2]
    rfl
  have pm2 : (os.map (fun s => Cs.getD s (0, []))).Perm Cs := by
    have := hZ.2.2.1.map (fun s => Cs.getD s (0, []))
    rw [e2] at this
    exact this
  have eq := pw_eq w1 w2 (pm1'.trans pm2.symm)
  have hl := congrArg List.length eq
  rw [List.length_map, List.length_map] at hl
  refine ⟨hl.symm, fun k A sg hk => ?_, mem⟩
  have h1 : (Ms.map (fun m => clC m.2 m.1))[k]? = some (clC sg A) := by rw [List.getElem?_map, hk]; rfl
  rw [eq, List.getElem?_map] at h1
  unfold atC
  rw [List.getD_eq_getElem?_getD (l := os)]
  cases e : os[k]? with
  | none =>
    rw [e] at h1
    cases h1
  | some s =>
    rw [e] at h1
    exact Option.some.inj h1
end XTC
end
section
/-! 99zzzzzzzzzzzzzi.xsu17 -/
/-! summands: both sides -/
section XTD
variable {vl : Nat → Nat} {y : ow_MS} {St : plT} {x : Int32}
theorem xc_summands (hN : gM y) (hC : relC y St) (hS : okS St) : Te (fun K => ce_X11_summands vl K 0 x y) (fun r => (r.1 = 1 ∧ r.2.2 = y ∧ ∀ d, d < 40 → x = nI d → St d = none) ∨ ∃ d A sg c, d < 40 ∧ x = nI d ∧ St d = some (A, sg) ∧ okL A c ∧ A ≠ [] ∧ plnA A sg ∧ r.1 = 0 ∧ ∃ T Cs os, nv T ∧ isoV A sg (fun x => x) T ∧ pm1 T ∧ nt_plane T = true ∧ cpZ (ntS T (np_all T.1 12 T.2.2.1)) (np_parts T.1 (np_all T.1 12 T.2.2.1).1).2 Cs os ∧ tbO r.2.2 3000 12 Cs os ∧ r.2.1 = nI os.length) := by
  refine e_X11_summands ?_; unfold cm_X11_summands_0
  refine w_tc0 (xc_need hN.1.1 hC hS) ?_ ?_
  · rintro y1 ⟨h1, rfl⟩
    rcases h1 with h1 | ⟨-, d, A, sg, c, hd, rfl, hSt, hs, hA, hne, hpl⟩
    · exact absurd (show (0 : Nat) = 1 from h1.1) (by decide)
    · refine w_cs0 (xc_ld hN.1 hd hs hA hpl) ?_
      rintro y3 ⟨hN3, f3, T, hT, hT1, hV, hpm, hplT⟩
      have hv := hT.2.2.1
      have hb3 : tbs y3 := tbs_fr f3 (fun g hg => by unfold cL at hg; omega) hN.2
      refine w_cs0 (tc_partAll nH4 hT.1 hv.2.2.1 hv.1 hv.2.1) ?_
      rintro y4 ⟨g1, g2⟩
      have hfw : fwR T.1 T.2.2.1 := by
        have h6 := hv.2.2.2
        unfold fwR
        rcases Nat.eq_zero_or_pos T.1 with e | e
        · have : np_rg T.1 T.2.2.1 = 0 := by
            rw [e]
            rfl
          omega
        · have hp : 0 < (np_parts T.1 T.2.2.1.1).2 := by
            obtain ⟨r, r1, -⟩ := (parts_I hv.1 hv.2.1).2.1 0 (by omega)
            omega
          omega
      obtain ⟨n1, n2, n3⟩ := all_ok hv.2.1 12 T.2.2.1 hv.1 hv.2.2.1 hfw
      have hci : T.2.1 ≤ 6 := by have := hv.2.2.2; omega
      have hN4 : gN y4 := gN_net nH4 g2 (fun g hg => by unfold cO cP cR cQ at hg; omega) ⟨_, g1, n2⟩ hN3
      have hb4 : tbs y4 := tbs_fr g2 (fun g hg => by unfold cO cP cR cQ at hg; omega) hb3
      have hk7 := hN4.2.2 7000 (Or.inl rfl)
      obtain ⟨C3, o3, t3⟩ := hb4.2.1
      refine w_cs0 (tc_collectParts (Or.inl rfl) nH4 tH3 (by omega) (by omega) g1 n1 hv.2.1 n2 (fun r hr => (fwR_pt n1 hv.2.1 n3 hr).2) hk7.2.1 t3.2.2.2.2) ?_
      rintro y5 ⟨⟨Cs, os, z1, z2⟩, b1, b2, hy5, f5⟩
      have hl : os.length ≤ 12 := by
        have h9 := parts_le n1 hv.2.1
        have h8 : Cs.length = os.length := z2.2.1
        have h7 : Cs.length = (np_parts T.1 (np_all T.1 12 T.2.2.1).1).2 := z1.1
        have h6 : (np_parts T.1 (np_all T.1 12 T.2.2.1).1).2 ≤ T.1 := h9
        have := hv.2.1
        omega
      have ht5 : tbO y5 3000 12 Cs os := by
        refine ⟨z2, z1.2.2.2, fun C hC => ?_, hl, b2⟩
        obtain ⟨r, hr⟩ := List.getElem?_of_mem hC
        have hr2 := (List.getElem?_eq_some_iff.mp hr).1
        obtain ⟨e1, e2⟩ := z1.2.1 r C hr
        exact part_okC (T := ntS T (np_all T.1 12 T.2.2.1)) n1 hv.2.1 hci n3 (by rw [← z1.1]; exact hr2) e1 e2
      exact w_rdF (x := nI os.length) z2.1 (w_some (Or.inr ⟨d, A, sg, c, hd, rfl, hSt, hA, hne, hpl, rfl, T, Cs, os, hv, hV, hpm, hplT, z1, ht5, rfl⟩))
  · rintro a y1 ha ⟨h1, rfl⟩
    rcases h1 with h1 | h1
    · exact w_some (Or.inl ⟨h1.1, rfl, h1.2⟩)
    · exact absurd h1.1 ha
/-- the reference's end is the class's -/
theorem sm_fin {T : ow_NT} {r : Int32 × ow_MS} (hT : nv T) (h : smE T r) : ∃ D, prtD (ntS T (np_all T.1 12 T.2.2.1)) D ∧ ∃ Ms, rlR 35 39 36 16 r.2 Ms ∧ r.1 = nI Ms.length ∧ srM Ms ∧ (D.map ptM).Perm Ms := by
  obtain ⟨e1, Ms, Dn, n, S, a1, a2, a3, a4, a5, a6, a7, a8⟩ := h
  obtain ⟨⟨n', b1⟩, b2⟩ := all_end hT.1 hT.2.1
  have he := end_one (bj_vn hT.1) a7 b1 (prt_end (T := ntS T S) a8 a6 a5) b2
  exact ⟨Dn, ⟨fun d hd => row_cg he (a8.1 d hd), a8.2.1, a8.2.2⟩, Ms, a1, a2, a3, a4⟩
theorem all_vn {T : ow_NT} (hT : nv T) : vn T.1 (np_all T.1 12 T.2.2.1) := by
  have hfw : fwR T.1 T.2.2.1 := by
    have h6 := hT.2.2.2
    unfold fwR
    rcases Nat.eq_zero_or_pos T.1 with e | e
    · have : np_rg T.1 T.2.2.1 = 0 := by
        rw [e]
        rfl
      omega
    · have hp : 0 < (np_parts T.1 T.2.2.1.1).2 := by
        obtain ⟨r, r1, -⟩ := (parts_I hT.1 hT.2.1).2.1 0 (by omega)
        omega
      omega
  exact (all_ok hT.2.1 12 T.2.2.1 hT.1 hT.2.2.1 hfw).1
end XTD
section XTE
variable {X : (Nat → Nat → Int32) → Prop} {z y : ow_MS} {vl : Nat → Nat} {x : Int32}
theorem c_summands (h : rel3 X z y) : Te (fun K => qe_X13_summands K x z) (fun rr => Te (fun K => ce_X11_summands vl K 0 x y) (fun rc => rel3 X rr.2 rc.2.2 ∧ ansI [(1, 1)] rr rc)) := by
  obtain ⟨⟨St, k⟩, hM, h2⟩ := id h
  refine te_sw (te_and (te_fo (tc_summands (x := x) hM) (fun K => ff_X11_summands)) (xc_summands hM k.2.2.2.1 k.2.2.2.2)) (fun rc ⟨⟨⟨hG, _⟩, fC⟩, hc⟩ => ?_)
  rcases hc with ⟨c1, c2, c3⟩ | ⟨d, A, sg, c, hd, rfl, hSt, hA, hne, hpl, c1, T, Cs, os, t1, t2, t3, t4, t5, t6, t7⟩
  · exact w_monoE (xq_sumN k.1 k.2.2.1 c3) (fun rr hr => both_3 h (bo_fail k hr (by simp) c1 (by rw [c2]; exact k.2.1) (by rw [c2]; exact fr_rf) (by rw [c2]; exact k.2.2.2.1)))
  · refine w_monoE (te_and (te_fo (tp_summands (d := nI d) k.1) (fun K => ff_X13_summands)) (xq_sum k.2.2.1 hd hSt (isoS_iff.mp t2.1) t1.1)) (fun rr ⟨⟨hgI, fR⟩, hsm⟩ => ?_)
    obtain ⟨D, hD, Ms, m1, m2, m3, m4⟩ := sm_fin t1 hsm
    have n1 := all_vn t1
    obtain ⟨j1, j2, j3⟩ := sum_join hD n1 t1.2.1 t5 m3 m4
    have hpl2 : nt_plane (ntS T (np_all T.1 12 T.2.2.1)) = true := all_pl t1.2.1 12 T.2.2.1 t1.1 t4
    have hokM : okM Ms := fun k9 A' sg' hk9 => by
      obtain ⟨d9, hd9, e9⟩ := j3 _ (List.mem_of_getElem? hk9)
      cases e9
      have hr := hD.1 d9 hd9
      refine ⟨fun e => hr.2.1.1 (by rw [e]; rfl), em_pl hr.1 n1 (fun x hx => t3 x hx) hpl2, (prt_perm hD n1 t1.2.1 t5).2 d9 hd9⟩
    have fC : fr (fun g => 0 + 3001 ≤ g ∧ g ≤ 0 + 3005 ∨ 0 + 4001 ≤ g ∧ g ≤ 0 + 4011 ∨ 0 + 7004 ≤ g ∧ g ≤ 0 + 7006 ∨ 0 + 9001 ≤ g ∧ g ≤ 0 + 9003) y rc.2.2 := fC
    obtain ⟨k1, k2, k3, ⟨Ns, q1, q2, q3⟩, -⟩ := h2
    refine ⟨⟨⟨St, hgI, hG.1, relR_fr fR (by decide) k.2.2.1, relC_fr fC (fun q hq h9 => by unfold cW at hq; omega) k.2.2.2.1, k.2.2.2.2⟩, hG, relT_k fR fC (by decide) (by omega) k1, relB_k fR fC (by decide) (by omega) k2, brC_fr fC (by omega) k3, ⟨Ns, rlR_k fR (by decide) q1, rlC_k fC (fun q hq => by unfold cV at hq; omega) q2, q3⟩, Ms, m1, ⟨Cs, os, t6, j1, j2⟩, hokM⟩, Or.inl ⟨hsm.1, c1, ?_⟩⟩
    rw [m2, t7, j1]
theorem nm_summands (h : rel3 X z y) (hm : NM y) : Te (fun K => ce_X11_summands vl K 0 x y) (fun r => NM r.2.2) := by
  obtain ⟨⟨St, k⟩, hM, -⟩ := id h
  refine w_monoE (te_fo (xc_summands hM k.2.2.2.1 k.2.2.2.2) (fun K => ff_X11_summands)) (fun r ⟨hr, hf⟩ => ?_)
  have hf : fr (fun g => 0 + 3001 ≤ g ∧ g ≤ 0 + 3005 ∨ 0 + 4001 ≤ g ∧ g ≤ 0 + 4011 ∨ 0 + 7004 ≤ g ∧ g ≤ 0 + 7006 ∨ 0 + 9001 ≤ g ∧ g ≤ 0 + 9003) y r.2.2 := hf
  rcases hr with ⟨-, e, -⟩ | ⟨d, A, sg, c, hd, -, hSt, hA, hne, hpl, -, T, Cs, os, t1, t2, t3, t4, t5, t6, t7⟩
  · rw [e]
    exact hm
  · have hb := fr_sym hf
    refine ⟨fun d A sg c hd hs hA hne => hm.1 d A sg c hd (slC_fr hb (fun q hq h9 => by unfold cW at hq; omega) hs) hA hne, fun Cs os ht => hm.2.1 Cs os (tbO_fr hb (fun q hq h9 => by unfold cV at hq; omega) ht), fun Cs' os' ht C hC => ?_⟩
    have l1 := ht.2.2.2.1
    have l2 := t6.2.2.2.1
    rw [tab_uni ht.1 t6.1 (by omega) (by omega)] at hC
    obtain ⟨rr, -, hsm⟩ := xq_sum k.2.2.1 hd hSt (isoS_iff.mp t2.1) t1.1
    obtain ⟨D, hD, -⟩ := sm_fin t1 hsm
    have n1 := all_vn t1
    obtain ⟨p1, p2⟩ := prt_perm hD n1 t1.2.1 t5
    obtain ⟨d9, hd9, e9⟩ := List.mem_map.mp (p1.mem_iff.mpr hC)
    obtain ⟨c9, o9⟩ := p2 d9 hd9
    exact ⟨d9.1, d9.2.1, c9, o9, e9.symm, row_nrm (hD.1 d9 hd9) n1⟩
theorem s2_summands : stp2 lst_summands := by
  intro S x1 x2 x3 x4 x5 h
  have hc := rel_of (vl := S.1) (y := S.2.1) (z := S.2.2) (em := [(1, 1)]) (fc := fun K => ce_X11_summands S.1 K 0 x1 S.2.1) (fm := fun K => qe_X13_summands K x1 S.2.2) h.1 (c_summands h.1.1) (fun K => ff_X13_summands) (fun K => ff_X11_summands) (by decide) (fun g hg h9 => by unfold ciH at h9; omega)
  have hn : Te (fun K => ce_X11_summands S.1 K 0 x1 S.2.1) (fun rc => NM rc.2.2) := nm_summands h.1.1 h.2
  have hs : Te (lsV S.1 (fun K => ce_X11_summands S.1 K 0 x1 S.2.1) (fun k z => if k = 1 then some (1, z) else none) (fun K => qe_X13_summands K x1 S.2.2)) (fun S1 => REL S1 ∧ dPhi S.1 ≤ dPhi S1.1) := by
    refine st_int hc (fun j k hm => ?_)
    simp only [List.mem_cons, List.not_mem_nil, or_false, Prod.mk.injEq] at hm
    obtain ⟨rfl, rfl⟩ := hm
    exact ⟨by decide, by decide, by decide, fun _ => rfl⟩
  exact w_monoE (lsV_nm hs hn (fun k z r hr => by
    have hr : (if k = 1 then some (1, z) else none) = some r := hr
    by_cases c0 : k = 1
    · rw [if_pos c0] at hr
      cases hr
      rfl
    rw [if_neg c0] at hr
    cases hr)) (fun S1 ⟨⟨q1, q2⟩, q3⟩ => ⟨⟨q1, q3⟩, q2⟩)
end XTE
end
section
/-! 99zzzzzzzzzzzzzj.xcw1 -/
/-! conway: the tree of both sides on lists of components -/
/-- v is the first visit that comes to its crossing first, and under -/
def bdF (A : rn_L) (v : Nat) : Prop := v < A.flatten.length ∧ (∀ u, u < v → crs A u ≠ crs A v) ∧ uns A v ≠ 0 ∧ ∀ u, u < v → (∀ t, t < u → crs A t ≠ crs A u) → uns A u = 0
noncomputable def fbV (A : rn_L) : Option Nat := @dite _ (∃ v, bdF A v) (Classical.propDecidable _) (fun h => some (Classical.choose h)) (fun _ => none)
def chA (A : rn_L) (x : Nat) : rn_L := A.map (List.map (flp (fun y => decide (y = x))))
def chS (sg : Nat → Bool) (x : Nat) : Nat → Bool := fun y => if y = x then !sg y else sg y
noncomputable def skV : Nat → rn_L → (Nat → Bool) → Nat → Int
  | 0, _, _, _ => 0
  | F + 1, A, sg, k => match fbV A with
    | none => if A.length = 1 ∧ k = 0 then 1 else 0
    | some v => (if sg (crs A v) then -1 else 1) * (if k = 0 then 0 else skV F (smV A v (mtf A v)) sg (k - 1)) + skV F (chA A (crs A v)) (chS sg (crs A v)) k
section XCA
variable {A : rn_L} {sg : Nat → Bool} {v w k f F : Nat}
theorem bd_uni (h : bdF A v) (h' : bdF A w) : v = w := by
  obtain ⟨a1, a2, a3, a4⟩ := h
  obtain ⟨b1, b2, b3, b4⟩ := h'
  rcases Nat.lt_trichotomy v w with q | q | q
  · exact absurd (b4 v q (fun t ht => a2 t ht)) a3
  · exact q
  · exact absurd (a4 w q (fun t ht => b2 t ht)) b3
theorem fb_some (h : bdF A v) : fbV A = some v := by
  unfold fbV
  have hx : ∃ v, bdF A v := ⟨v, h⟩
  rw [dif_pos hx]
  exact congrArg some (bd_uni (Classical.choose_spec hx) h)
theorem fb_none (h : ∀ v, ¬ bdF A v) : fbV A = none := by
  unfold fbV
  rw [dif_neg (fun ⟨v, hv⟩ => h v hv)]
theorem sk_none (h : ∀ v, ¬ bdF A v) : skV (F + 1) A sg k = if A.length = 1 ∧ k = 0 then 1 else 0 := by
  rw [skV, fb_none h]
theorem sk_some (h : bdF A v) : skV (F + 1) A sg k = (if sg (crs A v) then -1 else 1) * (if k = 0 then 0 else skV F (smV A v (mtf A v)) sg (k - 1)) + skV F (chA A (crs A v)) (chS sg (crs A v)) k := by
  rw [skV, fb_some h]
theorem bd_lt (hF : wkF A.flatten) (h : bdF A v) : v < mtf A v ∧ mtf A v < A.flatten.length ∧ crs A (mtf A v) = crs A v := by
  have hd := wkF_ok hF
  have h1 := mtf_lt hd h.1
  have h2 := crs_mtf hd h.1
  have h3 := mtf_ne hd h.1
  refine ⟨?_, h1, h2⟩
  rcases Nat.lt_or_ge (mtf A v) v with h8 | h8
  · exact absurd h2 (h.2.1 _ h8)
  · omega
theorem cps_fl {a : Nat} : ∀ {b : Nat}, a ≤ b → (cps A a b).flatten = seg (rn_b A a) (rn_b A b) := by
  intro b hab
  obtain ⟨d, rfl⟩ : ∃ d, b = a + d := ⟨b - a, by omega⟩
  induction d with
  | zero => rw [Nat.add_zero, cps_0, seg_0]; rfl
  | succ d ih =>
    have m1 := rn_b_mono2 (A := A) (show a ≤ a + d by omega)
    have m2 := rn_b_mono2 (A := A) (show a + d ≤ a + d + 1 by omega)
    rw [show a + (d + 1) = (a + d) + 1 by omega, cps_s (by omega), List.flatten_append, ih (by omega), seg_app m1 m2]
    show _ ++ (_ ++ []) = _
    rw [List.append_nil]
theorem mem_seg {a b j : Nat} : j ∈ seg a b ↔ a ≤ j ∧ j < b := by
  unfold seg
  rw [List.mem_map]
  constructor
  · rintro ⟨i, hi, rfl⟩
    have := List.mem_range.mp hi
    omega
  · rintro ⟨h1, h2⟩
    exact ⟨j - a, List.mem_range.mpr (by omega), by omega⟩
theorem seg_get {b j : Nat} (h : j < b) (Y : List Nat) : (seg 0 b ++ Y)[j]? = some j := by
  rw [List.getElem?_append_left (by rw [seg_len]; omega)]
  unfold seg
  rw [List.getElem?_map, List.getElem?_range (by omega)]
  exact congrArg some (Nat.zero_add j)
/-- what stands where after a smoothing -/
theorem smC_fl (hvw : v < w) (hw : w < A.flatten.length) : ∃ Y, (smC A (rn_c A v) v w (rn_c A w)).flatten = seg 0 v ++ Y ∧ ∀ j, j ∈ seg 0 v ++ Y ↔ j < A.flatten.length ∧ j ≠ v ∧ j ≠ w := by
  obtain ⟨c1, c2, c3⟩ := rn_c_in A v (by omega)
  obtain ⟨j1, j2, j3⟩ := rn_c_in A w hw
  generalize rn_c A v = c at c1 c2 c3
  generalize rn_c A w = J at j1 j2 j3
  have hb0 : rn_b A 0 = 0 := rfl
  have hbn : rn_b A A.length = A.flatten.length := rn_b_len A
  have e0 : (cps A 0 c).flatten = seg 0 (rn_b A c) := by rw [cps_fl (Nat.zero_le c), hb0]
  unfold smC
  by_cases hone : w < rn_b A (c + 1)
  · rw [if_pos hone]
    have m1 := rn_b_le A (c + 1)
    refine ⟨seg (w + 1) (rn_b A (c + 1)) ++ seg (rn_b A (c + 1)) A.flatten.length ++ seg (v + 1) w, ?_, fun j => ?_⟩
    · rw [List.flatten_append, List.flatten_append, List.flatten_append, e0, cps_fl (show c + 1 ≤ A.length by omega), hbn, seg_app (Nat.zero_le _) c2]
      show _ ++ ((_ ++ _) ++ []) ++ _ ++ (_ ++ []) = _
      simp only [List.append_assoc, List.append_nil]
    · simp only [List.mem_append, mem_seg]
      omega
  · rw [if_neg hone]
    have hcJ : c < J := by
      rcases Nat.lt_or_ge c J with h9 | h9
      · exact h9
      · have := rn_b_mono2 (A := A) (show J + 1 ≤ c + 1 by omega)
        omega
    have m1 := rn_b_mono2 (A := A) (show c + 1 ≤ J by omega)
    have m2 := rn_b_le A (J + 1)
    refine ⟨seg (w + 1) (rn_b A (J + 1)) ++ seg (rn_b A J) w ++ seg (v + 1) (rn_b A (c + 1)) ++ seg (rn_b A (c + 1)) (rn_b A J) ++ seg (rn_b A (J + 1)) A.flatten.length, ?_, fun j => ?_⟩
    · rw [List.flatten_append, List.flatten_append, List.flatten_append, e0, cps_fl (show c + 1 ≤ J by omega), cps_fl (show J + 1 ≤ A.length by omega), hbn, seg_app (Nat.zero_le _) c2]
      show _ ++ ((_ ++ _ ++ _ ++ _) ++ []) ++ _ ++ _ = _
      simp only [List.append_assoc, List.append_nil]
    · simp only [List.mem_append, mem_seg]
      omega
theorem smC_ok (hF : wkF A.flatten) (hvw : v < w) (hw : w < A.flatten.length) : (smC A (rn_c A v) v w (rn_c A w)).flatten.Nodup ∧ (∀ j, j ∈ (smC A (rn_c A v) v w (rn_c A w)).flatten ↔ j < A.flatten.length ∧ j ≠ v ∧ j ≠ w) ∧ ∀ j, j < v → (smC A (rn_c A v) v w (rn_c A w)).flatten[j]? = some j := by
  obtain ⟨Y, y1, y2⟩ := smC_fl hvw hw
  refine ⟨?_, fun j => by rw [y1]; exact y2 j, fun j hj => by rw [y1]; exact seg_get hj Y⟩
  have pm := (sm_perm hvw hw).nodup_iff.mp hF.1
  have n4 := (List.nodup_cons.mp (List.nodup_cons.mp pm).2).2
  unfold smV at n4
  rw [fl_map] at n4
  exact (List.pairwise_map.mp n4).imp (fun h e => h (by rw [e]))
theorem sm_pre (hF : wkF A.flatten) (hvw : v < w) (hw : w < A.flatten.length) {j : Nat} (hj : j < v) : vAt (smV A v w) j = vAt A j := sk_pre (smC_ok hF hvw hw).2.2 hj
/-- the fuel does not matter where it is enough -/
theorem sk_fu : ∀ (f F k0 : Nat) (A : rn_L) (sg : Nat → Bool) (k : Nat), wkF A.flatten → gPre A k0 → ouT A k0 f → f < F → skV F A sg k = skV (f + 1) A sg k := by
  intro f
  induction f using Nat.strongRecOn with
  | ind f ih =>
  intro F k0 A sg k hF hg ho hfF
  obtain ⟨F, rfl⟩ : ∃ F', F = F' + 1 := ⟨F - 1, by omega⟩
  by_cases hx : ∃ v, bdF A v
  · obtain ⟨v, hv⟩ := hx
    obtain ⟨b1, b2, b3⟩ := bd_lt hF hv
    obtain ⟨c1, c2, c3⟩ := smC_ok hF b1 b2
    obtain ⟨f1, h1, h2, h3, h4, -⟩ := sk_sm hF hg ho hv.1 b2 b1 b3 hv.2.1 hv.2.2.1 hv.2.2.2 c1 c2 c3
    obtain ⟨f2, g1, g2, g3, g4⟩ := sk_ch (x := crs A v) hF hg ho hv.1 rfl hv.2.1 hv.2.2.1 hv.2.2.2
    obtain ⟨f, rfl⟩ : ∃ f', f = f' + 1 := ⟨f - 1, by omega⟩
    have e1 : ∀ k, skV F (smV A v (mtf A v)) sg k = skV (f + 1) (smV A v (mtf A v)) sg k := fun k => (ih f1 (by omega) F v _ sg k h2 h3 h4 (by omega)).trans (ih f1 (by omega) (f + 1) v _ sg k h2 h3 h4 (by omega)).symm
    have e2 : skV F (chA A (crs A v)) (chS sg (crs A v)) k = skV (f + 1) (chA A (crs A v)) (chS sg (crs A v)) k := (ih f2 (by omega) F (v + 1) _ _ k g2 g3 g4 (by omega)).trans (ih f2 (by omega) (f + 1) (v + 1) _ _ k g2 g3 g4 (by omega)).symm
    rw [sk_some hv, sk_some (F := f + 1) hv, e1, e2]
  · have hn : ∀ v, ¬ bdF A v := fun v hv => hx ⟨v, hv⟩
    rw [sk_none hn, sk_none hn]
theorem ou_all (hF : wkF A.flatten) (hl : A.flatten.length ≤ 24) : gPre A 0 ∧ ouT A 0 12 := by
  refine ⟨fun v hv => absurd hv (Nat.not_lt_zero _), crL A, ?_, fun v hv => Or.inr (crL_m hF (u := uns A v) (vAt_mem hv))⟩
  have := crL_len hF
  omega
/-- one step, the fuel kept -/
theorem sk_st (hF : wkF A.flatten) (hl : A.flatten.length ≤ 24) (h : bdF A v) : skV 13 A sg k = (if sg (crs A v) then -1 else 1) * (if k = 0 then 0 else skV 13 (smV A v (mtf A v)) sg (k - 1)) + skV 13 (chA A (crs A v)) (chS sg (crs A v)) k := by
  obtain ⟨hg, ho⟩ := ou_all hF hl
  obtain ⟨b1, b2, b3⟩ := bd_lt hF h
  obtain ⟨c1, c2, c3⟩ := smC_ok hF b1 b2
  obtain ⟨f1, h1, h2, h3, h4, -⟩ := sk_sm hF hg ho h.1 b2 b1 b3 h.2.1 h.2.2.1 h.2.2.2 c1 c2 c3
  obtain ⟨f2, g1, g2, g3, g4⟩ := sk_ch (x := crs A v) hF hg ho h.1 rfl h.2.1 h.2.2.1 h.2.2.2
  have e1 : ∀ k, skV 12 (smV A v (mtf A v)) sg k = skV 13 (smV A v (mtf A v)) sg k := fun k => (sk_fu f1 12 v _ sg k h2 h3 h4 (by omega)).trans (sk_fu f1 13 v _ sg k h2 h3 h4 (by omega)).symm
  have e2 : skV 12 (chA A (crs A v)) (chS sg (crs A v)) k = skV 13 (chA A (crs A v)) (chS sg (crs A v)) k := (sk_fu f2 12 (v + 1) _ _ k g2 g3 g4 (by omega)).trans (sk_fu f2 13 (v + 1) _ _ k g2 g3 g4 (by omega)).symm
  rw [sk_some (F := 12) h, e1, e2]
theorem ch_len (x : Nat) : (chA A x).flatten.length = A.flatten.length := flp_len
theorem ch_wk (hF : wkF A.flatten) (x : Nat) : wkF (chA A x).flatten := by
  unfold chA
  rw [fl_map2]
  exact wkF_flp hF
/-- powers above the number of crossings do not occur -/
theorem sk_deg : ∀ (F : Nat) (A : rn_L) (sg : Nat → Bool) (k : Nat), wkF A.flatten → A.flatten.length < 2 * k → skV F A sg k = 0
  | 0, _, _, _, _, _ => rfl
  | F + 1, A, sg, k, hF, hl => by
    by_cases hx : ∃ v, bdF A v
    · obtain ⟨v, hv⟩ := hx
      obtain ⟨b1, b2, b3⟩ := bd_lt hF hv
      obtain ⟨c1, c2, c3⟩ := smC_ok hF b1 b2
      have pm := (sm_perm b1 b2).length_eq
      rw [List.length_cons, List.length_cons] at pm
      obtain ⟨hg, ho⟩ : gPre A 0 ∧ ouT A 0 (crL A).length := ⟨fun v hv => absurd hv (Nat.not_lt_zero _), crL A, Nat.le_refl _, fun v hv => Or.inr (crL_m hF (u := uns A v) (vAt_mem hv))⟩
      obtain ⟨f1, h1, h2, h3, h4, -⟩ := sk_sm hF hg ho hv.1 b2 b1 b3 hv.2.1 hv.2.2.1 hv.2.2.2 c1 c2 c3
      rw [sk_some hv, if_neg (show ¬ k = 0 by omega), sk_deg F (smV A v (mtf A v)) sg (k - 1) h2 (by omega), sk_deg F (chA A (crs A v)) _ k (ch_wk hF _) (by rw [ch_len]; exact hl), Int.mul_zero, Int.add_zero]
    · have hn : ∀ v, ¬ bdF A v := fun v hv => hx ⟨v, hv⟩
      rw [sk_none hn, if_neg (by omega)]
/-- the first component is come to over everywhere first, and there are others -/
def gdC (A : rn_L) : Prop := gPre A (rn_b A 1) ∧ 2 ≤ A.length
theorem b1_eq {A B : rn_L} (h : A.head? = B.head?) : rn_b A 1 = rn_b B 1 := by
  cases A with
  | nil => cases B with
    | nil => rfl
    | cons b B => cases h
  | cons a A => cases B with
    | nil => cases h
    | cons b B =>
      cases h
      rfl
theorem gd_sm (hF : wkF A.flatten) (h : gdC A) (hvw : v < w) (hw : w < A.flatten.length) (hv1 : rn_b A 1 ≤ v) : gdC (smV A v w) := by
  obtain ⟨h1, h2⟩ := h
  obtain ⟨c1, c2, c3⟩ := rn_c_in A v (by omega)
  obtain ⟨j1, j2, j3⟩ := rn_c_in A w hw
  have pre : ∀ {j}, j < v → vAt (smV A v w) j = vAt A j := fun hj => sm_pre hF hvw hw hj
  have hc1 : 1 ≤ rn_c A v := by
    rcases Nat.eq_zero_or_pos (rn_c A v) with e | e
    · rw [e] at c3
      have c3 : v < rn_b A 1 := c3
      omega
    · exact e
  have hb : (smV A v w).head? = A.head? ∧ 2 ≤ (smV A v w).length := by
    have hd0 : ∀ Y : rn_L, ((cps A 0 (rn_c A v)).map (List.map (vAt A)) ++ Y).head? = A.head? := fun Y => by
      rw [cps_cons (show 0 < rn_c A v by omega), List.map_cons, List.cons_append, List.head?_cons, cmp_seg (show 0 < A.length by omega)]
      cases A with
      | nil => exact absurd h2 (by decide)
      | cons a A => rfl
    unfold smV smC
    by_cases hone : w < rn_b A (rn_c A v + 1)
    · rw [if_pos hone]
      refine ⟨?_, ?_⟩
      · rw [List.map_append, List.map_append, List.map_append, List.append_assoc, List.append_assoc]
        exact hd0 _
      · rw [List.length_map, List.length_append, List.length_append, List.length_append, cps_n, cps_n]
        show 2 ≤ rn_c A v - 0 + 1 + (A.length - (rn_c A v + 1)) + 1
        omega
    · rw [if_neg hone]
      have hcJ : rn_c A v < rn_c A w := by
        rcases Nat.lt_or_ge (rn_c A v) (rn_c A w) with h9 | h9
        · exact h9
        · have := rn_b_mono2 (A := A) (show rn_c A w + 1 ≤ rn_c A v + 1 by omega)
          omega
      refine ⟨?_, ?_⟩
      · rw [List.map_append, List.map_append, List.map_append, List.append_assoc, List.append_assoc]
        exact hd0 _
      · rw [List.length_map, List.length_append, List.length_append, List.length_append, cps_n, cps_n, cps_n]
        show 2 ≤ rn_c A v - 0 + 1 + (rn_c A w - (rn_c A v + 1)) + (A.length - (rn_c A w + 1))
        omega
  refine ⟨fun u hu hul hfu => ?_, hb.2⟩
  rw [b1_eq hb.1] at hu
  have e1 : uns (smV A v w) u = uns A u := by unfold uns; rw [pre (by omega)]
  rw [e1]
  refine h1 u hu (by omega) (fun t ht e9 => hfu t ht ?_)
  unfold crs at e9 ⊢
  rw [pre (by omega), pre (by omega)]
  exact e9
theorem b1_ch (x : Nat) : rn_b (chA A x) 1 = rn_b A 1 := by
  cases A with
  | nil => rfl
  | cons a A =>
    show ((([a].map (List.map (flp _))) : rn_L).flatten).length = ([a].flatten).length
    rw [fl_map2, List.length_map]
theorem ch_crs {u x : Nat} (hu : u < A.flatten.length) : crs (chA A x) u = crs A u := by
  unfold crs chA
  rw [flp_vAt hu, flp_1]
theorem ch_uns {u x : Nat} (hu : u < A.flatten.length) : uns (chA A x) u = if crs A u = x then 1 - uns A u else uns A u := by
  unfold uns chA
  rw [flp_vAt hu, flp_2]
  by_cases h9 : crs A u = x
  · rw [if_pos h9, if_pos (by exact decide_eq_true h9)]
  · rw [if_neg h9]
    exact if_neg (fun h8 => h9 (of_decide_eq_true h8))
theorem gd_ch {x : Nat} (h : gdC A) (hx : ∀ u, u < rn_b A 1 → u < A.flatten.length → crs A u ≠ x) : gdC (chA A x) := by
  obtain ⟨h1, h2⟩ := h
  refine ⟨fun u hu hul hfu => ?_, by unfold chA; rw [List.length_map]; exact h2⟩
  rw [b1_ch] at hu
  rw [ch_len] at hul
  rw [ch_uns hul, if_neg (hx u hu hul)]
  refine h1 u hu hul (fun t ht e9 => hfu t ht ?_)
  rw [ch_crs (by omega), ch_crs hul]
  exact e9
/-- then nothing is counted -/
theorem sk_zero : ∀ (F : Nat) (A : rn_L) (sg : Nat → Bool) (k : Nat), wkF A.flatten → gdC A → skV F A sg k = 0
  | 0, _, _, _, _, _ => rfl
  | F + 1, A, sg, k, hF, hg => by
    by_cases hx : ∃ v, bdF A v
    · obtain ⟨v, hv⟩ := hx
      obtain ⟨b1, b2, b3⟩ := bd_lt hF hv
      have hv1 : rn_b A 1 ≤ v := by
        rcases Nat.lt_or_ge v (rn_b A 1) with h9 | h9
        · exact absurd (hg.1 v h9 hv.1 hv.2.1) hv.2.2.1
        · exact h9
      obtain ⟨c1, c2, c3⟩ := smC_ok hF b1 b2
      obtain ⟨hg0, ho⟩ : gPre A 0 ∧ ouT A 0 (crL A).length := ⟨fun v hv => absurd hv (Nat.not_lt_zero _), crL A, Nat.le_refl _, fun v hv => Or.inr (crL_m hF (u := uns A v) (vAt_mem hv))⟩
      obtain ⟨f1, h1, h2, h3, h4, -⟩ := sk_sm hF hg0 ho hv.1 b2 b1 b3 hv.2.1 hv.2.2.1 hv.2.2.2 c1 c2 c3
      have z1 : ∀ k, skV F (smV A v (mtf A v)) sg k = 0 := fun k => sk_zero F _ sg k h2 (gd_sm hF hg b1 b2 hv1)
      rw [sk_some hv, z1, sk_zero F (chA A (crs A v)) _ k (ch_wk hF _) (gd_ch hg (fun u hu hul => hv.2.1 u (by omega)))]
      split <;> omega
    · have hn : ∀ v, ¬ bdF A v := fun v hv => hx ⟨v, hv⟩
      have := hg.2
      rw [sk_none hn, if_neg (by omega)]
/-- one component that is come to over everywhere first -/
theorem sk_one (h1 : A.length = 1) (hg : gPre A (rn_b A 1)) : skV (F + 1) A sg k = if k = 0 then 1 else 0 := by
  have hb : rn_b A 1 = A.flatten.length := by rw [← h1]; exact rn_b_len A
  have hn : ∀ v, ¬ bdF A v := fun v hv => hv.2.2.1 (hg v (by rw [hb]; exact hv.1) hv.1 hv.2.1)
  rw [sk_none hn]
  by_cases e : k = 0
  · rw [if_pos ⟨h1, e⟩, if_pos e]
  · rw [if_neg (fun h => e h.2), if_neg e]
end XCA
end
section
/-! 99zzzzzzzzzzzzzk.xcw2 -/
/-! conway: the reference's skein, exactly -/
def cwA (z : ow_MS) (n : Nat → Int) : Prop := ∀ t, t < 40 → z.2.2 42 t = Int64.ofInt (n t)
def shf (j : Nat) (V : Nat → Int) (t : Nat) : Int := if j ≤ t then V (t - j) else 0
theorem cwA_fr {P : Nat → Prop} {z z1 : ow_MS} {n : Nat → Int} (hf : fr P z z1) (hP : ¬ P 42) (h : cwA z n) : cwA z1 n := fun t ht => by
  rw [(hf 42 hP).2.2]
  exact h t ht
theorem cwA_cg {z : ow_MS} {n n' : Nat → Int} (h : cwA z n) (e : ∀ t, t < 40 → n t = n' t) : cwA z n' := fun t ht => by
  rw [← e t ht]
  exact h t ht
theorem smV_n {A : rn_L} {v w : Nat} (hvw : v < w) (hw : w < A.flatten.length) : (smV A v w).length ≤ A.length + 1 := by
  obtain ⟨c1, c2, c3⟩ := rn_c_in A v (by omega)
  obtain ⟨j1, j2, j3⟩ := rn_c_in A w hw
  unfold smV smC
  by_cases hone : w < rn_b A (rn_c A v + 1)
  · rw [if_pos hone, List.length_map, List.length_append, List.length_append, List.length_append, cps_n, cps_n]
    show rn_c A v - 0 + 1 + (A.length - (rn_c A v + 1)) + 1 ≤ A.length + 1
    omega
  · rw [if_neg hone]
    have hcJ : rn_c A v < rn_c A w := by
      rcases Nat.lt_or_ge (rn_c A v) (rn_c A w) with h9 | h9
      · exact h9
      · have := rn_b_mono2 (A := A) (show rn_c A w + 1 ≤ rn_c A v + 1 by omega)
        omega
    rw [List.length_map, List.length_append, List.length_append, List.length_append, cps_n, cps_n, cps_n]
    show rn_c A v - 0 + 1 + (rn_c A w - (rn_c A v + 1)) + (A.length - (rn_c A w + 1)) ≤ A.length + 1
    omega
theorem xr_leaf {c j : Nat} {σ : Int} {a : Int32} {z : ow_MS} {n : Nat → Int} (hc : c < 100) (hj : j ≤ 12) (h46 : z.1 46 = 0) (hn : cwA z n) : Te (fun K => qe_X13_leaf K (nI c) (Int64.ofInt σ) a (nI j) z) (fun z1 => fr (fun g => g = 42) z z1 ∧ cwA z1 (fun t => n t + σ * (if c = 1 ∧ t = j then 1 else 0))) := by
  have out : ∀ x : Int64, x = (if c = 1 then Int64.ofInt σ else 0) → cwA (usJ z 42 j (Int64.ofInt (n j) + x)) (fun t => n t + σ * (if c = 1 ∧ t = j then 1 else 0)) := fun x hx t ht => by
    show (usJ z 42 j (Int64.ofInt (n j) + x)).2.2 42 t = Int64.ofInt (n t + σ * (if c = 1 ∧ t = j then 1 else 0))
    by_cases e : t = j
    · rw [e, usJ_at, hx]
      by_cases e1 : c = 1
      · rw [if_pos e1, if_pos ⟨e1, rfl⟩, Int.mul_one, Int64.ofInt_add]
      · rw [if_neg e1, if_neg (fun h => e1 h.1), Int.mul_zero, Int.add_zero, Int64.add_zero]
    · rw [usJ_ne e, if_neg (fun h => e h.2), Int.mul_zero, Int.add_zero]
      exact hn t ht
  refine e_X13_leaf ?_
  refine u_X13_leaf_0 ?_; unfold qm_X13_leaf_0
  refine w_rdF h46 (w_ifT rfl (w_rdJ ml42 rfl (by omega) (hn j (by omega)) ?_))
  refine w_eqN (b := 1) (by omega) (by omega) (fun e1 => w_wrJ ml42 rfl (by omega) (w_some ⟨fr_J rfl, out _ (by rw [if_pos e1])⟩)) (fun e1 => w_wrJ ml42 rfl (by omega) (w_some ⟨fr_J rfl, out _ (by rw [if_neg e1])⟩))
theorem sg_sm {z z1 : ow_MS} {o n v w : Nat} {A : rn_L} {sg : Nat → Bool} (hF : wkF A.flatten) (hvw : v < w) (hw : w < A.flatten.length) (h : rn_sg z o A.flatten sg) (e : ∀ x, x < 40 → z1.2.1 (n + 6) x = z.2.1 (o + 6) x) : rn_sg z1 n (smV A v w).flatten sg := fun p hp => by
  have hp' := (sm_perm hvw hw).mem_iff.mpr (List.mem_cons_of_mem _ (List.mem_cons_of_mem _ hp))
  rw [e _ (hF.2 p hp').1]
  exact h p hp'
theorem sg_ch {z z1 z2 : ow_MS} {o n x : Nat} {A : rn_L} {sg : Nat → Bool} (hF : wkF A.flatten) (h : rn_sg z o A.flatten sg) (e : ∀ x, x < 40 → z1.2.1 (n + 6) x = z.2.1 (o + 6) x) (e1 : z2.2.1 (n + 6) x = 0 - z1.2.1 (n + 6) x) (e2 : ∀ y, y ≠ x → z2.2.1 (n + 6) y = z1.2.1 (n + 6) y) : rn_sg z2 n (chA A x).flatten (chS sg x) := fun p hp => by
  unfold chA at hp
  rw [fl_map2] at hp
  obtain ⟨q, hq, e9⟩ := List.mem_map.mp hp
  have ep : p.1 = q.1 := by rw [← e9, flp_1]
  have h4 := (hF.2 q hq).1
  rw [ep]
  unfold chS
  by_cases hx : q.1 = x
  · rw [hx, e1, if_pos rfl, e x (by omega), ← hx, h q hq]
    cases sg q.1 <;> rfl
  · rw [e2 _ hx, if_neg hx, e _ h4]
    exact h q hq
theorem xr_skein : ∀ (f depth dd k j : Nat) (A : rn_L) (sg : Nat → Bool) (σ : Int) (n : Nat → Int) (z : ow_MS), f < dd → depth + f ≤ 12 → j ≤ depth → wkF A.flatten → A.flatten.length ≤ 24 → A.length ≤ 6 + j → rn_At z (1000 * (depth + 4)) A [] → rn_sg z (1000 * (depth + 4)) A.flatten sg → gPre A k → ouT A k f → z.1 46 = 0 → cwA z n → Te (fun K => qd_X13_skein K dd (nI depth) (Int64.ofInt σ) 0 (nI j) z) (fun z1 => fr (skH depth) z z1 ∧ cwA z1 (fun t => n t + σ * shf j (skV 13 A sg) t)) := by
  intro f
  induction f using Nat.strongRecOn with
  | ind f ih =>
  intro depth dd k j A sg σ n z hdd hdf hj hF hl hC hA hS hg ho h46 hcw
  obtain ⟨dd, rfl⟩ : ∃ d', dd = d' + 1 := ⟨dd - 1, by omega⟩
  have hd := wkF_ok hF
  have hn : mw_net (1000 * (depth + 4)) := pnL (by omega)
  have hn2 : mw_net (1000 * (depth + 1 + 4)) := pnL (by omega)
  have cx : ∀ {i}, i < A.flatten.length → crs A i < 40 ∧ uns A i < 2 := fun hi => by
    obtain ⟨g1, g2, -⟩ := hF.2 _ (List.mem_of_getElem? (vAt_of hi))
    exact ⟨g1, g2⟩
  let Q : ow_MS → Prop := fun z1 => fr (skH depth) z z1 ∧ cwA z1 (fun t => n t + σ * shf j (skV 13 A sg) t)
  have mono41 : ∀ {y : ow_MS}, fr (fun g => g = 41) z y → fr (skH depth) z y := fun hf => fr_mono (fun g hg => Or.inr (Or.inl hg)) hf
  have aA : ∀ {y : ow_MS}, fr (fun g => g = 41) z y → rn_At y (1000 * (depth + 4)) A [] := fun hf => fr_At hf (fun g hg => by omega) hA
  have aV : ∀ {y : ow_MS}, fr (fun g => g = 41) z y → y.1 (1000 * (depth + 4) + 1) = nI A.flatten.length := fun hf => by rw [(aA hf).1, List.append_nil]
  have c5 : (∀ v, ¬ bdF A v) → ∀ (x8 : Int32) (y : ow_MS), fr (fun g => g = 41) z y → Tt (fun K i => q_X13_skein K (qd_X13_skein K dd) i 5 (nI depth) 0 (nI j) (-1) x8 0 0 0 (Int64.ofInt σ) (1000 * (depth + 4)) 0 0 0 0 0 0 0 0 y) Q := by
    intro hno x8 y hf
    refine u_X13_skein_5 ?_; unfold qm_X13_skein_5
    refine w_ifT rfl (w_rdF (aA hf).2.1 (w_cs0 (xr_leaf (n := n) (by omega) (by omega) (by rw [(hf 46 (by decide)).1]; exact h46) (cwA_fr hf (by decide) hcw)) (fun z1 ⟨h9, h8⟩ => w_some ⟨?_, cwA_cg h8 (fun t ht => ?_)⟩)))
    · exact fr_tr (mono41 hf) (fr_mono (fun g hg => Or.inr (Or.inr (Or.inl hg))) h9)
    · unfold shf
      rw [sk_none (F := 12) hno]
      by_cases e1 : A.length = 1 ∧ t = j
      · rw [if_pos e1, if_pos (by omega), if_pos ⟨e1.1, by omega⟩]
      · rw [if_neg e1]
        by_cases e2 : j ≤ t
        · rw [if_pos e2, if_neg (fun h => e1 ⟨h.1, by omega⟩)]
        · rw [if_neg e2]
  have bad : ∀ (v : Nat) (x8 : Int32) (y : ow_MS), fr (fun g => g = 41) z y → v < A.flatten.length → (∀ u, u < v → crs A u ≠ crs A v) → uns A v ≠ 0 → (∀ u, u < v → (∀ t, t < u → crs A t ≠ crs A u) → uns A u = 0) → Tt (fun K i => q_X13_skein K (qd_X13_skein K dd) i 5 (nI depth) 0 (nI j) (nI v) x8 0 0 0 (Int64.ofInt σ) (1000 * (depth + 4)) 0 0 0 0 0 0 0 0 y) Q := by
    intro v x8 y hf hv hfst hb hgood
    have hAy := aA hf
    obtain ⟨g1, g2, g3⟩ := rn_c_in A v hv
    have hml := mtf_lt hd hv
    have hmc := crs_mtf hd hv
    have hmn := mtf_ne hd hv
    have hvm : v < mtf A v := by
      rcases Nat.lt_or_ge (mtf A v) v with h8 | h8
      · exact absurd hmc (hfst _ h8)
      · omega
    obtain ⟨fc, hfc, kF, kg, ko⟩ := sk_ch (x := crs A v) hF hg ho hv rfl hfst hb hgood
    have hbd : bdF A v := ⟨hv, hfst, hb, hgood⟩
    obtain ⟨q1, q2, q3⟩ := smC_ok hF hvm hml
    obtain ⟨fs, hfs, mF, mg, mo, ml⟩ := sk_sm hF hg ho hv hml hvm hmc hfst hb hgood q1 q2 q3
    obtain ⟨σ1, hσ1⟩ : ∃ σ1 : Int, σ1 = if sg (crs A v) then 0 - σ else σ := ⟨_, rfl⟩
    have c13 : ∀ (x11 : Int32) (y5 : ow_MS), fr (skH depth) z y5 → rn_At y5 (1000 * (depth + 1 + 4)) (chA A (crs A v)) [] → rn_sg y5 (1000 * (depth + 1 + 4)) (chA A (crs A v)).flatten (chS sg (crs A v)) → cwA y5 (fun t => n t + σ1 * shf (j + 1) (skV 13 (smV A v (mtf A v)) sg) t) → Tt (fun K i => q_X13_skein K (qd_X13_skein K dd) i 13 (nI depth) 0 (nI j) (nI v) (nI (rn_c A v)) (nI (crs A v)) (nI (mtf A v)) x11 (Int64.ofInt σ) (1000 * (depth + 4)) (1000 * (depth + 1 + 4)) 0 0 (nI (depth + 1)) 0 0 (Int64.ofInt σ) 0 y5) Q := by
      intro x11 y5 hf5 hA5 hS5 hc5
      refine u_X13_skein_13 ?_; unfold qm_X13_skein_13
      refine w_cs0 (ih fc (by omega) (depth + 1) dd (v + 1) j (chA A (crs A v)) (chS sg (crs A v)) σ _ y5 (by omega) (by omega) (by omega) kF (by rw [ch_len]; exact hl) (by unfold chA; rw [List.length_map]; exact hC) hA5 hS5 kg ko (by rw [(hf5 46 (by unfold skH; omega)).1]; exact h46) hc5) (fun z6 ⟨h6, h7⟩ => w_some ⟨fr_tr hf5 (fr_mono (fun g hg => by unfold skH at hg ⊢; omega) h6), cwA_cg h7 (fun t ht => ?_)⟩)
      unfold shf
      by_cases e2 : j ≤ t
      · rw [if_pos e2, if_pos e2, sk_st hF hl hbd, hσ1]
        by_cases e3 : j + 1 ≤ t
        · rw [if_pos e3, if_neg (show ¬ t - j = 0 by omega), show t - (j + 1) = t - j - 1 by omega]
          cases sg (crs A v)
          · rw [if_neg (by decide), if_neg (by decide), Int.one_mul, Int.mul_add, Int.add_assoc]
          · rw [if_pos rfl, if_pos rfl, Int.mul_add, Int.add_assoc, show σ * (-1 * skV 13 (smV A v (mtf A v)) sg (t - j - 1)) = (0 - σ) * skV 13 (smV A v (mtf A v)) sg (t - j - 1) by rw [Int.neg_one_mul, Int.mul_neg, Int.zero_sub, Int.neg_mul]]
        · rw [if_neg e3, if_pos (show t - j = 0 by omega), Int.mul_zero, Int.mul_zero, Int.add_zero, Int.zero_add]
      · rw [if_neg e2, if_neg e2, if_neg (by omega), Int.mul_zero, Int.mul_zero, Int.add_zero, Int.add_zero]
    have c8 : ∀ (t0 : Int32), t0 = (if sg (crs A v) then 0 else 1) → Tt (fun K i => q_X13_skein K (qd_X13_skein K dd) i 8 (nI depth) 0 (nI j) (nI v) (nI (rn_c A v)) (nI (crs A v)) (nI (mtf A v)) 0 (Int64.ofInt σ) (1000 * (depth + 4)) 0 t0 0 0 0 0 0 0 y) Q := by
      intro t0 ht0
      have hSy : rn_sg y (1000 * (depth + 4)) A.flatten sg := fun p hp => by
        rw [(hf _ (by omega)).2.1]
        exact hS p hp
      refine u_X13_skein_8 ?_; unfold qm_X13_skein_8
      rw [show nI depth + 1 = nI (depth + 1) from nI_1 _]
      refine w_rdN rfl (by omega) (w_cs0 (xr_smoothIn hn hn2 (by omega) hl (by omega) hAy g1 g2 g3 hvm hml) (fun z2 ⟨b2, s2, f2⟩ => ?_))
      have b2 : rn_At z2 (1000 * (depth + 1 + 4)) (smV A v (mtf A v)) [] := b2
      have hz2 : fr (skH depth) z z2 := fr_tr (mono41 hf) (fr_mono (fun g hg => Or.inl (by omega)) f2)
      have hA2 : rn_At z2 (1000 * (depth + 4)) A [] := fr_At f2 (fun g hg => by omega) hAy
      have hS2 : rn_sg z2 (1000 * (depth + 4)) A.flatten sg := fun p hp => by
        rw [(f2 _ (by omega)).2.1]
        exact hSy p hp
      have hs1 : (if t0 = 0 then (0 - Int64.ofInt σ) else Int64.ofInt σ) = Int64.ofInt σ1 := by
        rw [ht0, hσ1]
        cases sg (crs A v)
        · rw [if_neg (by decide), if_neg (by decide)]
        · rw [if_pos rfl, if_pos rfl, if_pos rfl, Int64.ofInt_sub]
          rfl
      have c11 : Tt (fun K i => q_X13_skein K (qd_X13_skein K dd) i 11 (nI depth) 0 (nI j) (nI v) (nI (rn_c A v)) (nI (crs A v)) (nI (mtf A v)) t0 (Int64.ofInt σ) (1000 * (depth + 4)) (1000 * (depth + 1 + 4)) 0 0 (nI (depth + 1)) 0 0 (Int64.ofInt σ1) 0 z2) Q := by
        refine u_X13_skein_11 ?_; unfold qm_X13_skein_11
        rw [show nI depth + 1 = nI (depth + 1) from nI_1 _, show nI j + 1 = nI (j + 1) from nI_1 _]
        refine w_cs0 (ih fs (by omega) (depth + 1) dd v (j + 1) (smV A v (mtf A v)) sg σ1 n z2 (by omega) (by omega) (by omega) mF (Nat.le_trans ml hl) (by have := smV_n hvm hml; omega) b2 (sg_sm hF hvm hml hSy s2) mg mo (by rw [(hz2 46 (by unfold skH; omega)).1]; exact h46) (cwA_fr f2 (by omega) (cwA_fr hf (by decide) hcw))) (fun z3 ⟨h3, h3c⟩ => ?_)
        have hA3 : rn_At z3 (1000 * (depth + 4)) A [] := fr_At h3 (fun g hg => by unfold skH at hg; omega) hA2
        have hS3 : rn_sg z3 (1000 * (depth + 4)) A.flatten sg := fun p hp => by
          rw [(h3 _ (by unfold skH; omega)).2.1]
          exact hS2 p hp
        refine w_cs0 (tn_copy hn2 hn (by omega) (by omega) (by omega) hA3) (fun z4 ⟨hA4, f4, s4⟩ => w_cs0 (tp_changeIn hn2 (by omega) (cx hv).1 (fun u hu => ⟨(cx hu).2, (cx hu).1⟩) hA4) (fun z5 ⟨hA5, f5, e5, e6⟩ => ?_))
        have hz5 : fr (skH depth) z z5 := fr_tr hz2 (fr_tr (fr_mono (fun g hg => by unfold skH at hg ⊢; omega) h3) (fr_tr (fr_mono (fun g hg => Or.inl (by omega)) f4) (fr_mono (fun g hg => Or.inl (by omega)) f5)))
        exact w_rdF (by rw [(hz5 46 (by unfold skH; omega)).1]; exact h46) (w_ifT rfl (c13 _ z5 hz5 hA5 (sg_ch hF hS3 s4 e5 e6) (cwA_fr f5 (by omega) (cwA_fr f4 (by omega) h3c))))
      have c9 : Tt (fun K i => q_X13_skein K (qd_X13_skein K dd) i 9 (nI depth) 0 (nI j) (nI v) (nI (rn_c A v)) (nI (crs A v)) (nI (mtf A v)) t0 (Int64.ofInt σ) (1000 * (depth + 4)) (1000 * (depth + 1 + 4)) 0 (nI (depth + 1)) 0 0 (Int64.ofInt σ1) 0 0 z2) Q := by
        refine u_X13_skein_9 ?_; unfold qm_X13_skein_9
        exact w_rdF (by rw [(hz2 46 (by unfold skH; omega)).1]; exact h46) (w_ifT rfl c11)
      refine w_if (fun h0 => ?_) (fun h0 => ?_)
      · rw [if_pos h0] at hs1
        rw [hs1]
        exact c9
      · rw [if_neg h0] at hs1
        rw [← hs1] at c9
        exact c9
    have c7 : ∀ (d w : Nat), w + d = mtf A v → v < w → Tt (fun K i => q_X13_skein K (qd_X13_skein K dd) i 7 (nI depth) 0 (nI j) (nI v) (nI (rn_c A v)) (nI (crs A v)) (nI w) 0 (Int64.ofInt σ) (1000 * (depth + 4)) 0 0 0 0 0 0 0 0 y) Q := by
      intro d
      induction d with
      | zero =>
        intro w hw hvw
        have hw : w = mtf A v := by omega
        subst hw
        refine u_X13_skein_7 ?_; unfold qm_X13_skein_7
        refine w_rdI (pl4 hn) rfl (by omega) (at_cu hAy hml).1 (w_ifT (by rw [hmc]) (w_rdI (pl6 hn) rfl (cx hv).1 (x := if sg (crs A v) then -1 else 1) (by rw [(hf _ (by omega)).2.1]; exact hS _ (vAt_mem hv)) ?_))
        cases e9 : sg (crs A v)
        · exact w_ifF (by decide) (c8 1 (by rw [e9]; rfl))
        · exact w_ifT (by decide) (c8 0 (by rw [e9]; rfl))
      | succ d ih7 =>
        intro w hw hvw
        have hwl : w < A.flatten.length := by omega
        refine u_X13_skein_7 ?_; unfold qm_X13_skein_7
        rw [show nI w + 1 = nI (w + 1) from nI_1 _]
        refine w_rdI (pl4 hn) rfl (by omega) (at_cu hAy hwl).1 (w_ifF (fun e9 => ?_) (ih7 (w + 1) (by omega) (by omega)))
        have e8 := (nI_eq (by have := (cx hwl).1; omega) (by have := (cx hv).1; omega)).mp e9
        exact sk_two hd hv hml hwl (by omega) hmc (by omega) (by omega) e8
    have c6 : ∀ (d c : Nat), c + d = rn_c A v → Tt (fun K i => q_X13_skein K (qd_X13_skein K dd) i 6 (nI depth) 0 (nI j) (nI v) (nI c) 0 0 0 (Int64.ofInt σ) (1000 * (depth + 4)) 0 0 0 0 0 0 0 0 y) Q := by
      intro d
      induction d with
      | zero =>
        intro c hc
        have hc : c = rn_c A v := by omega
        subst hc
        refine u_X13_skein_6 ?_; unfold qm_X13_skein_6
        rw [show nI (rn_c A v) + 1 = nI (rn_c A v + 1) from nI_1 _, show nI v + 1 = nI (v + 1) from nI_1 _]
        exact w_rdI (pl3 hn) rfl (by omega) (hAy.2.2.1 _ (by omega)) (w_ltT (by have := rn_b_le A (rn_c A v + 1); unfold rn_b at this; omega) g3 (w_rdI (pl4 hn) rfl (by omega) (at_cu hAy hv).1 (c7 (mtf A v - (v + 1)) (v + 1) (by omega) (by omega))))
      | succ d ih6 =>
        intro c hc
        refine u_X13_skein_6 ?_; unfold qm_X13_skein_6
        rw [show nI c + 1 = nI (c + 1) from nI_1 _]
        have hle : rn_b A (c + 1) ≤ rn_b A (rn_c A v) := rn_b_mono2 (by omega)
        exact w_rdI (pl3 hn) rfl (by omega) (hAy.2.2.1 _ (by omega)) (w_ltF (by omega) (show rn_b A (c + 1) ≤ v by omega) (ih6 (c + 1) (by omega)))
    refine u_X13_skein_5 ?_; unfold qm_X13_skein_5
    exact w_ifF (rn_neg1 (by omega)) (c6 (rn_c A v) 0 (by omega))
  have scan : ∀ (d v : Nat) (y : ow_MS), v + d = A.flatten.length → fr (fun g => g = 41) z y → metR A v y → (∀ u, u < v → (∀ t, t < u → crs A t ≠ crs A u) → uns A u = 0) → Tt (fun K i => q_X13_skein K (qd_X13_skein K dd) i 2 (nI depth) 0 (nI j) (-1) (nI v) 0 0 0 (Int64.ofInt σ) (1000 * (depth + 4)) 0 0 0 0 0 0 0 0 y) Q := by
    intro d
    induction d with
    | zero =>
      intro v y hv hf hm hgd
      refine u_X13_skein_2 ?_; unfold qm_X13_skein_2
      exact w_rdF (aV hf) (w_leT (by omega) (by omega) (c5 (fun u hu => hu.2.2.1 (hgd u (by have := hu.1; omega) hu.2.1)) _ y hf))
    | succ d ihs =>
      intro v y hv hf hm hgd
      have hvl : v < A.flatten.length := by omega
      have hcv := cx hvl
      have next : ∀ (y2 : ow_MS), fr (fun g => g = 41) z y2 → metR A (v + 1) y2 → (∀ u, u < v + 1 → (∀ t, t < u → crs A t ≠ crs A u) → uns A u = 0) → Tt (fun K i => q_X13_skein K (qd_X13_skein K dd) i 4 (nI depth) 0 (nI j) (-1) (nI v) (nI (crs A v)) 0 0 (Int64.ofInt σ) (1000 * (depth + 4)) 0 0 0 0 0 0 0 0 y2) Q := by
        intro y2 hf2 hm2 hg2
        refine u_X13_skein_4 ?_; unfold qm_X13_skein_4
        rw [show nI v + 1 = nI (v + 1) from nI_1 _]
        exact ihs (v + 1) y2 (by omega) hf2 hm2 hg2
      refine u_X13_skein_2 ?_; unfold qm_X13_skein_2
      refine w_rdF (aV hf) (w_leF (by omega) hvl (w_ifT rfl (w_rdI (pl4 hn) rfl (by omega) (at_cu (aA hf) hvl).1 (w_rdI ml41 rfl hcv.1 rfl ?_))))
      rcases hm _ hcv.1 with ⟨e0, hno⟩ | ⟨e1, u, hu, hue⟩
      · rw [e0]
        have hf2 : fr (fun g => g = 41) z (usI y 41 (crs A v) (vp_nar .boolean 1)) := fr_I2 hf rfl
        refine w_ifT rfl (w_wrZ ml41 rfl hcv.1 (w_rdI (pl5 hn) rfl (by omega) (at_cu (aA hf2) hvl).2 (w_if (fun h9 => ?_) (fun h9 => ?_))))
        · have hb : uns A v ≠ 0 := fun e => by rw [e] at h9; exact absurd h9 (by decide)
          refine u_X13_skein_3 ?_; unfold qm_X13_skein_3
          refine u_X13_skein_4 ?_; unfold qm_X13_skein_4
          rw [show nI v + 1 = nI (v + 1) from nI_1 _]
          refine u_X13_skein_2 ?_; unfold qm_X13_skein_2
          exact w_rdF (aV hf2) (w_le (by omega) (by omega) (fun _ => bad v _ _ hf2 hvl hno hb hgd) (fun _ => w_ifF (rn_neg1 (by omega)) (bad v _ _ hf2 hvl hno hb hgd)))
        · have hb : uns A v = 0 := by
            rcases Nat.eq_zero_or_pos (uns A v) with h8 | h8
            · exact h8
            · exact absurd (show nI (uns A v) = 1 by rw [show uns A v = 1 by omega]; rfl) h9
          refine u_X13_skein_3 ?_; unfold qm_X13_skein_3
          refine next _ hf2 (fun x hx => ?_) (fun u hu hfu => ?_)
          · by_cases hxv : x = crs A v
            · rw [hxv]
              exact Or.inr ⟨po_usI_at.trans (by decide), v, by omega, rfl⟩
            · rcases hm x hx with ⟨a1, a2⟩ | ⟨a1, u, hu, a2⟩
              · refine Or.inl ⟨rd_ne hxv a1, fun u hu e => ?_⟩
                by_cases huv : u = v
                · rw [huv] at e
                  exact hxv e.symm
                · exact a2 u (by omega) e
              · exact Or.inr ⟨rd_ne hxv a1, u, by omega, a2⟩
          · by_cases huv : u = v
            · rw [huv]; exact hb
            · exact hgd u (by omega) hfu
      · rw [e1]
        refine w_ifF (by decide) (next y hf (fun x hx => ?_) (fun t ht hft => ?_))
        · rcases hm x hx with ⟨a1, a2⟩ | ⟨a1, t, ht, a2⟩
          · refine Or.inl ⟨a1, fun t ht e => ?_⟩
            by_cases htv : t = v
            · rw [htv] at e
              exact a2 u hu (hue.trans e)
            · exact a2 t (by omega) e
          · exact Or.inr ⟨a1, t, by omega, a2⟩
        · by_cases htv : t = v
          · rw [htv] at hft
            exact absurd hue (hft u hu)
          · exact hgd t (by omega) hft
  have clr : ∀ (d i : Nat) (y : ow_MS), i + d = 40 → fr (fun g => g = 41) z y → (∀ x, x < i → y.2.1 41 x = 0) → Tt (fun K t => q_X13_skein K (qd_X13_skein K dd) t 1 (nI depth) 0 (nI j) (nI i) 0 0 0 0 (Int64.ofInt σ) (1000 * (depth + 4)) 0 0 0 0 0 0 0 0 y) Q := by
    intro d
    induction d with
    | zero =>
      intro i y hi hf hx
      refine u_X13_skein_1 ?_; unfold qm_X13_skein_1
      exact w_leT (a := 40) (by omega) (by omega) (scan A.flatten.length 0 y (by omega) hf (fun x h9 => Or.inl ⟨hx x (by omega), fun u hu => absurd hu (by omega)⟩) (fun u hu => absurd hu (by omega)))
    | succ d ihc =>
      intro i y hi hf hx
      refine u_X13_skein_1 ?_; unfold qm_X13_skein_1
      rw [show nI i + 1 = nI (i + 1) from nI_1 _]
      refine w_leF (a := 40) (by omega) (by omega) (w_wrZ ml41 rfl (by omega) (ihc (i + 1) _ (by omega) (fr_I2 hf rfl) (fun x h9 => ?_)))
      by_cases hxi : x = i
      · rw [hxi]
        exact po_usI_at.trans (by decide)
      · exact rd_ne hxi (hx x (by omega))
  refine w_qd ?_
  refine u_X13_skein_0 ?_; unfold qm_X13_skein_0
  exact w_rdN rfl (by omega) (clr 40 0 z (by omega) fr_rf (fun x hx => absurd hx (by omega)))
end
section
/-! 99zzzzzzzzzzzzzl.xcw3 -/
/-! smoothing, with the names of the crossings that are left -/
section ISMb
variable {A : rn_L} {sg : Nat → Bool} {f : Nat → Nat} {T : ow_NT} {P Mi Po : rn_L} {X Y Z W : List vT} {p q : vT}
theorem iso_sm0b {A1 : rn_L} {x : Nat} (h : isoV A1 sg f (T.1, T.2.1, np_exchange T.2.2.1 (gl f p) (gl f q), T.2.2.2)) (hv : vn T.1 T.2.2.1) (hp : p.1 = x) (hq : q = (x, 1 - p.2)) (hp2 : p.2 < 2) (hpA : p ∈ A1.flatten) : ∃ f', isoV (A1.map (List.filter (fun r => decide (r.1 ≠ x)))) sg f' (ntSm T (f x)) ∧ ∀ y, f' y = if f y = T.1 - 1 then f x else f y := by
  have hF := h.1.1
  have hqA : q ∈ A1.flatten := by
    have := (hF.2 p hpA).2.2
    rw [hp, ← hq] at this
    exact this
  have x0 : (x, 0) ∈ A1.flatten ∧ (p = (x, 0) ∧ q = (x, 1) ∨ p = (x, 1) ∧ q = (x, 0)) := by
    rcases (show p.2 = 0 ∨ p.2 = 1 by omega) with e | e
    · have e1 : p = (x, 0) := Prod.ext hp e
      rw [e] at hq
      exact ⟨by rw [← e1]; exact hpA, Or.inl ⟨e1, hq⟩⟩
    · have e1 : p = (x, 1) := Prod.ext hp e
      rw [e] at hq
      exact ⟨by have hq' : q = (x, 0) := hq; rw [← hq']; exact hqA, Or.inr ⟨e1, hq⟩⟩
  obtain ⟨f', k1, kf⟩ := iso_rm h x0.1
  refine ⟨f', ?_, kf⟩
  have ew : wox A1 x = A1.map (List.filter (fun r => decide (r.1 ≠ x))) := by
    unfold wox rmv
    rw [List.map_map]
    exact List.map_congr_left (fun L hL => woL (fun r hr => (hF.2 r (List.mem_flatten.mpr ⟨L, hL, hr⟩)).2.1))
  rw [ew] at k1
  have hfx : f x < T.1 := h.1.2.2.2.1 _ x0.1
  have eT : nt_rm (T.1, T.2.1, np_exchange T.2.2.1 (gl f p) (gl f q), T.2.2.2) (f x) = ntSm T (f x) := by
    unfold ntSm
    rcases x0.2 with ⟨e1, e2⟩ | ⟨e1, e2⟩
    · rw [e1, e2]
      rfl
    · rw [e1, e2]
      rw [show np_exchange T.2.2.1 (gl f (x, 1)) (gl f (x, 0)) = np_exchange T.2.2.1 (2 * f x) (2 * f x + 1) from ex_comm (v := 2 * f x + 1) (w := 2 * f x) hv (by omega) (by omega) (by omega)]
  rw [eT] at k1
  exact k1
theorem iso_sm1b {x : Nat} (hAe : A = P ++ (X ++ p :: (Y ++ q :: Z)) :: Po) (h : isoV A sg f T) (hx : p = (x, 0) ∧ q = (x, 1) ∨ p = (x, 1) ∧ q = (x, 0)) : ∃ f', isoV (P ++ (X ++ Z) :: Po ++ [Y]) sg f' (ntSm T (f x)) ∧ ∀ y, f' y = if f y = T.1 - 1 then f x else f y := by
  have hF := h.1.1
  have hv := isoV_vn h
  have hLA : X ++ p :: (Y ++ q :: Z) ∈ A := by rw [hAe]; exact List.mem_append_right _ List.mem_cons_self
  have nL := L_nd hF.1 hLA
  have hpL : p ∈ X ++ p :: (Y ++ q :: Z) := List.mem_append_right _ List.mem_cons_self
  have hqL : q ∈ X ++ p :: (Y ++ q :: Z) := List.mem_append_right _ (List.mem_cons_of_mem _ (List.mem_append_right _ List.mem_cons_self))
  have hpq : p ≠ q := by
    rcases hx with ⟨rfl, rfl⟩ | ⟨rfl, rfl⟩
    · exact fun e => absurd (Prod.mk.inj e).2 (by decide)
    · exact fun e => absurd (Prod.mk.inj e).2 (by decide)
  have eR : X ++ p :: (Y ++ q :: Z) = (X ++ p :: (Y ++ [q])) ++ Z := by simp
  have eR2 : Z ++ (X ++ p :: (Y ++ [q])) = ((Z ++ X) ++ [p]) ++ (Y ++ [q]) := by simp
  have nR : (((Z ++ X) ++ [p]) ++ (Y ++ [q])).Nodup := by
    rw [← eR2]
    refine nd_rot ?_
    rw [← eR]
    exact nL
  have memR : ∀ r, r ∈ ((Z ++ X) ++ [p]) ++ (Y ++ [q]) ↔ r ∈ X ++ p :: (Y ++ q :: Z) := fun r => by
    simp only [List.mem_append, List.mem_cons, List.mem_singleton]
    grind
  have scR : ∀ r, r ∈ X ++ p :: (Y ++ q :: Z) → sc (((Z ++ X) ++ [p]) ++ (Y ++ [q])) r = sc (X ++ p :: (Y ++ q :: Z)) r := fun r hr => by
    have hn2 : ((X ++ p :: (Y ++ [q])) ++ Z).Nodup := by rw [← eR]; exact nL
    have := sc_rot (p := r) hn2 (by rw [← eR]; exact hr)
    rw [eR2, ← eR] at this
    exact this
  have otherL : ∀ L, L ∈ P ++ Po → L ∈ A := fun L hL => by
    rw [hAe]
    rcases List.mem_append.mp hL with h9 | h9
    · exact List.mem_append_left _ h9
    · exact List.mem_append_right _ (List.mem_cons_of_mem _ h9)
  have otherN : ∀ L, L ∈ P ++ Po → ∀ r, r ∈ L → r ≠ p ∧ r ≠ q := fun L hL r hr => by
    have hn := hF.1
    rw [hAe, List.flatten_append, List.flatten_cons] at hn
    have dis : ∀ s, s ∈ X ++ p :: (Y ++ q :: Z) → r ≠ s := fun s hs e => by
      obtain ⟨n1, n2, n3⟩ := List.nodup_append.mp hn
      obtain ⟨m1, m2, m3⟩ := List.nodup_append.mp n2
      rcases List.mem_append.mp hL with h9 | h9
      · exact n3 r (List.mem_flatten.mpr ⟨L, h9, hr⟩) s (List.mem_append_left _ hs) e
      · exact m3 s hs r (List.mem_flatten.mpr ⟨L, h9, hr⟩) e.symm
    exact ⟨dis p hpL, dis q hqL⟩
  let A1 : rn_L := P ++ ((Z ++ X) ++ [p]) :: Po ++ [Y ++ [q]]
  have perm1 : A1.flatten.Perm A.flatten := by
    rw [hAe]
    show (P ++ ((Z ++ X) ++ [p]) :: Po ++ [Y ++ [q]]).flatten.Perm _
    refine List.perm_iff_count.mpr (fun a => ?_)
    simp only [List.flatten_append, List.flatten_cons, List.flatten_nil, List.count_append, List.count_cons, List.count_nil]
    omega
  have cirs1 : cirs A1 = cirs A := by
    rw [hAe]
    show cirs (P ++ ((Z ++ X) ++ [p]) :: Po ++ [Y ++ [q]]) = _
    rw [cirs_app2, cirs_app2, cirs_app2, cirs_ne (by simp), cirs_ne (by simp), cirs_ne (by simp)]
    show cirs P + cirs Po + 0 = _
    omega
  have hpA : p ∈ A.flatten := List.mem_flatten.mpr ⟨_, hLA, hpL⟩
  have hqA : q ∈ A.flatten := List.mem_flatten.mpr ⟨_, hLA, hqL⟩
  have dis : ∀ r, r ∈ (Z ++ X) ++ [p] → r ∈ Y ++ [q] → False := fun r h1 h2 => (List.nodup_append.mp nR).2.2 r h1 r h2 rfl
  have key1 : isoV A1 sg f (T.1, T.2.1, np_exchange T.2.2.1 (gl f p) (gl f q), T.2.2.2) := by
    refine iso_exch h hpA hqA hpq perm1 cirs1 (fun L hL r hr => ?_)
    have hL : L ∈ P ++ Po ∨ L = (Z ++ X) ++ [p] ∨ L = Y ++ [q] := by
      have hL : L ∈ P ++ ((Z ++ X) ++ [p]) :: Po ++ [Y ++ [q]] := hL
      rcases List.mem_append.mp hL with h9 | h9
      · rcases List.mem_append.mp h9 with h8 | h8
        · exact Or.inl (List.mem_append_left _ h8)
        · rcases List.mem_cons.mp h8 with h7 | h7
          · exact Or.inr (Or.inl h7)
          · exact Or.inl (List.mem_append_right _ h7)
      · exact Or.inr (Or.inr (List.mem_singleton.mp h9))
    rcases hL with hL | rfl | rfl
    · obtain ⟨n1, n2⟩ := otherN L hL r hr
      exact ⟨fun e => absurd e n1, fun e => absurd e n2, fun _ _ => ⟨L, otherL L hL, hr, rfl⟩⟩
    · have hs := sc_spl1 nR hr
      have hrR := (memR r).mp (List.mem_append_left _ hr)
      refine ⟨fun e => ⟨_, hLA, hqL, ?_⟩, fun e => absurd (List.mem_append_right _ (by rw [e]; exact List.mem_singleton.mpr rfl)) (fun h9 => dis r hr h9), fun e1 _ => ⟨_, hLA, hrR, ?_⟩⟩
      · rw [hs, if_pos e, scR q hqL]
      · rw [hs, if_neg e1, scR r hrR]
    · have hs := sc_spl2 nR hr
      have hrR := (memR r).mp (List.mem_append_right _ hr)
      refine ⟨fun e => absurd (List.mem_append_right _ (by rw [e]; exact List.mem_singleton.mpr rfl)) (fun h9 => dis r h9 hr), fun e => ⟨_, hLA, hpL, ?_⟩, fun _ e2 => ⟨_, hLA, hrR, ?_⟩⟩
      · rw [hs, if_pos e, scR p hpL]
      · rw [hs, if_neg e2, scR r hrR]
  have hp1 : p.1 = x ∧ q = (x, 1 - p.2) ∧ p.2 < 2 := by
    rcases hx with ⟨rfl, rfl⟩ | ⟨rfl, rfl⟩
    · exact ⟨rfl, rfl, by show 0 < 2; omega⟩
    · exact ⟨rfl, rfl, by show 1 < 2; omega⟩
  obtain ⟨f', k1, kf⟩ := iso_sm0b key1 hv hp1.1 hp1.2.1 hp1.2.2 (perm1.mem_iff.mpr hpA)
  have hq1 : q.1 = x := by rw [hp1.2.1]
  have notx : ∀ r, r ∈ X ++ p :: (Y ++ q :: Z) → r ≠ p → r ≠ q → r.1 ≠ x := fun r hr h1 h2 => nd_of hF hLA hx hr h1 h2
  have fo1 : ∀ L, L ∈ P ++ Po → L.filter (fun r => decide (r.1 ≠ x)) = L := fun L hL => fil_k (fun r hr => nd_of hF (otherL L hL) hx hr (otherN L hL r hr).1 (otherN L hL r hr).2)
  have inZX : ∀ r, r ∈ Z ++ X → r.1 ≠ x := fun r hr => notx r ((memR r).mp (List.mem_append_left _ (List.mem_append_left _ hr))) (fun e => by
    have nn := (List.nodup_append.mp nR).1
    exact (List.nodup_append.mp nn).2.2 r hr p (List.mem_singleton.mpr rfl) e) (fun e => dis r (List.mem_append_left _ hr) (by rw [e]; exact List.mem_append_right _ (List.mem_singleton.mpr rfl)))
  have inY : ∀ r, r ∈ Y → r.1 ≠ x := fun r hr => notx r ((memR r).mp (List.mem_append_right _ (List.mem_append_left _ hr))) (fun e => dis r (by rw [e]; exact List.mem_append_right _ (List.mem_singleton.mpr rfl)) (List.mem_append_left _ hr)) (fun e => by
    have nn := (List.nodup_append.mp nR).2.1
    exact (List.nodup_append.mp nn).2.2 r hr q (List.mem_singleton.mpr rfl) e)
  have f1 : ((Z ++ X) ++ [p]).filter (fun r => decide (r.1 ≠ x)) = Z ++ X := by
    rw [List.filter_append, fil_k inZX, List.filter_cons_of_neg (by rw [hp1.1]; simp), List.filter_nil, List.append_nil]
  have f2 : (Y ++ [q]).filter (fun r => decide (r.1 ≠ x)) = Y := by
    rw [List.filter_append, fil_k inY, List.filter_cons_of_neg (by rw [hq1]; simp), List.filter_nil, List.append_nil]
  have fP : P.map (List.filter (fun r => decide (r.1 ≠ x))) = P := by
    conv => rhs; rw [← List.map_id P]
    exact List.map_congr_left (fun L hL => fo1 L (List.mem_append_left _ hL))
  have fPo : Po.map (List.filter (fun r => decide (r.1 ≠ x))) = Po := by
    conv => rhs; rw [← List.map_id Po]
    exact List.map_congr_left (fun L hL => fo1 L (List.mem_append_right _ hL))
  have eA1 : A1.map (List.filter (fun r => decide (r.1 ≠ x))) = P ++ (Z ++ X) :: Po ++ [Y] := by
    show (P ++ ((Z ++ X) ++ [p]) :: Po ++ [Y ++ [q]]).map _ = _
    rw [List.map_append, List.map_append, List.map_cons, List.map_cons, List.map_nil, f1, f2, fP, fPo]
  rw [eA1] at k1
  refine ⟨f', isoV_lists k1 ?_ ?_ (fun L hL r hr => ?_), kf⟩
  · refine List.perm_iff_count.mpr (fun a => ?_)
    simp only [List.flatten_append, List.flatten_cons, List.flatten_nil, List.count_append, List.count_nil]
    omega
  · rw [cirs_app2, cirs_app2, cirs_app2, cirs_app2, cirs_cons (X ++ Z), cirs_cons (Z ++ X)]
    have : (X ++ Z = []) ↔ (Z ++ X = []) := by
      rw [List.append_eq_nil_iff, List.append_eq_nil_iff]
      exact And.comm
    simp only [this]
  · rcases List.mem_append.mp hL with h9 | h9
    · rcases List.mem_append.mp h9 with h8 | h8
      · exact ⟨L, List.mem_append_left _ (List.mem_append_left _ h8), hr, rfl⟩
      · rcases List.mem_cons.mp h8 with h7 | h7
        · have nZX : (Z ++ X).Nodup := by
            have nn := (List.nodup_append.mp nR).1
            exact (List.nodup_append.mp nn).1
          have hrZ : r ∈ Z ++ X := by
            rw [h7] at hr
            rcases List.mem_append.mp hr with h6 | h6
            · exact List.mem_append_right _ h6
            · exact List.mem_append_left _ h6
          refine ⟨Z ++ X, List.mem_append_left _ (List.mem_append_right _ List.mem_cons_self), hrZ, ?_⟩
          rw [h7]
          exact sc_rot nZX hrZ
        · exact ⟨L, List.mem_append_left _ (List.mem_append_right _ (List.mem_cons_of_mem _ h7)), hr, rfl⟩
    · exact ⟨L, List.mem_append_right _ h9, hr, rfl⟩
end ISMb
section ISNb
variable {A : rn_L} {sg : Nat → Bool} {f : Nat → Nat} {T : ow_NT} {P Mi Po : rn_L} {X X' W W' : List vT} {p q : vT}
theorem iso_sm2b {x : Nat} (hAe : A = P ++ (X ++ p :: X') :: (Mi ++ (W ++ q :: W') :: Po)) (h : isoV A sg f T) (hx : p = (x, 0) ∧ q = (x, 1) ∨ p = (x, 1) ∧ q = (x, 0)) : ∃ f', isoV (P ++ (((X ++ W') ++ W) ++ X') :: (Mi ++ Po)) sg f' (ntSm T (f x)) ∧ ∀ y, f' y = if f y = T.1 - 1 then f x else f y := by
  have hF := h.1.1
  have hv := isoV_vn h
  have hLA : X ++ p :: X' ∈ A := by rw [hAe]; exact List.mem_append_right _ List.mem_cons_self
  have hMA : W ++ q :: W' ∈ A := by rw [hAe]; exact List.mem_append_right _ (List.mem_cons_of_mem _ (List.mem_append_right _ List.mem_cons_self))
  have nL := L_nd hF.1 hLA
  have nM := L_nd hF.1 hMA
  have hpL : p ∈ X ++ p :: X' := List.mem_append_right _ List.mem_cons_self
  have hqM : q ∈ W ++ q :: W' := List.mem_append_right _ List.mem_cons_self
  have hpq : p ≠ q := by
    rcases hx with ⟨rfl, rfl⟩ | ⟨rfl, rfl⟩
    · exact fun e => absurd (Prod.mk.inj e).2 (by decide)
    · exact fun e => absurd (Prod.mk.inj e).2 (by decide)
  have eU : X ++ p :: X' = (X ++ [p]) ++ X' := by simp
  have eU2 : X' ++ (X ++ [p]) = (X' ++ X) ++ [p] := by simp
  have eW : W ++ q :: W' = (W ++ [q]) ++ W' := by simp
  have eW2 : W' ++ (W ++ [q]) = (W' ++ W) ++ [q] := by simp
  have memU : ∀ r, r ∈ (X' ++ X) ++ [p] ↔ r ∈ X ++ p :: X' := fun r => by
    simp only [List.mem_append, List.mem_cons, List.mem_singleton]
    grind
  have memW : ∀ r, r ∈ (W' ++ W) ++ [q] ↔ r ∈ W ++ q :: W' := fun r => by
    simp only [List.mem_append, List.mem_cons, List.mem_singleton]
    grind
  have scU : ∀ r, r ∈ X ++ p :: X' → sc ((X' ++ X) ++ [p]) r = sc (X ++ p :: X') r := fun r hr => by
    have hn2 : ((X ++ [p]) ++ X').Nodup := by rw [← eU]; exact nL
    have := sc_rot (p := r) hn2 (by rw [← eU]; exact hr)
    rw [eU2, ← eU] at this
    exact this
  have scW : ∀ r, r ∈ W ++ q :: W' → sc ((W' ++ W) ++ [q]) r = sc (W ++ q :: W') r := fun r hr => by
    have hn2 : ((W ++ [q]) ++ W').Nodup := by rw [← eW]; exact nM
    have := sc_rot (p := r) hn2 (by rw [← eW]; exact hr)
    rw [eW2, ← eW] at this
    exact this
  have nA := hF.1
  rw [hAe] at nA
  have cnt : ∀ r, A.flatten.count r = P.flatten.count r + ((X' ++ X) ++ [p]).count r + Mi.flatten.count r + ((W' ++ W) ++ [q]).count r + Po.flatten.count r := fun r => by
    rw [hAe]
    simp only [List.flatten_append, List.flatten_cons, List.count_append, List.count_cons, List.count_nil]
    omega
  have one : ∀ r, A.flatten.count r ≤ 1 := fun r => List.nodup_iff_count.mp hF.1 r
  have nR : (((X' ++ X) ++ [p]) ++ ((W' ++ W) ++ [q])).Nodup := by
    refine List.nodup_iff_count.mpr (fun r => ?_)
    have h1 := cnt r
    have h2 := one r
    rw [List.count_append]
    omega
  have dis : ∀ r, r ∈ (X' ++ X) ++ [p] → r ∈ (W' ++ W) ++ [q] → False := fun r h1 h2 => (List.nodup_append.mp nR).2.2 r h1 r h2 rfl
  have otherL : ∀ L, L ∈ P ++ (Mi ++ Po) → L ∈ A := fun L hL => by
    rw [hAe]
    rcases List.mem_append.mp hL with h9 | h9
    · exact List.mem_append_left _ h9
    · rcases List.mem_append.mp h9 with h8 | h8
      · exact List.mem_append_right _ (List.mem_cons_of_mem _ (List.mem_append_left _ h8))
      · exact List.mem_append_right _ (List.mem_cons_of_mem _ (List.mem_append_right _ (List.mem_cons_of_mem _ h8)))
  have otherN : ∀ L, L ∈ P ++ (Mi ++ Po) → ∀ r, r ∈ L → r ≠ p ∧ r ≠ q := fun L hL r hr => by
    have h1 := cnt r
    have h2 := one r
    have h3 : 0 < (P ++ (Mi ++ Po)).flatten.count r := List.count_pos_iff.mpr (List.mem_flatten.mpr ⟨L, hL, hr⟩)
    rw [List.flatten_append, List.flatten_append, List.count_append, List.count_append] at h3
    refine ⟨fun e => ?_, fun e => ?_⟩
    · have h4 : 0 < ((X' ++ X) ++ [p]).count r := List.count_pos_iff.mpr (by rw [e]; exact List.mem_append_right _ (List.mem_singleton.mpr rfl))
      omega
    · have h4 : 0 < ((W' ++ W) ++ [q]).count r := List.count_pos_iff.mpr (by rw [e]; exact List.mem_append_right _ (List.mem_singleton.mpr rfl))
      omega
  let A1 : rn_L := P ++ (((X' ++ X) ++ [p]) ++ ((W' ++ W) ++ [q])) :: (Mi ++ Po)
  have perm1 : A1.flatten.Perm A.flatten := by
    refine List.perm_iff_count.mpr (fun a => ?_)
    rw [cnt]
    show (P ++ (((X' ++ X) ++ [p]) ++ ((W' ++ W) ++ [q])) :: (Mi ++ Po)).flatten.count a = _
    simp only [List.flatten_append, List.flatten_cons, List.count_append]
    omega
  have cirs1 : cirs A1 = cirs A := by
    rw [hAe]
    show cirs (P ++ (((X' ++ X) ++ [p]) ++ ((W' ++ W) ++ [q])) :: (Mi ++ Po)) = _
    rw [cirs_app2, cirs_app2, cirs_ne (by simp), cirs_ne (by simp), cirs_app2, cirs_app2, cirs_ne (by simp)]
  have hpA : p ∈ A.flatten := List.mem_flatten.mpr ⟨_, hLA, hpL⟩
  have hqA : q ∈ A.flatten := List.mem_flatten.mpr ⟨_, hMA, hqM⟩
  have key1 : isoV A1 sg f (T.1, T.2.1, np_exchange T.2.2.1 (gl f p) (gl f q), T.2.2.2) := by
    refine iso_exch h hpA hqA hpq perm1 cirs1 (fun L hL r hr => ?_)
    have hL : L ∈ P ++ (Mi ++ Po) ∨ L = ((X' ++ X) ++ [p]) ++ ((W' ++ W) ++ [q]) := by
      have hL : L ∈ P ++ (((X' ++ X) ++ [p]) ++ ((W' ++ W) ++ [q])) :: (Mi ++ Po) := hL
      rcases List.mem_append.mp hL with h9 | h9
      · exact Or.inl (List.mem_append_left _ h9)
      · rcases List.mem_cons.mp h9 with h8 | h8
        · exact Or.inr h8
        · exact Or.inl (List.mem_append_right _ h8)
    rcases hL with hL | rfl
    · obtain ⟨n1, n2⟩ := otherN L hL r hr
      exact ⟨fun e => absurd e n1, fun e => absurd e n2, fun _ _ => ⟨L, otherL L hL, hr, rfl⟩⟩
    · rcases List.mem_append.mp hr with hr1 | hr1
      · have hs := sc_spl1 nR hr1
        have hrU := (memU r).mp hr1
        refine ⟨fun e => ⟨_, hMA, hqM, ?_⟩, fun e => absurd (List.mem_append_right _ (by rw [e]; exact List.mem_singleton.mpr rfl)) (fun h9 => dis r hr1 h9), fun e1 _ => ⟨_, hLA, hrU, ?_⟩⟩
        · have hs2 := sc_spl2 (p := q) nR (List.mem_append_right _ (List.mem_singleton.mpr rfl))
          rw [if_pos rfl, scW q hqM] at hs2
          rw [e, hs2]
        · rw [if_neg e1, scU r hrU] at hs
          exact hs.symm
      · have hs := sc_spl2 nR hr1
        have hrW := (memW r).mp hr1
        refine ⟨fun e => absurd (List.mem_append_right _ (by rw [e]; exact List.mem_singleton.mpr rfl)) (fun h9 => dis r h9 hr1), fun e => ⟨_, hLA, hpL, ?_⟩, fun _ e2 => ⟨_, hMA, hrW, ?_⟩⟩
        · have hs2 := sc_spl1 (p := p) nR (List.mem_append_right _ (List.mem_singleton.mpr rfl))
          rw [if_pos rfl, scU p hpL] at hs2
          rw [e, hs2]
        · rw [if_neg e2, scW r hrW] at hs
          exact hs.symm
  have hp1 : p.1 = x ∧ q = (x, 1 - p.2) ∧ p.2 < 2 := by
    rcases hx with ⟨rfl, rfl⟩ | ⟨rfl, rfl⟩
    · exact ⟨rfl, rfl, by show 0 < 2; omega⟩
    · exact ⟨rfl, rfl, by show 1 < 2; omega⟩
  obtain ⟨f', k1, kf⟩ := iso_sm0b key1 hv hp1.1 hp1.2.1 hp1.2.2 (perm1.mem_iff.mpr hpA)
  have hq1 : q.1 = x := by rw [hp1.2.1]
  have fo1 : ∀ L, L ∈ P ++ (Mi ++ Po) → L.filter (fun r => decide (r.1 ≠ x)) = L := fun L hL => fil_k (fun r hr => nd_of hF (otherL L hL) hx hr (otherN L hL r hr).1 (otherN L hL r hr).2)
  have inU : ∀ r, r ∈ X' ++ X → r.1 ≠ x := fun r hr => nd_of hF hLA hx ((memU r).mp (List.mem_append_left _ hr)) (fun e => by
    have nn := (List.nodup_append.mp nR).1
    exact (List.nodup_append.mp nn).2.2 r hr p (List.mem_singleton.mpr rfl) e) (fun e => dis r (List.mem_append_left _ hr) (by rw [e]; exact List.mem_append_right _ (List.mem_singleton.mpr rfl)))
  have inW : ∀ r, r ∈ W' ++ W → r.1 ≠ x := fun r hr => nd_of hF hMA hx ((memW r).mp (List.mem_append_left _ hr)) (fun e => dis r (by rw [e]; exact List.mem_append_right _ (List.mem_singleton.mpr rfl)) (List.mem_append_left _ hr)) (fun e => by
    have nn := (List.nodup_append.mp nR).2.1
    exact (List.nodup_append.mp nn).2.2 r hr q (List.mem_singleton.mpr rfl) e)
  have f1 : (((X' ++ X) ++ [p]) ++ ((W' ++ W) ++ [q])).filter (fun r => decide (r.1 ≠ x)) = (X' ++ X) ++ (W' ++ W) := by
    rw [List.filter_append, List.filter_append (l₁ := X' ++ X), List.filter_append (l₁ := W' ++ W), fil_k inU, fil_k inW, List.filter_cons_of_neg (by rw [hp1.1]; simp), List.filter_cons_of_neg (by rw [hq1]; simp), List.filter_nil, List.append_nil, List.append_nil]
  have fP : P.map (List.filter (fun r => decide (r.1 ≠ x))) = P := by
    conv => rhs; rw [← List.map_id P]
    exact List.map_congr_left (fun L hL => fo1 L (List.mem_append_left _ hL))
  have fPo : (Mi ++ Po).map (List.filter (fun r => decide (r.1 ≠ x))) = Mi ++ Po := by
    conv => rhs; rw [← List.map_id (Mi ++ Po)]
    exact List.map_congr_left (fun L hL => fo1 L (List.mem_append_right _ hL))
  have eA1 : A1.map (List.filter (fun r => decide (r.1 ≠ x))) = P ++ ((X' ++ X) ++ (W' ++ W)) :: (Mi ++ Po) := by
    show (P ++ (((X' ++ X) ++ [p]) ++ ((W' ++ W) ++ [q])) :: (Mi ++ Po)).map _ = _
    rw [List.map_append, List.map_cons, f1, fP, fPo]
  rw [eA1] at k1
  have eZ : (X' ++ X) ++ (W' ++ W) = X' ++ ((X ++ W') ++ W) := by simp
  rw [eZ] at k1
  refine ⟨f', isoV_lists k1 ?_ ?_ (fun L hL r hr => ?_), kf⟩
  · refine List.perm_iff_count.mpr (fun a => ?_)
    simp only [List.flatten_append, List.flatten_cons, List.count_append]
    omega
  · rw [cirs_app2, cirs_app2, cirs_cons (((X ++ W') ++ W) ++ X'), cirs_cons (X' ++ ((X ++ W') ++ W))]
    have : (((X ++ W') ++ W) ++ X' = []) ↔ (X' ++ ((X ++ W') ++ W) = []) := by
      rw [List.append_eq_nil_iff (p := (X ++ W') ++ W), List.append_eq_nil_iff (p := X')]
      exact And.comm
    simp only [this]
  · rcases List.mem_append.mp hL with h9 | h9
    · exact ⟨L, List.mem_append_left _ h9, hr, rfl⟩
    · rcases List.mem_cons.mp h9 with h7 | h7
      · have nZX : (X' ++ ((X ++ W') ++ W)).Nodup := by
          rw [← eZ]
          have := nR.filter (fun r => decide (r.1 ≠ x))
          rw [f1] at this
          exact this
        have hrZ : r ∈ X' ++ ((X ++ W') ++ W) := by
          rw [h7] at hr
          rcases List.mem_append.mp hr with h6 | h6
          · exact List.mem_append_right _ h6
          · exact List.mem_append_left _ h6
        refine ⟨_, List.mem_append_right _ List.mem_cons_self, hrZ, ?_⟩
        rw [h7]
        exact sc_rot nZX hrZ
      · exact ⟨L, List.mem_append_right _ (List.mem_cons_of_mem _ h7), hr, rfl⟩
theorem iso_smb {v w : Nat} (h : isoV A sg f T) (hvw : v < w) (hw : w < A.flatten.length) (hx : vAt A v = (crs A v, 0) ∧ vAt A w = (crs A v, 1) ∨ vAt A v = (crs A v, 1) ∧ vAt A w = (crs A v, 0)) : ∃ f', isoV (smV A v w) sg f' (ntSm T (f (crs A v))) ∧ ∀ y, f' y = if f y = T.1 - 1 then f (crs A v) else f y := by
  obtain ⟨c1, c2, c3⟩ := rn_c_in A v (by omega)
  obtain ⟨j1, j2, j3⟩ := rn_c_in A w hw
  unfold smV
  generalize rn_c A v = c at c1 c2 c3
  generalize rn_c A w = J at j1 j2 j3
  have eA : A = ((cps A 0 c).map (List.map (vAt A))) ++ ((seg (rn_b A c) (rn_b A (c + 1))).map (vAt A)) :: ((cps A (c + 1) A.length).map (List.map (vAt A))) := by
    conv => lhs; rw [← cps_all (A := A)]
    rw [cps_app (Nat.zero_le c) (show c ≤ A.length by omega), cps_cons c1, List.map_append, List.map_cons]
  have eL : seg (rn_b A c) (rn_b A (c + 1)) = seg (rn_b A c) v ++ v :: seg (v + 1) (rn_b A (c + 1)) := by
    rw [seg_app c2 (Nat.le_of_lt c3), seg_cons c3]
  unfold smC
  by_cases hone : w < rn_b A (c + 1)
  · rw [if_pos hone]
    have eL2 : seg (v + 1) (rn_b A (c + 1)) = seg (v + 1) w ++ w :: seg (w + 1) (rn_b A (c + 1)) := by
      rw [seg_app (show v + 1 ≤ w by omega) (Nat.le_of_lt hone), seg_cons hone]
    rw [eL, eL2, List.map_append, List.map_cons, List.map_append, List.map_cons] at eA
    obtain ⟨f', k, kf⟩ := iso_sm1b eA h hx
    refine ⟨f', ?_, kf⟩
    rw [List.map_append, List.map_append, List.map_append, List.map_cons, List.map_cons, List.map_nil, List.map_append]
    rw [show ∀ (a : rn_L) (b : List vT) (d e : rn_L), a ++ [b] ++ d ++ e = a ++ b :: d ++ e from fun a b d e => by simp]
    exact k
  · rw [if_neg hone]
    have hcJ : c < J := by
      rcases Nat.lt_or_ge c J with h9 | h9
      · exact h9
      · have := rn_b_mono2 (A := A) (show J + 1 ≤ c + 1 by omega)
        omega
    have eP : cps A (c + 1) A.length = cps A (c + 1) J ++ seg (rn_b A J) (rn_b A (J + 1)) :: cps A (J + 1) A.length := by
      rw [cps_app (show c + 1 ≤ J by omega) (show J ≤ A.length by omega), cps_cons j1]
    have eM : seg (rn_b A J) (rn_b A (J + 1)) = seg (rn_b A J) w ++ w :: seg (w + 1) (rn_b A (J + 1)) := by
      rw [seg_app j2 (Nat.le_of_lt j3), seg_cons j3]
    rw [eL, eP, eM, List.map_append, List.map_cons, List.map_append, List.map_cons, List.map_append, List.map_cons] at eA
    obtain ⟨f', k, kf⟩ := iso_sm2b eA h hx
    refine ⟨f', ?_, kf⟩
    rw [List.map_append, List.map_append, List.map_append, List.map_cons, List.map_nil, List.map_append, List.map_append, List.map_append]
    rw [show ∀ (a : rn_L) (b : List vT) (d e : rn_L), a ++ [b] ++ d ++ e = a ++ b :: (d ++ e) from fun a b d e => by simp]
    exact k
end ISNb
end
section
/-! 99zzzzzzzzzzzzzm.xcw4 -/
/-! conway: what the class's unfold stands on -/
def cwC (z : ow_MS) (n : Nat → Int) : Prop := ∀ t, t < 13 → z.2.1 24003 t = iI (n t)
theorem cwC_fr {P : Nat → Prop} {z z1 : ow_MS} {n : Nat → Int} (hf : fr P z z1) (hP : ¬ P 24003) (h : cwC z n) : cwC z1 n := fun t ht => by
  rw [(hf 24003 hP).2.1]
  exact h t ht
theorem cwC_cg {z : ow_MS} {n n' : Nat → Int} (h : cwC z n) (e : ∀ t, t < 13 → n t = n' t) : cwC z n' := fun t ht => by
  rw [← e t ht]
  exact h t ht
theorem gbit0 {g v : Nat} (hg : g < 2 ^ 24) (hv : v < 24) : ((nI g >>> (nI v &&& 31)) &&& 1 = 0) ↔ ¬ o_gn g v := by
  rw [gbit hg hv]
  unfold o_gn
  have h9 : g / 2 ^ v % 2 = 0 ∨ g / 2 ^ v % 2 = 1 := by omega
  rcases h9 with e | e <;> rw [e] <;> decide
theorem gor9 {g v : Nat} (hg : g < 2 ^ 24) (hv : v < 24) : nI g ||| ((1 : Int32) <<< (nI v &&& 31)) = nI (g ||| 2 ^ v) ∧ g ||| 2 ^ v < 2 ^ 24 := by
  have h2 : 2 ^ v < 2 ^ 24 := Nat.pow_lt_pow_right (by omega) hv
  refine ⟨?_, Nat.or_lt_two_pow hg h2⟩
  rw [ow_shlb hv, ow_or (by omega) (by omega)]
theorem gn_z9 (k : Nat) : ¬ o_gn 0 k := by
  unfold o_gn
  rw [Nat.zero_div]
  decide
theorem uf_par : ∀ v : Fin 24, (nI v.val &&& 1) = 1 ↔ v.val % 2 = 1 := by decide +kernel
section XCB
variable {vl : Nat → Nat} {y : ow_MS}
theorem xc_addC {q z : Nat} {φ : Int} {xp : Int32} {n : Nat → Int} (hq : q < 100) (hz : z ≤ 12) (hn : cwC y n) : Te (fun K => ce_X8_addCircles vl K 24000 (nI q) (iI φ) xp (nI z) y) (fun y1 => cwC y1 (fun t => n t + φ * (if q = 1 ∧ t = z then 1 else 0))) := by
  let Q : ow_MS → Prop := fun y1 => cwC y1 (fun t => n t + φ * (if q = 1 ∧ t = z then 1 else 0))
  have c2 : ∀ (d j : Nat) (y1 : ow_MS), j + d = q → Q y1 → Tt (fun K t => c_X8_addCircles vl K t 2 (nI q) (iI φ) xp (nI z) (nI q - 1) (nI j) 0 24000 0 0 0 0 y1) Q := by
    intro d
    induction d with
    | zero =>
      intro j y1 hj hf
      have e : nI q - 1 < nI j := by
        rw [show j = q by omega]
        rcases Nat.eq_zero_or_pos q with h0 | h0
        · rw [h0]
          decide
        · rw [show nI q - 1 = nI (q - 1) from pk_sub (b := 1) h0]
          exact nI_lt (by omega) (by omega)
      refine u_X8_addCircles_2 ?_; unfold cm_X8_addCircles_2
      exact w_ifT e (w_some hf)
    | succ d ih =>
      intro j y1 hj hf
      have e5 : nI q - 1 = nI (q - 1) := pk_sub (b := 1) (by omega)
      have c4 : ∀ (x7 : Int32) (y2 : ow_MS), Q y2 → Tt (fun K t => c_X8_addCircles vl K t 4 (nI q) (iI φ) xp (nI z) (nI q - 1) (nI j) x7 24000 0 0 0 0 y2) Q := by
        intro x7 y2 hf2
        refine u_X8_addCircles_4 ?_; unfold cm_X8_addCircles_4
        rw [nI_1]
        exact ih (j + 1) y2 (by omega) hf2
      refine u_X8_addCircles_2 ?_; unfold cm_X8_addCircles_2
      rw [e5]
      rw [e5] at c4
      refine w_ltF (by omega) (by omega) (w_le (a := 24) (by omega) (by omega) (fun _ => w_some hf) (fun h24 => w_cs1 tc_twoIndex ?_))
      rintro v y2 ⟨h2, e2⟩
      dsimp only at h2 e2
      rw [e2]
      refine w_if (fun _ => c4 _ _ hf) (fun hv => ?_)
      rcases h2 with h2 | ⟨k, hk, rfl⟩
      · exact absurd h2 hv
      · have c3 : ∀ (t0 t1 t2 : Int32), Tt (fun K t => c_X8_addCircles vl K t 3 (nI q) (iI φ) xp (nI z) (nI (q - 1)) (nI j) (nI k) 24000 t0 t1 t2 (nI k) y1) Q := by
          intro t0 t1 t2
          refine u_X8_addCircles_3 ?_; unfold cm_X8_addCircles_3
          exact w_ctI ch_24004 rfl hk (c4 _ _ (cwC_fr (P := fun g => g = 24004) (fr_I rfl) (by decide) hf))
        exact w_crI ch_24004 rfl hk rfl (w_crX rfl (show q - 1 < 24 by omega) (w_crI (ch_choose (show q - 1 < 24 by omega)) rfl (show j < 24 by omega) rfl (w_if (fun _ => c3 _ _ _) (fun _ => c3 _ _ _))))
  have c1 : ∀ (y1 : ow_MS), Q y1 → Tt (fun K t => c_X8_addCircles vl K t 1 (nI q) (iI φ) xp (nI z) (nI q - 1) 0 0 24000 0 0 0 0 y1) Q := by
    intro y1 hf
    refine u_X8_addCircles_1 ?_; unfold cm_X8_addCircles_1
    exact c2 q 0 y1 (by omega) hf
  have n0 : q ≠ 1 → Q y := fun h t ht => by
    show y.2.1 24003 t = iI (n t + φ * (if q = 1 ∧ t = z then 1 else 0))
    rw [if_neg (fun h9 => h h9.1), Int.mul_zero, Int.add_zero]
    exact hn t ht
  refine e_X8_addCircles ?_
  refine u_X8_addCircles_0 ?_; unfold cm_X8_addCircles_0
  rw [show uw_len (cX vl) y (24000 + 3) = 13 from rfl]
  refine w_if (fun h0 => ?_) (fun h0 => c1 y (n0 (fun e => h0 (by rw [e]; rfl))))
  have hq1 : q = 1 := by
    rcases Nat.lt_trichotomy q 1 with h9 | h9 | h9
    · rw [show q = 0 by omega] at h0
      exact absurd h0 (by decide)
    · exact h9
    · rw [show nI q - 1 = nI (q - 1) from pk_sub (b := 1) (by omega)] at h0
      have := nI_inj9 (a := q - 1) (b := 0) (by omega) (by omega) h0
      omega
  refine w_leF (a := 13) (by omega) (by omega) (w_crI ch_24003 rfl (show z < 13 by omega) (hn z (by omega)) (w_ctI ch_24003 rfl (show z < 13 by omega) (c1 _ (fun t ht => ?_))))
  show (usI y (24000 + 3) z (iI (n z) + iI φ)).2.1 24003 t = iI (n t + φ * (if q = 1 ∧ t = z then 1 else 0))
  by_cases e : t = z
  · rw [e, if_pos ⟨hq1, rfl⟩, Int.mul_one, ← iI_add]
    exact po_usI_at
  · rw [if_neg (fun h => e h.2), Int.mul_zero, Int.add_zero]
    exact rd_ne e (hn t ht)
end XCB
/-- a net that shows a list whose first visit is its visit 0 -/
def uL (A : rn_L) (sg : Nat → Bool) (f : Nat → Nat) (R : ow_NT) : Prop := isoV A sg f R ∧ pm1 R ∧ (0 < A.flatten.length → 0 < rn_b A 1 ∧ lbv A f 0 = 0)
section XCC
variable {A : rn_L} {sg : Nat → Bool} {f : Nat → Nat} {R Q : ow_NT} {x a b v : Nat}
theorem uL_N (h : uL A sg f R) : isoN A sg f R := isoS_iff.mp h.1.1
theorem uL_0 (h : uL A sg f R) (hl : 0 < A.flatten.length) : f (crs A 0) = 0 ∧ uns A 0 = 0 := by
  have := (h.2.2 hl).2
  unfold lbv at this
  omega
theorem uL_sg (h : uL A sg f R) (hv : v < A.flatten.length) : R.2.2.2 (f (crs A v)) = iI (if sg (crs A v) then -1 else 1) := by
  have hN := uL_N h
  have h1 := hN.2.2.2.1 v hv
  have h2 := hN.2.2.2.2.2.2.1 v hv
  rcases h.2.1 _ h1 with e | e
  · rw [e] at h2 ⊢
    cases hs : sg (crs A v) with
    | false => rfl
    | true => exact absurd (h2.mpr hs) (by decide)
  · rw [e] at h2 ⊢
    rw [h2.mp (by decide)]
    rfl
theorem sm_b1 (hab : a < b) (hb : b < A.flatten.length) (ha : 0 < a) (h1 : 0 < rn_b A 1) : 0 < rn_b (smV A a b) 1 := by
  obtain ⟨c1, c2, c3⟩ := rn_c_in A a (by omega)
  have one : ∀ (Lx : List vT) (Y : rn_L), rn_b (Lx :: Y) 1 = Lx.length := fun Lx Y => by
    show ([Lx].flatten).length = Lx.length
    rw [List.flatten_cons, List.flatten_nil, List.append_nil]
  rcases Nat.eq_zero_or_pos (rn_c A a) with e | e
  · have hb0 : rn_b A 0 = 0 := rfl
    unfold smV smC
    rw [e, cps_0, hb0]
    by_cases hone : b < rn_b A (0 + 1)
    · rw [if_pos hone]
      show 0 < rn_b (((seg 0 a ++ seg (b + 1) (rn_b A (0 + 1))).map (vAt A)) :: _) 1
      rw [one, List.length_map, List.length_append, seg_len]
      omega
    · rw [if_neg hone]
      show 0 < rn_b ((((seg 0 a ++ seg (b + 1) (rn_b A (rn_c A b + 1))) ++ seg (rn_b A (rn_c A b)) b) ++ seg (a + 1) (rn_b A (0 + 1))).map (vAt A) :: _) 1
      rw [one, List.length_map, List.length_append, List.length_append, List.length_append, seg_len]
      omega
  · have hd0 : ∀ Y : rn_L, ((cps A 0 (rn_c A a)).map (List.map (vAt A)) ++ Y).head? = A.head? := fun Y => by
      rw [cps_cons (show 0 < rn_c A a by omega), List.map_cons, List.cons_append, List.head?_cons, cmp_seg (show 0 < A.length by omega)]
      cases A with
      | nil => exact absurd c1 (by rw [List.length_nil]; omega)
      | cons a A => rfl
    have hh : (smV A a b).head? = A.head? := by
      unfold smV smC
      split
      · rw [List.map_append, List.map_append, List.map_append, List.append_assoc, List.append_assoc]
        exact hd0 _
      · rw [List.map_append, List.map_append, List.map_append, List.append_assoc, List.append_assoc]
        exact hd0 _
    rw [b1_eq hh]
    exact h1
/-- the net that the class smooths -/
theorem uL_sm (h : uL A sg f R) (hs : sm2 A x a b) (h0 : crs A 0 ≠ x) : ∃ f', uL (smV A a b) sg f' (nt_rm (ntS (nt_copy Q R) (np_exchange (nt_copy Q R).2.2.1 (2 * f x) (2 * f x + 1))) (f x)) := by
  obtain ⟨s1, s2, s3, s4⟩ := hs
  have hN := uL_N h
  have hF := hN.1
  have hl : 0 < A.flatten.length := by omega
  obtain ⟨b1, b0⟩ := h.2.2 hl
  obtain ⟨f0, u0⟩ := uL_0 h hl
  have ha : 0 < a := by
    rcases Nat.eq_zero_or_pos a with e | e
    · rw [e] at s3
      exact absurd s3 h0
    · exact e
  have hx : f x < R.1 := by
    rw [← s3]
    exact hN.2.2.2.1 a (by omega)
  have hx0 : f x ≠ 0 := fun e => by
    have := hN.2.2.2.2.1 0 a hl (by omega) (by rw [s3, f0, e])
    exact h0 (this.trans s3)
  rw [← s3] at s4
  obtain ⟨f', k1, k2⟩ := iso_smb (isoV_cpy (Q := Q) h.1) s1 s2 s4
  rw [s3] at k1 k2
  refine ⟨f', k1, pm1_rm (T := ntS (nt_copy Q R) (np_exchange (nt_copy Q R).2.2.1 (2 * f x) (2 * f x + 1))) (pm1_copy h.2.1) hx, fun _ => ⟨sm_b1 s1 s2 ha b1, ?_⟩⟩
  have e1 : vAt (smV A a b) 0 = vAt A 0 := sm_pre hF s1 s2 ha
  unfold lbv
  rw [show crs (smV A a b) 0 = crs A 0 by unfold crs; rw [e1], show uns (smV A a b) 0 = uns A 0 by unfold uns; rw [e1], u0, k2, f0]
  have : ¬ (0 = (nt_copy Q R).1 - 1) := fun e => by
    have e : 0 = R.1 - 1 := e
    omega
  rw [if_neg this]
/-- the net that the class changes -/
theorem uL_ch (h : uL A sg f R) (hv : v < A.flatten.length) (e : crs A v = x) (h0 : crs A 0 ≠ x) : uL (chA A x) (chS sg x) f (ntF R (f x)) := by
  have hN := uL_N h
  have hx : f x < R.1 := by
    rw [← e]
    exact hN.2.2.2.1 v hv
  have inj : ∀ p, p ∈ A.flatten → (f p.1 = f x ↔ p.1 = x) := fun p hp => by
    obtain ⟨u, u1, u2⟩ := mem_vAt hp
    have ep : crs A u = p.1 := by unfold crs; rw [u2]
    refine ⟨fun e9 => ?_, fun e9 => by rw [e9]⟩
    rw [← ep, ← e]
    exact hN.2.2.2.2.1 u v u1 hv (by rw [ep, e, e9])
  have k := iso_flip h.1 h.2.1 hx
  have eA : A.map (List.map (flp (fun y => decide (f y = f x)))) = chA A x := by
    unfold chA
    refine List.map_congr_left (fun L hL => List.map_congr_left (fun p hp => ?_))
    have := inj p (List.mem_flatten.mpr ⟨L, hL, hp⟩)
    unfold flp
    show (if decide (f p.1 = f x) = true then (p.1, 1 - p.2) else p) = if decide (p.1 = x) = true then (p.1, 1 - p.2) else p
    rw [show decide (f p.1 = f x) = decide (p.1 = x) from decide_eq_decide.mpr this]
  rw [eA] at k
  refine ⟨isoV_sg k (fun p hp => ?_), pm1_F h.2.1, fun hl => ?_⟩
  · unfold chA at hp
    rw [fl_map2] at hp
    obtain ⟨q, hq, e9⟩ := List.mem_map.mp hp
    have ep : p.1 = q.1 := by rw [← e9, flp_1]
    have := inj q hq
    unfold chS
    rw [ep]
    by_cases e8 : q.1 = x
    · rw [if_pos e8, if_pos (this.mpr e8)]
    · rw [if_neg e8, if_neg (fun h9 => e8 (this.mp h9))]
  · rw [ch_len] at hl
    obtain ⟨b1, b0⟩ := h.2.2 hl
    refine ⟨by rw [b1_ch]; exact b1, ?_⟩
    unfold lbv
    rw [ch_crs hl, ch_uns hl, if_neg h0]
    exact b0
theorem sm2_bd (h : uL A sg f R) (hb : bdF A v) : sm2 A (crs A v) v (mtf A v) := by
  have hN := uL_N h
  obtain ⟨b1, b2, b3⟩ := bd_lt hN.1 hb
  have h2 := (hN.1.2 _ (vAt_mem hb.1)).2.1
  have hu : uns A v = 1 := by
    have h3 := hb.2.2.1
    unfold uns at h3 ⊢
    omega
  obtain ⟨m1, m2, m3, m4⟩ := lbv_mt hN hb.1
  have e1 : uns A (mtf A v) = 0 := by
    unfold lbv mt at m3
    rw [m2, hu, if_neg (by omega)] at m3
    omega
  refine ⟨b1, b2, rfl, Or.inr ⟨Prod.ext rfl hu, Prod.ext b3 e1⟩⟩
/-- along the first component -/
theorem uL_nx (h : uL A sg f R) (hv : v < rn_b A 1) : R.2.2.1.1 (lbv A f v) = if v + 1 < rn_b A 1 then lbv A f (v + 1) else 0 := by
  have hN := uL_N h
  have hle := rn_b_le A 1
  have hl : 0 < A.flatten.length := by omega
  have hc : rn_c A v = 0 := rn_c_of A 0 v (Nat.zero_le _) hv
  rw [hN.2.2.2.2.2.1 v (by omega)]
  unfold rn_nx
  rw [hc]
  show lbv A f (if v + 1 < rn_b A 1 then v + 1 else 0) = _
  by_cases e : v + 1 < rn_b A 1
  · rw [if_pos e, if_pos e]
  · rw [if_neg e, if_neg e]
    exact (h.2.2 hl).2
theorem cirs_1 (h2 : 2 ≤ A.length) (hl : A.flatten.length ≤ rn_b A 1) : 1 ≤ cirs A := by
  cases A with
  | nil => exact absurd h2 (by decide)
  | cons p A => cases A with
    | nil => exact absurd h2 (by rw [List.length_cons, List.length_nil]; omega)
    | cons q A =>
      have e : rn_b (p :: q :: A) 1 = p.length := by
        show ([p].flatten).length = p.length
        rw [List.flatten_cons, List.flatten_nil, List.append_nil]
      rw [e, List.flatten_cons, List.flatten_cons, List.length_append, List.length_append] at hl
      have hq : q = [] := List.eq_nil_of_length_eq_zero (by omega)
      rw [cirs_cons, cirs_cons, hq, if_pos rfl]
      omega
theorem cirs_0 (h1 : A.length = 1) (hb : 0 < rn_b A 1) : cirs A = 0 := by
  cases A with
  | nil => exact absurd h1 (by decide)
  | cons p A =>
    have hA : A = [] := List.eq_nil_of_length_eq_zero (by rw [List.length_cons] at h1; omega)
    subst hA
    have e : rn_b [p] 1 = p.length := by
      show ([p].flatten).length = p.length
      rw [List.flatten_cons, List.flatten_nil, List.append_nil]
    rw [e] at hb
    rw [cirs_cons, if_neg (List.length_pos_iff.mp hb)]
    rfl
theorem cirs_n (h : A.flatten = []) : cirs A = A.length := by
  induction A with
  | nil => rfl
  | cons p A ih =>
    rw [List.flatten_cons] at h
    obtain ⟨h1, h2⟩ := List.append_eq_nil_iff.mp h
    rw [cirs_cons, if_pos h1, ih h2, List.length_cons]
    omega
end XCC
end
section
/-! 99zzzzzzzzzzzzzn.xcw5 -/
/-! conway: the class's unfold, exactly -/
theorem shf_d {L t : Nat} {V : Nat → Int} (h : ∀ k, V k = if k = 0 then 1 else 0) : shf L V t = if t = L then 1 else 0 := by
  unfold shf
  by_cases e : L ≤ t
  · rw [if_pos e, h]
    by_cases e2 : t = L
    · rw [if_pos e2, if_pos (by omega)]
    · rw [if_neg e2, if_neg (by omega)]
  · rw [if_neg e, if_neg (by omega)]
theorem shf_0 {L t : Nat} {V : Nat → Int} (h : ∀ k, V k = 0) : shf L V t = 0 := by
  unfold shf
  by_cases e : L ≤ t
  · rw [if_pos e, h]
  · rw [if_neg e]
theorem shf_st {L t : Nat} {φ s : Int} {V V1 V2 : Nat → Int} (h : ∀ k, V k = s * (if k = 0 then 0 else V1 (k - 1)) + V2 k) (m : Int) : m + (φ * s) * shf (L + 1) V1 t + φ * shf L V2 t = m + φ * shf L V t := by
  unfold shf
  by_cases e2 : L ≤ t
  · rw [if_pos e2, if_pos e2, h]
    by_cases e3 : L + 1 ≤ t
    · rw [if_pos e3, if_neg (show ¬ t - L = 0 by omega), show t - (L + 1) = t - L - 1 by omega, Int.mul_add, Int.mul_assoc, Int.add_assoc]
    · rw [if_neg e3, if_pos (show t - L = 0 by omega), Int.mul_zero, Int.mul_zero, Int.add_zero, Int.zero_add]
  · rw [if_neg e2, if_neg e2, if_neg (by omega), Int.mul_zero, Int.mul_zero, Int.add_zero, Int.add_zero]
section XCD
variable {vl : Nat → Nat} {y : ow_MS} {xp : Int32}
/-- the state of the net at hand: what it shows, and what is still to come -/
def ufJ (L c : Nat) (f : Nat → Nat) (φ : Int) (W : Nat → Int) (n1 b1 : Nat) (z : ow_MS) (R : ow_NT) (B : rn_L) (sb : Nat → Bool) : Prop := lvS z ∧ cAt z (lv L) R ∧ nvL L R ∧ R.1 = c ∧ uL B sb f R ∧ B.length = n1 ∧ rn_b B 1 = b1 ∧ ∃ m, cwC z m ∧ ∀ t, t < 13 → m t + φ * shf L (skV 13 B sb) t = W t
/-- the same, where the crossing x is still to be changed -/
def ufK (L c : Nat) (f : Nat → Nat) (φ : Int) (W : Nat → Int) (n1 b1 x : Nat) (z : ow_MS) (R : ow_NT) (B : rn_L) (sb : Nat → Bool) : Prop := lvS z ∧ cAt z (lv L) R ∧ nvL L R ∧ R.1 = c ∧ uL B sb f R ∧ B.length = n1 ∧ rn_b B 1 = b1 ∧ ∃ m, cwC z m ∧ ∀ t, t < 13 → m t + φ * shf L (skV 13 (chA B x) (chS sb x)) t = W t
def ufS (vl : Nat → Nat) (L dd : Nat) : Prop := ∀ (R : ow_NT) (B : rn_L) (sb : Nat → Bool) (g : Nat → Nat) (ψ : Int) (m : Nat → Int) (xp : Int32) (z : ow_MS), lvS z → cAt z (lv (L + 1)) R → nvL (L + 1) R → R.1 + (L + 1) ≤ 12 → uL B sb g R → cwC z m → Te (fun K => cd0_X8_unfold vl K dd 24000 (nI (L + 1)) (iI ψ) xp (nI (L + 1)) z) (fun z1 => (lvS z1 ∧ fr (unP (L + 1)) z z1) ∧ cwC z1 (fun t => m t + ψ * shf (L + 1) (skV 13 B sb) t))
/-- a bad visit: the crossing smoothed a level below, then changed here -/
theorem uf_bad {O : Type} {Qo : O → Prop} {L dd c v x a b n1 b1 : Nat} {f : Nat → Nat} {φ : Int} {W : Nat → Int} {z : ow_MS} {R : ow_NT} {B : rn_L} {sb : Nat → Bool} {pw : Int32} {E : ow_MS → Nat → Nat → Option O} (hL : L < 12) (hself : ufS vl L dd) (hJ : ufJ L c f φ W n1 b1 z R B sb) (hc : c + L ≤ 12) (hv : v < B.flatten.length) (ex : crs B v = x) (hs : sm2 B x a b) (h0 : crs B 0 ≠ x) (hV : ∀ k, skV 13 B sb k = (if sb x then -1 else 1) * (if k = 0 then 0 else skV 13 (smV B a b) sb (k - 1)) + skV 13 (chA B x) (chS sb x) k) (H : ∀ z3, ufK L c f φ W n1 b1 x z3 R B sb → Tt (E z3) Qo) : Tt (fun K k => crX 13 (nI (L + 1)) fun j6 => cs0 (ce_X7_copy vl K (24000 + 2000 + 1000 * j6) (lv L) z) fun z7 => crX 13 (nI (L + 1)) fun j8 => cs0 (ce_X7_smoothCrossing vl K (24000 + 2000 + 1000 * j8) (nI (f x)) z7) fun z9 => cs0 (cd0_X8_unfold vl K dd 24000 (nI (L + 1)) (iI φ * iI (if sb x then -1 else 1)) pw (nI (L + 1)) z9) fun z10 => E z10 K k) Qo := by
  obtain ⟨j1, j2, j3, j4, j5, j6, j7, m, j8, j9⟩ := hJ
  have hN := uL_N j5
  have hx : f x < R.1 := by
    rw [← ex]
    exact hN.2.2.2.1 v hv
  have hh := lv_nH (show L ≤ 12 by omega)
  have hh1 := lv_nH (show L + 1 ≤ 12 by omega)
  obtain ⟨T', t1, t2⟩ := j1 (L + 1) (by omega)
  refine w_crX rfl (show L + 1 < 13 by omega) (w_cs0 (tc_copy hh1 hh (by unfold nDj lv; omega) t1 j2 j3.2.1) ?_)
  rintro z1 ⟨g1, g2⟩
  refine w_crX rfl (show L + 1 < 13 by omega) (w_cs0 (tc_smoothCrossing hh1 g1 (nt_copy_b24 t2 j3.2.2.1) (show f x < R.1 by omega) j3.2.1) ?_)
  rintro z2 ⟨g3, g4⟩
  have n2 := nvL_sm (Q := T') (x := f x) j3 t2 hx
  have f2 : fr (cP (lv (L + 1))) z z2 := fr_tr g2 g4
  have l2 : lvS z2 := lvS_fr (L := L + 1) f2 (fun g hg => Or.inl (cP_in hg)) ⟨_, g3, n2.2.2.1⟩ j1
  obtain ⟨f', hu'⟩ := uL_sm (Q := T') j5 hs h0
  have c2 : cwC z2 m := cwC_fr f2 (fun h9 => by unfold cP lv at h9; omega) j8
  rw [iI_mul]
  refine w_cs0 (hself _ _ _ _ _ m _ z2 l2 g3 n2 (show R.1 - 1 + (L + 1) ≤ 12 by omega) hu' c2) ?_
  rintro z3 ⟨⟨l3, f3⟩, c3⟩
  have f23 : fr (unP (L + 1)) z z3 := fr_tr (fr_mono (fun g hg => by unfold cP lv at hg; unfold unP; omega) f2) f3
  have hR3 : cAt z3 (lv L) R := cAt_fr f23 (fun g hg h9 => by unfold cP lv at hg; unfold unP at h9; omega) j2
  refine H z3 ⟨l3, hR3, j3, j4, j5, j6, j7, _, c3, fun t ht => ?_⟩
  rw [← j9 t ht]
  exact shf_st hV (m t)
theorem uf_flip {O : Type} {Qo : O → Prop} {L c v x n1 b1 : Nat} {f : Nat → Nat} {φ : Int} {W : Nat → Int} {z : ow_MS} {R : ow_NT} {B : rn_L} {sb : Nat → Bool} {E : ow_MS → Nat → Nat → Option O} (hL : L ≤ 12) (hJ : ufK L c f φ W n1 b1 x z R B sb) (hv : v < B.flatten.length) (ex : crs B v = x) (h0 : crs B 0 ≠ x) (H : ∀ z3, ufJ L c f φ W n1 b1 z3 (ntF R (f x)) (chA B x) (chS sb x) → Tt (E z3) Qo) : Tt (fun K k => cs0 (ce_X7_flipCrossing vl K (lv L) (nI (f x)) z) fun z11 => E z11 K k) Qo := by
  obtain ⟨j1, j2, j3, j4, j5, j6, j7, m, j8, j9⟩ := hJ
  have hx : f x < R.1 := by
    rw [← ex]
    exact (uL_N j5).2.2.2.1 v hv
  refine w_cs0 (tc_flipCrossing (lv_nH hL) j2 j3.2.2.1 (show f x < 12 by have := j3.2.1; omega)) ?_
  rintro z4 ⟨g5, g6⟩
  have n4 := nvL_flip (x := f x) (G := su R.2.2.2 (f x) (- R.2.2.2 (f x))) j3 hx
  exact H z4 ⟨lvS_fr (L := L) g6 (fun g hg => Or.inl (cP_in hg)) ⟨_, g5, n4.2.2.1⟩ j1, g5, n4, j4, uL_ch j5 hv ex h0, by unfold chA; rw [List.length_map]; exact j6, by rw [b1_ch]; exact j7, m, cwC_fr g6 (fun h9 => by unfold cP lv at h9; omega) j8, j9⟩
end XCD
end
section
/-! 99zzzzzzzzzzzzzo.xcw6 -/
/-! conway: the class's unfold, exactly: the rings -/
section XCE
variable {vl : Nat → Nat} {y : ow_MS} {xp : Int32}
/-- the first ring is done: it is met over everywhere first, met and gone -/
def ufP (f : Nat → Nat) (b1 Mm Gm : Nat) (B : rn_L) : Prop := Mm < 2 ^ 24 ∧ Gm < 2 ^ 24 ∧ gPre B b1 ∧ (∀ u, u < b1 → o_gn Mm (f (crs B u))) ∧ ∀ u, u < b1 → o_gn Gm (lbv B f u)
/-- behind the first ring -/
theorem uf_rest {L dd c n1 b1 : Nat} {f : Nat → Nat} {φ : Int} {W : Nat → Int} (hL : L ≤ 12) (hself : L < 12 → ufS vl L dd) (hc : c + L ≤ 12) (hc0 : 0 < c) : ∀ (d s r : Nat) (pw : Int32) (Mm Gm : Nat) (z : ow_MS) (R : ow_NT) (B : rn_L) (sb : Nat → Bool), s + d = 2 * c → 1 ≤ r → r ≤ s → ufJ L c f φ W n1 b1 z R B sb → ufP f b1 Mm Gm B → (n1 = 1 → r = 1) → (r = 1 → (∀ v, v < s → o_gn Gm v) ∧ ∀ v, v < 2 * c → o_gn Gm v → ∃ u, u < b1 ∧ lbv B f u = v) → Tt (fun K t => c_X8_unfold vl K (cd0_X8_unfold vl K dd) t 1 (nI L) (iI φ) xp (nI L) (nI (2 * c)) pw (nI Mm) (nI Gm) (nI r) (nI s) 0 0 0 0 24000 (lv L) z) (fun z1 => cwC z1 W) := by
  have hh := lv_nH hL
  let Q : ow_MS → Prop := fun z1 => cwC z1 W
  intro d
  induction d with
  | zero =>
    intro s r pw Mm Gm z R B sb hs hr hrs hJ hP hn hg
    obtain ⟨j1, j2, j3, j4, j5, j6, j7, m, j8, j9⟩ := hJ
    obtain ⟨p1, p2, p3, p4, p5⟩ := hP
    have hN := uL_N j5
    have hci : cirs B = R.2.1 := hN.2.2.2.2.2.2.2
    have hlen := hN.2.1
    have hb := (j5.2.2 (by omega)).1
    have hc3 := j3.2.2.2
    refine u_X8_unfold_1 ?_; unfold cm_X8_unfold_1
    refine w_leT (by omega) (by omega) (w_rdF j2.2.1 ?_)
    rw [nI_add]
    refine w_cs0 (xc_addC (show r + R.2.1 < 100 by omega) hL j8) ?_
    rintro z1 h1
    refine w_some (cwC_cg h1 (fun t ht => ?_))
    rw [← j9 t ht]
    by_cases e1 : n1 = 1
    · have hr1 := hn e1
      have h0 := cirs_0 (j6.trans e1) hb
      rw [shf_d (V := skV 13 B sb) (fun k => sk_one (F := 12) (j6.trans e1) (by rw [j7]; exact p3))]
      by_cases e2 : t = L
      · rw [if_pos ⟨by omega, e2⟩, if_pos e2]
      · rw [if_neg (fun h => e2 h.2), if_neg e2]
    · have hb9 : B.length ≠ 0 := fun e => by
        rw [List.eq_nil_of_length_eq_zero e] at hb
        exact absurd hb (by decide)
      have n2 : 2 ≤ B.length := by omega
      rw [shf_0 (V := skV 13 B sb) (fun k => sk_zero 13 B sb k hN.1 ⟨by rw [j7]; exact p3, n2⟩)]
      have hne : ¬ (r + R.2.1 = 1) := fun e => by
        obtain ⟨g1, g2⟩ := hg (by omega)
        have hle : B.flatten.length ≤ rn_b B 1 := by
          rcases Nat.lt_or_ge (rn_b B 1) B.flatten.length with h9 | h9
          · have hlt : lbv B f (rn_b B 1) < 2 * c := by rw [← j4]; exact lbv_lt hN h9
            obtain ⟨u, u1, u2⟩ := g2 _ hlt (g1 _ (by omega))
            have := lbv_inj hN (v := u) (w := rn_b B 1) (by omega) h9 u2
            omega
          · exact h9
        have := cirs_1 n2 hle
        omega
      rw [if_neg (fun h => hne h.1)]
  | succ d ih =>
    intro s r pw Mm Gm z R B sb hs hr hrs hJ hP hn hg
    have c5 : ∀ (r' : Nat) (pw : Int32) (Mm Gm : Nat) (z : ow_MS) (R : ow_NT) (B : rn_L) (sb : Nat → Bool), 1 ≤ r' → r' ≤ s + 1 → ufJ L c f φ W n1 b1 z R B sb → ufP f b1 Mm Gm B → (n1 = 1 → r' = 1) → (r' = 1 → (∀ v, v < s + 1 → o_gn Gm v) ∧ ∀ v, v < 2 * c → o_gn Gm v → ∃ u, u < b1 ∧ lbv B f u = v) → Tt (fun K t => c_X8_unfold vl K (cd0_X8_unfold vl K dd) t 5 (nI L) (iI φ) xp (nI L) (nI (2 * c)) pw (nI Mm) (nI Gm) (nI r') (nI s) 0 0 0 0 24000 (lv L) z) Q := by
      intro r' pw Mm Gm z R B sb h1 h2 h3 h4 h5 h6
      refine u_X8_unfold_5 ?_; unfold cm_X8_unfold_5
      rw [nI_1]
      exact ih (s + 1) r' pw Mm Gm z R B sb (by omega) h1 h2 h3 h4 h5 h6
    have c2 : ∀ (e i v : Nat) (pw : Int32) (Mm Gm : Nat) (z : ow_MS) (R : ow_NT) (B : rn_L) (sb : Nat → Bool), i + e = 2 * c → v < 2 * c → 2 ≤ n1 → ufJ L c f φ W n1 b1 z R B sb → ufP f b1 Mm Gm B → Tt (fun K t => c_X8_unfold vl K (cd0_X8_unfold vl K dd) t 2 (nI L) (iI φ) xp (nI L) (nI (2 * c)) pw (nI Mm) (nI Gm) (nI (r + 1)) (nI s) (nI v) (nI i) 0 0 24000 (lv L) z) Q := by
      intro e
      induction e with
      | zero =>
        intro i v pw Mm Gm z R B sb hi hv hn2 hJ hP
        refine u_X8_unfold_2 ?_; unfold cm_X8_unfold_2
        exact w_leT (by omega) (by omega) (c5 (r + 1) pw Mm Gm z R B sb (by omega) (by omega) hJ hP (by omega) (by omega))
      | succ e ihe =>
        intro i v pw Mm Gm z R B sb hi hv hn2 hJ hP
        obtain ⟨j1, j2, j3, j4, j5, j6, j7, m, j8, j9⟩ := id hJ
        obtain ⟨p1, p2, p3, p4, p5⟩ := id hP
        have hN := uL_N j5
        have hlen := hN.2.1
        obtain ⟨q1, q2⟩ := uf_bits ⟨v, by omega⟩
        have q3 := uf_par ⟨v, by omega⟩
        dsimp only at q1 q2 q3
        have c4 : ∀ (v' : Nat) (pw : Int32) (z : ow_MS) (R : ow_NT) (B : rn_L) (sb : Nat → Bool), v' < 2 * c → ufJ L c f φ W n1 b1 z R B sb → ufP f b1 Mm Gm B → Tt (fun K t => c_X8_unfold vl K (cd0_X8_unfold vl K dd) t 4 (nI L) (iI φ) xp (nI L) (nI (2 * c)) pw (nI Mm) (nI Gm) (nI (r + 1)) (nI s) (nI v') (nI i) (nI (v / 2)) 0 24000 (lv L) z) Q := by
          intro v' pw z R B sb hv' hJ hP
          obtain ⟨k1, k2, k3, k4, k5⟩ := hP
          have hn9 := (hJ.2.2.1.1 v' (by rw [hJ.2.2.2.1]; exact hv')).1
          rw [hJ.2.2.2.1] at hn9
          obtain ⟨o1, o2⟩ := gor9 k1 (show v / 2 < 24 by omega)
          obtain ⟨o3, o4⟩ := gor9 k2 (show v' < 24 by omega)
          refine u_X8_unfold_4 ?_; unfold cm_X8_unfold_4
          rw [nI_1, o1, o3]
          exact w_crI (nH_1 hh) rfl (show v' < 24 by omega) (hJ.2.1.2.2.1 v') (ihe (i + 1) _ pw _ _ z R B sb (by omega) hn9 hn2 hJ ⟨o2, o4, k3, fun u hu => (gn_or _ _ _).mpr (Or.inl (k4 u hu)), fun u hu => (gn_or _ _ _).mpr (Or.inl (k5 u hu))⟩)
        refine u_X8_unfold_2 ?_; unfold cm_X8_unfold_2
        rw [q1, show Int32.ofNat ((cX vl).2 (24000 + 2)).2.1 = nI 13 from rfl]
        refine w_leF (by omega) (by omega) (w_if (fun hg0 => w_if (fun hm0 => w_if (fun hodd => ?_) (fun _ => c4 v pw z R B sb hv hJ hP)) (fun _ => c4 v pw z R B sb hv hJ hP)) (fun _ => c5 (r + 1) pw Mm Gm z R B sb (by omega) (by omega) hJ hP (by omega) (by omega)))
        have hmet := (gbit0 p1 (show v / 2 < 24 by omega)).mp hm0
        obtain ⟨p, pl, pe⟩ := lbv_sur hN (k := v) (by omega)
        have hfx : f (crs B p) = v / 2 := by rw [← pe]; exact (lbv_hf hN pl).1.symm
        have far : ∀ u, u < b1 → crs B u ≠ crs B p := fun u hu e9 => hmet (by rw [← hfx, ← e9]; exact p4 u hu)
        have hb := (j5.2.2 (by omega)).1
        have hle9 := rn_b_le B 1
        have h00 : crs B 0 ≠ crs B p := far 0 (by omega)
        obtain ⟨a, b, hs2⟩ := sm2_ex hN.1 pl
        have hab : b1 ≤ a := by
          rcases Nat.lt_or_ge a b1 with h9 | h9
          · exact absurd hs2.2.2.1 (far a h9)
          · exact h9
        have hgd : gdC B := ⟨by rw [j7]; exact p3, by omega⟩
        have z0 : ∀ k, skV 13 B sb k = 0 := fun k => sk_zero 13 B sb k hN.1 hgd
        have z1 : ∀ k, skV 13 (smV B a b) sb k = 0 := fun k => sk_zero 13 _ sb k (sm_wk hN.1 hs2).1 (gd_sm hN.1 hgd hs2.1 hs2.2.1 (by omega))
        have hgd2 : gdC (chA B (crs B p)) := gd_ch hgd (fun u hu _ => far u (by omega))
        have z2 : ∀ k, skV 13 (chA B (crs B p)) (chS sb (crs B p)) k = 0 := fun k => sk_zero 13 _ _ k (ch_wk hN.1 _) hgd2
        have hV : ∀ k, skV 13 B sb k = (if sb (crs B p) then -1 else 1) * (if k = 0 then 0 else skV 13 (smV B a b) sb (k - 1)) + skV 13 (chA B (crs B p)) (chS sb (crs B p)) k := fun k => by
          rw [z0, z1, z2]
          split <;> split <;> omega
        refine w_crI (nH_3 hh) rfl (show v / 2 < 12 by omega) (x := iI (if sb (crs B p) then -1 else 1)) (by rw [← hfx]; exact (j2.2.2.2.2 _).trans (uL_sg j5 pl)) ?_
        rw [nI_1 L, ← hfx]
        refine w_leF (by omega) (by omega) (uf_bad (by omega) (hself (by omega)) hJ hc pl rfl hs2 h00 hV (fun z3 hK => ?_))
        refine u_X8_unfold_3 ?_; unfold cm_X8_unfold_3
        rw [q2]
        refine uf_flip hL hK pl rfl h00 (fun z4 hJ4 => ?_)
        have := c4 (mt v) (pw + 2 * iI (if sb (crs B p) then -1 else 1)) z4 _ _ _ (mt_lt hv) hJ4 ⟨p1, p2, by have := hgd2.1; rw [b1_ch, j7] at this; exact this, fun u hu => by rw [ch_crs (by omega)]; exact p4 u hu, fun u hu => by
          have e9 : lbv (chA B (crs B p)) f u = lbv B f u := by
            unfold lbv
            rw [ch_crs (by omega), ch_uns (by omega), if_neg (far u hu)]
          rw [e9]
          exact p5 u hu⟩
        rw [← hfx] at this
        exact this
    obtain ⟨p1, p2, p3, p4, p5⟩ := id hP
    obtain ⟨j1, j2, j3, j4, j5, j6, j7, m, j8, j9⟩ := id hJ
    refine u_X8_unfold_1 ?_; unfold cm_X8_unfold_1
    refine w_leF (by omega) (by omega) ?_
    by_cases hgn : o_gn Gm s
    · exact w_ifF (fun h9 => (gbit0 p2 (by omega)).mp h9 hgn) (c5 r pw Mm Gm z R B sb hr (by omega) hJ hP hn (fun h9 => ⟨fun v hv => by
        by_cases e : v = s
        · rw [e]
          exact hgn
        · exact (hg h9).1 v (by omega), (hg h9).2⟩))
    · have hN := uL_N j5
      have hlen := hN.2.1
      obtain ⟨p, pl, pe⟩ := lbv_sur hN (k := s) (by omega)
      have n2 : 2 ≤ n1 := by
        rcases Nat.lt_or_ge n1 2 with h9 | h9
        · exfalso
          have hb : rn_b B 1 = B.flatten.length := by
            have h8 := rn_b_le B 1
            have h7 := rn_b_mono2 (A := B) (show B.length ≤ 1 by omega)
            rw [rn_b_len] at h7
            omega
          exact hgn (by rw [← pe]; exact p5 p (by omega))
        · exact h9
      refine w_ifT ((gbit0 p2 (by omega)).mpr hgn) ?_
      rw [nI_1]
      exact c2 (2 * c) 0 s pw Mm Gm z R B sb (by omega) (by omega) n2 hJ hP
end XCE
end
section
/-! 99zzzzzzzzzzzzzp.xcw7 -/
/-! conway: the class's unfold, exactly: the first ring -/
section XCF
variable {vl : Nat → Nat} {y : ow_MS} {xp : Int32}
theorem uf_first {L dd c n1 b1 : Nat} {f : Nat → Nat} {φ : Int} {W : Nat → Int} (hL : L ≤ 12) (hself : L < 12 → ufS vl L dd) (hc : c + L ≤ 12) (hc0 : 0 < c) : ∀ (e i v : Nat) (pw : Int32) (Mm Gm : Nat) (z : ow_MS) (R : ow_NT) (B : rn_L) (sb : Nat → Bool), i + e = b1 → (i < b1 → v = lbv B f i) → (i = b1 → v = 0) → ufJ L c f φ W n1 b1 z R B sb → gPre B i → Mm < 2 ^ 24 → Gm < 2 ^ 24 → (∀ x, x < 12 → (o_gn Mm x ↔ ∃ u, u < i ∧ f (crs B u) = x)) → (∀ k, k < 24 → (o_gn Gm k ↔ ∃ u, u < i ∧ lbv B f u = k)) → Tt (fun K t => c_X8_unfold vl K (cd0_X8_unfold vl K dd) t 2 (nI L) (iI φ) xp (nI L) (nI (2 * c)) pw (nI Mm) (nI Gm) (nI 1) (nI 0) (nI v) (nI i) 0 0 24000 (lv L) z) (fun z1 => cwC z1 W) := by
  have hh := lv_nH hL
  let Q : ow_MS → Prop := fun z1 => cwC z1 W
  intro e
  induction e with
  | zero =>
    intro i v pw Mm Gm z R B sb hi hv1 hv2 hJ hg hM hG hme hgo
    obtain ⟨j1, j2, j3, j4, j5, j6, j7, m, j8, j9⟩ := id hJ
    have hN := uL_N j5
    have hlen := hN.2.1
    have hle := rn_b_le B 1
    obtain ⟨hb, hb0⟩ := j5.2.2 (by omega)
    have hib : i = b1 := by omega
    have ev := hv2 hib
    have ltx : ∀ u, u < b1 → f (crs B u) < 12 ∧ lbv B f u < 24 := fun u hu => by
      have h1 := hN.2.2.2.1 u (by omega)
      have h2 := lbv_lt hN (v := u) (by omega)
      omega
    have c5 : Tt (fun K t => c_X8_unfold vl K (cd0_X8_unfold vl K dd) t 5 (nI L) (iI φ) xp (nI L) (nI (2 * c)) pw (nI Mm) (nI Gm) (nI 1) (nI 0) 0 0 0 0 24000 (lv L) z) Q := by
      refine u_X8_unfold_5 ?_; unfold cm_X8_unfold_5
      rw [show nI 0 + 1 = nI 1 from nI_1 0]
      refine uf_rest hL hself hc hc0 (2 * c - 1) 1 1 pw Mm Gm z R B sb (by omega) (by omega) (by omega) hJ ⟨hM, hG, by rw [← hib]; exact hg, fun u hu => (hme _ (ltx u hu).1).mpr ⟨u, by omega, rfl⟩, fun u hu => (hgo _ (ltx u hu).2).mpr ⟨u, by omega, rfl⟩⟩ (fun _ => rfl) (fun _ => ⟨fun k hk => ?_, fun k hk h9 => ?_⟩)
      · rw [show k = 0 by omega]
        exact (hgo 0 (by omega)).mpr ⟨0, by omega, hb0⟩
      · obtain ⟨u, u1, u2⟩ := (hgo k (by omega)).mp h9
        exact ⟨u, by omega, u2⟩
    refine u_X8_unfold_2 ?_; unfold cm_X8_unfold_2
    rw [ev]
    exact w_le (by omega) (by omega) (fun _ => c5) (fun _ => w_ifF (fun h9 => (gbit0 hG (by omega)).mp h9 ((hgo 0 (by omega)).mpr ⟨0, by omega, hb0⟩)) c5)
  | succ e ihe =>
    intro i v pw Mm Gm z R B sb hi hv1 hv2 hJ hg hM hG hme hgo
    obtain ⟨j1, j2, j3, j4, j5, j6, j7, m, j8, j9⟩ := id hJ
    have hN := uL_N j5
    have hlen := hN.2.1
    have hle := rn_b_le B 1
    obtain ⟨hb, hb0⟩ := j5.2.2 (by omega)
    have hil : i < B.flatten.length := by omega
    have ev : v = lbv B f i := hv1 (by omega)
    have hvl : v < 2 * c := by rw [ev, ← j4]; exact lbv_lt hN hil
    obtain ⟨f1, f2⟩ := lbv_hf hN hil
    rw [← ev] at f1 f2
    obtain ⟨q1, q2⟩ := uf_bits ⟨v, by omega⟩
    have q3 := uf_par ⟨v, by omega⟩
    dsimp only at q1 q2 q3
    have c4 : ∀ (v' : Nat) (pw : Int32) (z : ow_MS) (R : ow_NT) (B' : rn_L) (sb : Nat → Bool), v' = lbv B' f i → ufJ L c f φ W n1 b1 z R B' sb → gPre B' (i + 1) → (∀ u, u < i → vAt B' u = vAt B u) → crs B' i = crs B i → Tt (fun K t => c_X8_unfold vl K (cd0_X8_unfold vl K dd) t 4 (nI L) (iI φ) xp (nI L) (nI (2 * c)) pw (nI Mm) (nI Gm) (nI 1) (nI 0) (nI v') (nI i) (nI (v / 2)) 0 24000 (lv L) z) Q := by
      intro v' pw z R B' sb ev' hJ' hg' hpre hci
      obtain ⟨k1, k2, k3, k4, k5, k6, k7, -⟩ := id hJ'
      have hN' := uL_N k5
      have hlen' := hN'.2.1
      have hle' := rn_b_le B' 1
      have hv' : v' < 2 * c := by rw [ev', ← k4]; exact lbv_lt hN' (by omega)
      obtain ⟨o1, o2⟩ := gor9 hM (show v / 2 < 24 by omega)
      obtain ⟨o3, o4⟩ := gor9 hG (show v' < 24 by omega)
      have hnx := uL_nx k5 (v := i) (by omega)
      rw [← ev', k7] at hnx
      have pc : ∀ u, u < i → crs B' u = crs B u := fun u hu => by unfold crs; rw [hpre u hu]
      have pl : ∀ u, u < i → lbv B' f u = lbv B f u := fun u hu => by unfold lbv crs uns; rw [hpre u hu]
      refine u_X8_unfold_4 ?_; unfold cm_X8_unfold_4
      rw [nI_1, o1, o3]
      refine w_crI (nH_1 hh) rfl (show v' < 24 by omega) (k2.2.2.1 v') (ihe (i + 1) _ pw _ _ z R B' sb (by omega) (fun h9 => by rw [hnx, if_pos h9]) (fun h9 => by rw [hnx, if_neg (by omega)]) hJ' hg' o2 o4 (fun x hx => ?_) (fun k hk => ?_))
      · rw [gn_or, hme x hx]
        constructor
        · rintro (⟨u, u1, u2⟩ | h9)
          · exact ⟨u, by omega, by rw [pc u u1]; exact u2⟩
          · exact ⟨i, by omega, by rw [hci, h9, f1]⟩
        · rintro ⟨u, u1, u2⟩
          by_cases eu : u = i
          · rw [eu, hci, ← f1] at u2
            exact Or.inr u2.symm
          · exact Or.inl ⟨u, by omega, by rw [← pc u (by omega)]; exact u2⟩
      · rw [gn_or, hgo k hk]
        constructor
        · rintro (⟨u, u1, u2⟩ | h9)
          · exact ⟨u, by omega, by rw [pl u u1]; exact u2⟩
          · exact ⟨i, by omega, by rw [h9, ev']⟩
        · rintro ⟨u, u1, u2⟩
          by_cases eu : u = i
          · rw [eu, ← ev'] at u2
            exact Or.inr u2.symm
          · exact Or.inl ⟨u, by omega, by rw [← pl u (by omega)]; exact u2⟩
    have hgone : ¬ o_gn Gm v := fun h9 => by
      obtain ⟨u, u1, u2⟩ := (hgo v (by omega)).mp h9
      have := lbv_inj hN (v := u) (w := i) (by omega) hil (u2.trans ev)
      omega
    have good : (¬ (∀ u, u < i → crs B u ≠ crs B i) ∨ uns B i = 0) → gPre B (i + 1) := fun h9 u hu hul hfu => by
      by_cases eu : u = i
      · subst eu
        rcases h9 with h9 | h9
        · exact absurd hfu h9
        · exact h9
      · exact hg u (by omega) hul hfu
    have noflip : (¬ (∀ u, u < i → crs B u ≠ crs B i) ∨ uns B i = 0) → Tt (fun K t => c_X8_unfold vl K (cd0_X8_unfold vl K dd) t 4 (nI L) (iI φ) xp (nI L) (nI (2 * c)) pw (nI Mm) (nI Gm) (nI 1) (nI 0) (nI v) (nI i) (nI (v / 2)) 0 24000 (lv L) z) Q := fun h9 => c4 v pw z R B sb ev hJ (good h9) (fun u _ => rfl) rfl
    refine u_X8_unfold_2 ?_; unfold cm_X8_unfold_2
    rw [q1, show Int32.ofNat ((cX vl).2 (24000 + 2)).2.1 = nI 13 from rfl]
    refine w_leF (by omega) (by omega) (w_ifT ((gbit0 hG (by omega)).mpr hgone) (w_if (fun hm0 => w_if (fun hodd => ?_) (fun hev => noflip (Or.inr ?_))) (fun hm0 => noflip (Or.inl (fun h9 => hm0 ?_)))))
    rotate_left
    · have h7 : ¬ v % 2 = 1 := fun h9 => hev (q3.mpr h9)
      have h2 := (hN.1.2 _ (vAt_mem hil)).2.1
      have h3 : uns B i < 2 := h2
      omega
    · refine (gbit0 hM (by omega)).mpr (fun h8 => ?_)
      obtain ⟨u, u1, u2⟩ := (hme (v / 2) (by omega)).mp h8
      exact h9 u u1 (hN.2.2.2.2.1 u i (by omega) hil (u2.trans f1))
    have hmet := (gbit0 hM (show v / 2 < 24 by omega)).mp hm0
    have hun : uns B i = 1 := by rw [← f2]; exact q3.mp hodd
    have hfst : ∀ u, u < i → crs B u ≠ crs B i := fun u hu e9 => hmet ((hme (v / 2) (by omega)).mpr ⟨u, hu, by rw [e9]; exact f1.symm⟩)
    have hbd : bdF B i := ⟨hil, hfst, by omega, fun u hu hfu => hg u hu (by omega) hfu⟩
    have hi0 : 0 < i := by
      rcases Nat.eq_zero_or_pos i with h9 | h9
      · have := (uL_0 j5 (by omega)).2
        rw [h9, this] at hun
        exact absurd hun (by decide)
      · exact h9
    have h00 : crs B 0 ≠ crs B i := hfst 0 hi0
    have hs2 := sm2_bd j5 hbd
    have hV := fun k => sk_st (sg := sb) (k := k) hN.1 (by omega) hbd
    refine w_crI (nH_3 hh) rfl (show v / 2 < 12 by omega) (x := iI (if sb (crs B i) then -1 else 1)) (by rw [f1]; exact (j2.2.2.2.2 _).trans (uL_sg j5 hil)) ?_
    rw [nI_1 L, f1]
    refine w_leF (by omega) (by omega) (uf_bad (by omega) (hself (by omega)) hJ hc hil rfl hs2 h00 hV (fun z3 hK => ?_))
    refine u_X8_unfold_3 ?_; unfold cm_X8_unfold_3
    rw [q2]
    refine uf_flip hL hK hil rfl h00 (fun z4 hJ4 => ?_)
    have hg2 : gPre (chA B (crs B i)) (i + 1) := fun u hu hul hfu => by
      rw [ch_len] at hul
      rw [ch_uns hul]
      by_cases eu : u = i
      · rw [eu, if_pos rfl, hun]
      · rw [if_neg (hfst u (by omega))]
        refine hg u (by omega) hul (fun t ht e9 => hfu t ht ?_)
        rw [ch_crs (by omega), ch_crs hul]
        exact e9
    have := c4 (mt v) (pw + 2 * iI (if sb (crs B i) then -1 else 1)) z4 _ _ _ (by
      unfold lbv
      rw [ch_crs hil, ch_uns hil, if_pos rfl, hun, ev]
      unfold lbv mt
      rw [hun, if_neg (by omega)]
      omega) hJ4 hg2 (fun u hu => by
      unfold chA
      rw [flp_vAt (by omega)]
      unfold flp
      have : ¬ (crs B u = crs B i) := hfst u hu
      exact if_neg (fun h9 => this (of_decide_eq_true h9))) (ch_crs hil)
    rw [f1] at this
    exact this
/-- one level -/
theorem xc_unfS {L dd : Nat} {T : ow_NT} {A : rn_L} {sg : Nat → Bool} {f : Nat → Nat} {φ : Int} {n : Nat → Int} (hL : L ≤ 12) (hself : L < 12 → ufS vl L dd) (h0 : lvS y) (hT : cAt y (lv L) T) (hv : nvL L T) (hc : T.1 + L ≤ 12) (hu : uL A sg f T) (hn : cwC y n) : Te (fun K => cd0_X8_unfold vl K (dd + 1) 24000 (nI L) (iI φ) xp (nI L) y) (fun z1 => cwC z1 (fun t => n t + φ * shf L (skV 13 A sg) t)) := by
  have hN := uL_N hu
  have hlen := hN.2.1
  obtain ⟨c, hcT⟩ : ∃ c, T.1 = c := ⟨_, rfl⟩
  refine w_cdU ?_
  refine u_X8_unfold_0 ?_; unfold cm_X8_unfold_0
  refine w_crX rfl (show L < 13 by omega) (w_rdF hT.1 ?_)
  rw [hcT, rn_mul2]
  rcases Nat.eq_zero_or_pos c with e0 | e0
  · have hci : cirs A = T.2.1 := hN.2.2.2.2.2.2.2
    have hnil : A.flatten = [] := List.eq_nil_of_length_eq_zero (by omega)
    have h6 := hv.2.2.2
    rw [e0]
    refine u_X8_unfold_1 ?_; unfold cm_X8_unfold_1
    refine w_leT (a := 0) (b := 0) (by omega) (by omega) (w_rdF hT.2.1 ?_)
    rw [show (0 : Int32) + nI T.2.1 = nI (0 + T.2.1) from nI_add 0 T.2.1]
    refine w_cs0 (xc_addC (show 0 + T.2.1 < 100 by omega) hL hn) ?_
    rintro z1 h1
    refine w_some (cwC_cg h1 (fun t ht => ?_))
    have hno : ∀ v, ¬ bdF A v := fun v h9 => by
      have := h9.1
      omega
    rw [cirs_n hnil] at hci
    unfold shf
    by_cases e1 : A.length = 1 ∧ t = L
    · rw [if_pos ⟨by omega, e1.2⟩, if_pos (by omega), sk_none (F := 12) hno, if_pos ⟨e1.1, by omega⟩]
    · rw [if_neg (fun h9 => e1 ⟨by omega, h9.2⟩)]
      by_cases e2 : L ≤ t
      · rw [if_pos e2, sk_none (F := 12) hno, if_neg (fun h9 => e1 ⟨h9.1, by omega⟩)]
      · rw [if_neg e2]
  · obtain ⟨b1, b0⟩ := hu.2.2 (by omega)
    refine u_X8_unfold_1 ?_; unfold cm_X8_unfold_1
    refine w_leF (a := 2 * c) (b := 0) (by omega) (by omega) (w_ifT (by decide) ?_)
    exact uf_first (n1 := A.length) (b1 := rn_b A 1) hL hself (by omega) e0 (rn_b A 1) 0 0 xp 0 0 y T A sg (by omega) (fun _ => b0.symm) (fun h9 => by omega) ⟨h0, hT, hv, hcT, hu, rfl, rfl, n, hn, fun t _ => rfl⟩ (fun v hv => absurd hv (Nat.not_lt_zero _)) (by decide) (by decide) (fun x _ => ⟨fun h9 => absurd h9 (gn_z9 x), fun ⟨u, u1, _⟩ => absurd u1 (Nat.not_lt_zero _)⟩) (fun k _ => ⟨fun h9 => absurd h9 (gn_z9 k), fun ⟨u, u1, _⟩ => absurd u1 (Nat.not_lt_zero _)⟩)
theorem xc_unfD : ∀ (d L : Nat), L + d = 12 → ∀ (R : ow_NT) (B : rn_L) (sb : Nat → Bool) (g : Nat → Nat) (ψ : Int) (m : Nat → Int) (xp : Int32) (z : ow_MS), lvS z → cAt z (lv L) R → nvL L R → R.1 + L ≤ 12 → uL B sb g R → cwC z m → Te (fun K => cd0_X8_unfold vl K (d + 3) 24000 (nI L) (iI ψ) xp (nI L) z) (fun z1 => (lvS z1 ∧ fr (unP L) z z1) ∧ cwC z1 (fun t => m t + ψ * shf L (skV 13 B sb) t)) := by
  intro d
  induction d with
  | zero =>
    intro L hL R B sb g ψ m xp z h0 hT hv hc hu hn
    exact te_and (tc_unfD 0 L hL R _ _ z h0 hT hv) (xc_unfS (dd := 2) (by omega) (fun h => absurd h (by omega)) h0 hT hv hc hu hn)
  | succ d ih =>
    intro L hL R B sb g ψ m xp z h0 hT hv hc hu hn
    exact te_and (tc_unfD (d + 1) L hL R _ _ z h0 hT hv) (xc_unfS (dd := d + 3) (by omega) (fun _ => ih (L + 1) (by omega)) h0 hT hv hc hu hn)
end XCF
end
section
/-! 99zzzzzzzzzzzzzq.xcw8 -/
/-! conway: both sides answer the same -/
theorem i64_i32 (v : Int) : (Int64.ofInt v).toInt32 = iI v := by
  apply Int32.toInt_inj.mp
  rw [Int64.toInt_toInt32, Int64.toInt_ofInt, Int32.toInt_ofInt]
  exact Int.bmod_bmod_of_dvd (by decide)
/-- the first visit of a list that is that of its own code -/
theorem nrm_base {A : rn_L} {sg : Nat → Bool} (h : nrm A sg) (hl : 0 < A.flatten.length) : 0 < rn_b A 1 ∧ vAt A 0 = (0, 0) := by
  obtain ⟨T, g, Ds, qs, n1, n2, n3, n4, n5⟩ := h
  have hN := isoS_iff.mp n3.1
  have hc := n1.2.1
  have hv := n1.1
  obtain ⟨i1, i2, i3, i4⟩ := parts_I hv hc
  have hT : 0 < T.1 := by have := hN.2.1; omega
  have hq : 0 < qs.length := by
    have := n4.2.2.1.length_eq
    rw [List.length_range] at this
    obtain ⟨r, r1, -⟩ := i2 0 (by omega)
    omega
  obtain ⟨q0, Q, rfl⟩ : ∃ q0 Q, qs = q0 :: Q := by
    cases qs with
    | nil => exact absurd hq (Nat.lt_irrefl _)
    | cons a b => exact ⟨a, b, rfl⟩
  have hq0 : q0 < (np_parts T.1 T.2.2.1.1).2 := List.mem_range.mp (n4.2.2.1.mem_iff.mp List.mem_cons_self)
  have hlt : q0 < Ds.length := by rw [n4.1]; exact hq0
  obtain ⟨e1, -⟩ := n4.2.1 q0 Ds[q0] (List.getElem?_eq_getElem hlt)
  obtain ⟨w, w1, w2⟩ := i3 q0 hq0
  obtain ⟨v, v1, v2, v3, v4⟩ := epC_le (n0 := ptL T.1 T.2.2.1 q0) (fun v hv1 ev => tf_len_pt T.2.2.2 hv hc hv1 ev) ⟨w, w1, w2⟩ e1
  obtain ⟨t1, t2⟩ := tf_T0 (G := T.2.2.2) (N := T.2.2.1.1) (v := v)
  have head : ∀ u, ∃ L, tfL (tf_code T.2.2.2 T.2.2.1.1 u) = cd_first T.2.2.2 u :: L := fun u => by
    obtain ⟨a1, a2⟩ := tf_T0 (G := T.2.2.2) (N := T.2.2.1.1) (v := u)
    unfold tfL
    obtain ⟨k, hk⟩ : ∃ k, (tf_code T.2.2.2 T.2.2.1.1 u).len = k + 1 := ⟨_, (Nat.succ_pred_eq_of_pos a2).symm⟩
    rw [hk, List.range_succ_eq_map, List.map_cons, a1]
    exact ⟨_, rfl⟩
  have ev : v % 2 = 0 := by
    rcases Nat.mod_two_eq_zero_or_one v with h9 | h9
    · exact h9
    · exfalso
      have hm : mt v = v - 1 := by
        unfold mt
        rw [if_neg (by omega)]
      have h8 := v4 (mt v) (mt_lt v1) ((i1 v v1).2.trans v2)
      obtain ⟨L1, l1⟩ := head v
      obtain ⟨L2, l2⟩ := head (mt v)
      rw [v3, l1, l2] at h8
      have hcd : cd_first T.2.2.2 v = cd_first T.2.2.2 (mt v) + 2 := by
        unfold cd_first
        rw [mt_h2, h9, hm, show (v - 1) % 2 = 0 by omega]
        omega
      have h8 : (if cd_first T.2.2.2 v = cd_first T.2.2.2 (mt v) then lexD L1 L2 else (cd_first T.2.2.2 v : Int) - cd_first T.2.2.2 (mt v)) ≤ 0 := h8
      rw [if_neg (by omega)] at h8
      omega
  have e2 : (cdR Ds (q0 :: Q)).flatten ++ List.replicate T.2.1 0 = ucd sg 0 [] A := congrArg Prod.snd n5
  have e3 : (Ds.getD q0 (0, [])).2 = tfL (tf_code T.2.2.2 T.2.2.1.1 v) := by
    rw [List.getD_eq_getElem?_getD, List.getElem?_eq_getElem hlt]
    exact v3
  obtain ⟨L1, l1⟩ := head v
  have e4 : ∃ Y, ucd sg 0 [] A = cd_first T.2.2.2 v :: Y := by
    rw [← e2]
    unfold cdR
    rw [List.map_cons, List.flatten_cons, e3, l1]
    exact ⟨_, rfl⟩
  obtain ⟨Y, e4⟩ := e4
  have hb := cd_first_lt T.2.2.2 v
  have hf : cd_first T.2.2.2 v ≤ 5 := by
    unfold cd_first
    rw [ev]
    split <;> omega
  cases A with
  | nil => exact absurd hl (by decide)
  | cons B R =>
    cases B with
    | nil =>
      have e4 : 0 :: ucd sg (nxb 0 ([] ++ [[]])) ([] ++ [[]]) R = cd_first T.2.2.2 v :: Y := e4
      have := (List.cons.inj e4).1
      omega
    | cons p B =>
      have e4 : clc sg 0 p :: (B.map (clc sg 0) ++ 0 :: ucd sg (nxb 0 ([] ++ [p :: B])) ([] ++ [p :: B]) R) = cd_first T.2.2.2 v :: Y := e4
      have e5 := (List.cons.inj e4).1
      unfold clc at e5
      have h1 : p.1 = 0 ∧ p.2 = 0 := by
        split at e5 <;> omega
      refine ⟨?_, ?_⟩
      · show 0 < ([p :: B].flatten).length
        rw [List.flatten_cons, List.flatten_nil, List.append_nil, List.length_cons]
        omega
      · exact (vAt_eq (show (List.flatten ((p :: B) :: R))[0]? = some p from rfl)).trans (Prod.ext h1.1 h1.2)
/-- what conway answers -/
def cwN9 (A : rn_L) (sg : Nat → Bool) (x v : Int32) : Prop := (∀ k, k < 40 → x = nI k → v = iI (skV 13 A sg k)) ∧ ((∀ k, k < 40 → x ≠ nI k) → v = 0)
theorem cwN_uni {A : rn_L} {sg : Nat → Bool} {x v w : Int32} (h1 : cwN9 A sg x v) (h2 : cwN9 A sg x w) : v = w := by
  by_cases h : ∃ k, k < 40 ∧ x = nI k
  · obtain ⟨k, k1, k2⟩ := h
    rw [h1.1 k k1 k2, h2.1 k k1 k2]
  · have hn : ∀ k, k < 40 → x ≠ nI k := fun k k1 k2 => h ⟨k, k1, k2⟩
    rw [h1.2 hn, h2.2 hn]
theorem sk_sg : ∀ (F : Nat) (A : rn_L) (sg sg' : Nat → Bool) (k : Nat), wkF A.flatten → (∀ p, p ∈ A.flatten → sg p.1 = sg' p.1) → skV F A sg k = skV F A sg' k
  | 0, _, _, _, _, _, _ => rfl
  | F + 1, A, sg, sg', k, hF, hs => by
    by_cases hx : ∃ v, bdF A v
    · obtain ⟨v, hv⟩ := hx
      obtain ⟨b1, b2, b3⟩ := bd_lt hF hv
      have ex : sg (crs A v) = sg' (crs A v) := hs _ (vAt_mem hv.1)
      obtain ⟨c1, c2, c3⟩ := smC_ok hF b1 b2
      obtain ⟨hg, ho⟩ : gPre A 0 ∧ ouT A 0 (crL A).length := ⟨fun v hv => absurd hv (Nat.not_lt_zero _), crL A, Nat.le_refl _, fun v hv => Or.inr (crL_m hF (u := uns A v) (vAt_mem hv))⟩
      obtain ⟨f1, h1, h2, h3, h4, -⟩ := sk_sm hF hg ho hv.1 b2 b1 b3 hv.2.1 hv.2.2.1 hv.2.2.2 c1 c2 c3
      have e1 : ∀ k, skV F (smV A v (mtf A v)) sg k = skV F (smV A v (mtf A v)) sg' k := fun k => sk_sg F _ sg sg' k h2 (fun p hp => hs p ((sm_perm b1 b2).mem_iff.mpr (List.mem_cons_of_mem _ (List.mem_cons_of_mem _ hp))))
      have e2 : skV F (chA A (crs A v)) (chS sg (crs A v)) k = skV F (chA A (crs A v)) (chS sg' (crs A v)) k := sk_sg F _ _ _ k (ch_wk hF _) (fun p hp => by
        unfold chA at hp
        rw [fl_map2] at hp
        obtain ⟨q, hq, e9⟩ := List.mem_map.mp hp
        have ep : p.1 = q.1 := by rw [← e9, flp_1]
        unfold chS
        rw [ep, hs q hq])
      rw [sk_some hv, sk_some hv, ex, e1, e2]
    · have hn : ∀ v, ¬ bdF A v := fun v hv => hx ⟨v, hv⟩
      rw [sk_none hn, sk_none hn]
/-- the reference's last numbers -/
def cwR (z : ow_MS) : Prop := ∀ T1, rc_At z 43 0 T1 → T1 = [] ∨ ∃ A sg c, okL A c ∧ T1 = tk sg A ∧ cwA z (skV 13 A sg)
theorem cwR_fr {P : Nat → Prop} {z z1 : ow_MS} (hf : fr P z z1) (h1 : ¬ P 42) (h2 : ¬ P 43) (h : cwR z) : cwR z1 := by
  intro T1 hT
  have hT' : rc_At z 43 0 T1 := by
    obtain ⟨a1, a2, a3, a4⟩ := hT
    rw [(hf 43 h2).2.1] at a3
    exact ⟨a1, a2, a3, fun k t hk => by rw [← (hf 43 h2).2.1]; exact a4 k t hk⟩
  rcases h T1 hT' with e | ⟨A, sg, c, q1, q2, q3⟩
  · exact Or.inl e
  · exact Or.inr ⟨A, sg, c, q1, q2, cwA_fr hf h1 q3⟩
section XCG
variable {X : (Nat → Nat → Int32) → Prop} {z : ow_MS} {St : plT}
theorem xq_conway {d x : Int32} (h : gI X z) (hR : relR z St) (hS : okS St) (hJ : cwR z) : Te (fun K => qe_X13_conway K d x z) (fun r => cwR r.2 ∧ (rFl X z 1 r ∧ (∀ e, e < 40 → d = nI e → St e = none) ∨ ∃ e A sg, e < 40 ∧ d = nI e ∧ St e = some (A, sg) ∧ r.2.1 1 = 0 ∧ ∃ sg9 c, tk sg9 A = tk sg A ∧ okL A c ∧ cwN9 A sg9 x r.1)) := by
  let Q : Int32 × ow_MS → Prop := fun r => cwR r.2 ∧ (rFl X z 1 r ∧ (∀ e, e < 40 → d = nI e → St e = none) ∨ ∃ e A sg, e < 40 ∧ d = nI e ∧ St e = some (A, sg) ∧ r.2.1 1 = 0 ∧ ∃ sg9 c, tk sg9 A = tk sg A ∧ okL A c ∧ cwN9 A sg9 x r.1)
  have h1 := gI_1 (c := 0) h
  have hR1 := relR_1 (c := 0) hR
  have f01 : fr rPs z (usF z 1 0) := fr_1
  refine e_X13_conway ?_
  refine u_X13_conway_0 ?_; unfold qm_X13_conway_0
  refine w_wrF (w_hasX hR1 (fun h0 => w_ifT rfl (w_mono (w_failX h1 fr_1) (fun r hr => ⟨cwR_fr hr.2.2 (by unfold rPs rSc; omega) (by unfold rPs rSc; omega) hJ, Or.inl ⟨hr, h0⟩⟩))) (fun e A sg he hx hs hv hne => w_ifF (by decide) ?_))
  subst hx
  have c4 : ∀ {x1 : Int32} {y : ow_MS} {sg9 : Nat → Bool} {c : Nat}, (∀ k, k < 40 → x ≠ nI k) → y.1 1 = 0 → cwR y → tk sg9 A = tk sg A → okL A c → Tt (fun K i => q_X13_conway K i 4 x1 x 0 y) Q := by
    intro x1 y sg9 c hx g2 g4 g5 g6
    refine u_X13_conway_4 ?_; unfold qm_X13_conway_4
    exact w_some ⟨g4, Or.inr ⟨e, A, sg, he, rfl, hs, g2, sg9, c, g5, g6, fun k k1 k2 => absurd k2 (hx k k1), fun _ => rfl⟩⟩
  have c3 : ∀ {x1 : Int32} {y : ow_MS} {sg9 : Nat → Bool} {c : Nat}, y.1 1 = 0 → cwR y → tk sg9 A = tk sg A → okL A c → cwA y (skV 13 A sg9) → Tt (fun K i => q_X13_conway K i 3 x1 x 0 y) Q := by
    intro x1 y sg9 c g2 g4 g5 g6 g7
    refine u_X13_conway_3 ?_; unfold qm_X13_conway_3
    refine w_if (fun h0 => c4 (fun k k1 k2 => ?_) g2 g4 g5 g6) (fun h0 => ?_)
    · rw [k2] at h0
      exact nI_pos (by omega) h0
    · obtain ⟨k, k31, rfl⟩ := nI_of h0
      refine w_lt (b := 40) k31 (by omega) (fun hk => ?_) (fun hk => c4 (fun k' k1 k2 => ?_) g2 g4 g5 g6)
      · refine w_rdJ ml42 rfl hk (g7 k hk) (w_some ⟨g4, Or.inr ⟨e, A, sg, he, rfl, hs, g2, sg9, c, g5, g6, fun k' k1 k2 => ?_, fun h9 => absurd rfl (h9 k hk)⟩⟩)
        rw [← nI_inj9 (a := k) (b := k') (by omega) (by omega) k2]
        exact i64_i32 _
      · have := nI_inj9 (a := k) (b := k') (by omega) (by omega) k2
        omega
  obtain ⟨⟨T1, k1⟩, kC⟩ := h1.2.2.2.2.1
  have hTl := hv.1.1
  obtain ⟨-, -, c, hA⟩ := hS e A sg he hs
  have hFw : wkF A.flatten := okF_wk (by have := hA.2.2.2.1; omega) hA.1
  rw [show (32 : Int32) * nI e = nI (32 * e) from pk_mul 32 e]
  refine w_cs1 (tr_same (o := 32 * e) (p := 0) ml12 ml43 (by omega) (by omega) (by omega) (by omega) hv.1 k1) (fun a y e9 => ?_)
  cases e9
  have hJ1 : cwR (usF z 1 0) := cwR_fr f01 (by unfold rPs rSc; omega) (by unfold rPs rSc; omega) hJ
  refine w_if (fun _ => ?_) (fun h8 => ?_)
  rotate_left
  · have eS : tk sg A = T1 := by
      by_cases q : tk sg A = T1
      · exact q
      · exact absurd (by rw [decide_eq_false q]; rfl) h8
    rcases hJ1 T1 k1 with q | ⟨A9, sg9, c9, q1, q2, q3⟩
    · have := tk_pos (sg := sg) hne
      rw [eS, q] at this
      exact absurd this (by decide)
    · obtain ⟨u1, u2⟩ := tk_inj A A9 (okL_u hA) (okL_u q1) (eS.trans q2)
      subst u1
      exact c3 po_usF_at hJ1 (q2.symm.trans eS.symm) q1 q3
  have lp2 : ∀ (dd i : Nat) (y1 y : ow_MS), i + dd = 32 → y1.2.1 12 = (usF z 1 0).2.1 12 → y1.1 1 = 0 → cwA y1 (skV 13 A sg) → fr (fun g => g = 43) y1 y → (∀ t, t < i → y.2.1 43 t = y1.2.1 12 (32 * e + t)) → Tt (fun K t => q_X13_conway K t 2 (nI e) x (nI i) y) Q := by
    intro dd
    induction dd with
    | zero =>
      intro i y1 y hi e12 e1 h42 hf ht
      have hrow : rc_At y1 12 (32 * e) (tk sg A) := by
        obtain ⟨a1, a2, a3, a4⟩ := hv.1
        exact ⟨a1, a2, by rw [e12]; exact a3, fun k t hk => by rw [e12]; exact a4 k t hk⟩
      have hr43 : rc_At y 43 0 (tk sg A) := rc_cpy hrow (fun t h9 => ht t (by omega))
      have h42' : cwA y (skV 13 A sg) := cwA_fr hf (by decide) h42
      refine u_X13_conway_2 ?_; unfold qm_X13_conway_2
      exact w_leT (a := 32) (by omega) (by omega) (c3 (by rw [(hf 1 (by decide)).1]; exact e1) (fun T9 hT9 => Or.inr ⟨A, sg, c, hA, rc_uni hT9 hr43, h42'⟩) rfl hA h42')
    | succ dd ih =>
      intro i y1 y hi e12 e1 h42 hf ht
      refine u_X13_conway_2 ?_; unfold qm_X13_conway_2
      rw [show (32 : Int32) * nI e = nI (32 * e) from pk_mul 32 e, nI_add, nI_1]
      refine w_leF (a := 32) (by omega) (by omega) (w_rdI ml12 rfl (by omega) rfl (w_wrI ml43 rfl (by omega) (ih (i + 1) y1 _ (by omega) e12 e1 h42 (fr_I2 hf rfl) (fun t h9 => ?_))))
      by_cases hti : t = i
      · rw [hti, po_usI_at, (hf 12 (by decide)).2.1]
      · exact rd_ne hti (ht t (by omega))
  have lp1 : ∀ (dd i : Nat) (y : ow_MS), i + dd = 40 → fr (fun g => g = 42) (usF z 1 0) y → (∀ t, t < i → y.2.2 42 t = Int64.ofInt 0) → Tt (fun K t => q_X13_conway K t 1 (nI e) x (nI i) y) Q := by
    intro dd
    induction dd with
    | zero =>
      intro i y hi hf ht
      have hv9 : vRow y 12 (32 * e) A sg := vRow_fr9 hf (by decide) hv
      refine u_X13_conway_1 ?_; unfold qm_X13_conway_1
      refine w_leT (a := 40) (by omega) (by omega) (w_rdN (i := 0) rfl (by omega) (w_cs0 (to_open (pnL (i := 0) (by omega)) he hv9) (fun z2 ⟨o2, f2⟩ => w_okZ (Or.inl rfl) (w_wrF ?_))))
      have f3 : fr (fun g => g = 46) z2 (usF z2 46 0) := fr_F rfl
      have hA4 : rn_At (usF z2 46 0) (1000 * (0 + 4)) A [] := o2.1.1
      have hS4 : rn_sg (usF z2 46 0) (1000 * (0 + 4)) A.flatten sg := o2.2.1
      have hcw : cwA (usF z2 46 0) (fun _ => 0) := cwA_fr f3 (by decide) (cwA_fr f2 (by omega) (fun t h9 => ht t (by omega)))
      obtain ⟨hg, ho⟩ := ou_all hFw (by have := okF_len hA.1; have := hA.2.2.2.1; omega)
      have hsk : Te (fun K => qe_X13_skein K 0 1 0 0 (usF z2 46 0)) (fun z1 => fr (skH 0) (usF z2 46 0) z1 ∧ cwA z1 (fun t => 0 + 1 * shf 0 (skV 13 A sg) t)) := xr_skein 12 0 16 0 0 A sg 1 (fun _ => 0) (usF z2 46 0) (by omega) (by omega) (by omega) hFw (by have := okF_len hA.1; have := hA.2.2.2.1; omega) (by have := hA.2.2.2.2; omega) hA4 hS4 hg ho po_usF_at hcw
      refine w_cs0 hsk (fun z3 ⟨f4, c4'⟩ => ?_)
      have f5 : fr (fun g => g = 42 ∨ g = 46 ∨ g = 41 ∨ g = 44 ∨ 1000 ≤ g) (usF z 1 0) z3 := fr_tr (fr_mono (fun g hg => Or.inl hg) hf) (fr_tr (fr_mono (fun g hg => by omega) f2) (fr_tr (fr_mono (fun g hg => Or.inr (Or.inl hg)) f3) (fr_mono (fun g hg => by unfold skH at hg; omega) f4)))
      refine lp2 32 0 z3 z3 (by omega) (f5 12 (by omega)).2.1 (by rw [(f5 1 (by omega)).1]; exact po_usF_at) (cwA_cg c4' (fun t ht => ?_)) fr_rf (fun t ht => absurd ht (by omega))
      unfold shf
      rw [if_pos (Nat.zero_le _), Nat.sub_zero, Int.one_mul, Int.zero_add]
    | succ dd ih =>
      intro i y hi hf ht
      refine u_X13_conway_1 ?_; unfold qm_X13_conway_1
      rw [nI_1]
      refine w_leF (a := 40) (by omega) (by omega) (w_wrJ ml42 rfl (by omega) (ih (i + 1) _ (by omega) (fr_J2 hf rfl) (fun t h9 => ?_)))
      by_cases hti : t = i
      · rw [hti, usJ_at]
        rfl
      · rw [usJ_ne hti]
        exact ht t (by omega)
  exact lp1 40 0 (usF z 1 0) (by omega) fr_rf (fun t ht => absurd ht (by omega))
end XCG
end
section
/-! 99zzzzzzzzzzzzzr.xcw9 -/
/-! conway: the class, and both sides -/
/-- the class's last numbers -/
def cwK (y : ow_MS) : Prop := ∃ C, slC y 25000 0 C ∧ cOK C ∧ (C.2 = [] ∨ ∃ A sg c, C = clC sg A ∧ okL A c ∧ cwC y (skV 13 A sg))
section XCH
variable {vl : Nat → Nat} {y : ow_MS} {St : plT} {x x' : Int32}
theorem cwK_fr {P : Nat → Prop} {y1 : ow_MS} (hf : fr P y y1) (hP : ∀ g, P g → ¬ (g = 24003 ∨ 25001 ≤ g ∧ g ≤ 25003)) (h : cwK y) : cwK y1 := by
  obtain ⟨C, c1, c2, c3⟩ := h
  refine ⟨C, slC_fr hf (fun q hq h9 => hP q h9 (by unfold cW at hq; omega)) c1, c2, c3.imp id (fun ⟨A, sg, c, q1, q2, q3⟩ => ⟨A, sg, c, q1, q2, cwC_fr hf (fun h9 => hP _ h9 (by omega)) q3⟩)⟩
theorem xc_unfoldCode {g' p' s' c : Nat} {A : rn_L} {sg : Nat → Bool} (hg' : tH g' p') (hd : g' + 6 ≤ 24000) (hs' : s' < p') (hb : slC y g' s' (clC sg A)) (hA : okL A c) (hby : byR y (g' + 1)) (hn : nrm A sg) (hl : lvS y) (hK : cwK y) : Te (fun K => ce_X8_unfoldCode vl K 24000 g' (nI s') y) (fun y1 => slC y1 25000 0 (clC sg A) ∧ cwC y1 (skV 13 A sg)) := by
  obtain ⟨C, c1, c2, c3⟩ := hK
  have hFw : wkF A.flatten := okF_wk (by have := hA.2.2.2.1; omega) hA.1
  refine e_X8_unfoldCode ?_; unfold cm_X8_unfoldCode_0
  refine w_cs1 (tc_isKnown2 (s := 0) (by omega) hg' (by omega) hs' hb (okL_c hA).2 hby c1 c2) ?_
  rintro v y1 ⟨h1, -, -, f1⟩
  dsimp only at h1 f1
  rcases h1 with ⟨rfl, rfl, eC, hlen⟩ | ⟨rfl, h1⟩
  · refine w_ifF (by decide) (w_some ⟨by rw [← eC]; exact c1, ?_⟩)
    rcases c3 with e | ⟨A', sg', c', q1, q2, q3⟩
    · rw [e] at hlen
      exact absurd hlen (by decide)
    · obtain ⟨u1, u2, u3⟩ := clC_inj hA q2 (eC.symm.trans q1)
      subst u1
      exact cwC_cg q3 (fun t _ => sk_sg 13 A sg' sg t hFw (fun p hp => (u3 p.1 ((hA.1.2 p).mp hp).1).symm))
  · have f1s : fr skP y y1 := fr_mono (fun g hg => by unfold cW at hg; unfold skP; omega) f1
    have l1 : lvS y1 := fun j hj => by
      obtain ⟨T, t1, t2⟩ := hl j hj
      exact ⟨T, cAt_fr f1 (fun g hg h9 => by unfold cP lv at hg; unfold cW at h9; omega) t1, t2⟩
    refine w_ifT rfl (w_cs0 (tc_fillA ch_24003 (by omega)) ?_)
    rintro y2 ⟨z2, f2⟩
    refine w_cs0 (tc_fillA ch_24004 (by omega)) ?_
    rintro y3 ⟨-, f3⟩
    have hc3 : cwC y3 (fun _ => 0) := cwC_fr f3 (by decide) (fun t ht => z2 t ht)
    have f13a : fr (fun g => g = 24003 ∨ g = 24004) y1 y3 := fr_tr (fr_mono (fun g hg => by omega) f2) (fr_mono (fun g hg => by omega) f3)
    have l3 : lvS y3 := fun j hj => by
      obtain ⟨T, t1, t2⟩ := l1 j hj
      exact ⟨T, cAt_fr f13a (fun g hg h9 => by unfold cP lv at hg; omega) t1, t2⟩
    obtain ⟨T, t1, t2⟩ := l3 0 (by omega)
    have s3 : slC y3 g' s' (clC sg A) := slC_fr (fr_tr f1s (fr_mono (fun g hg => by unfold skP; omega) f13a)) (fun q hq h9 => by unfold cW at hq; unfold skP at h9; omega) hb
    refine w_crX (j := 0) rfl (by omega) (w_cs0 (tc_load3 (lv_nH (L := 0) (by omega)) hg' (Or.inr (by omega)) hs' hA s3 t1 t2) ?_)
    rintro y4 ⟨⟨T1, q1, q2, q3, q4⟩, f4⟩
    have n4 := q1.2.2.1
    have l4 : lvS y4 := lvS_fr (L := 0) f4 (fun g hg => Or.inl (cL_in hg)) ⟨T1, q1.1, n4.2.2.1⟩ l3
    have hpm : pm1 T1 := fun x hx => by
      rw [q4 x (by omega)]
      cases sg x
      · exact Or.inl rfl
      · exact Or.inr rfl
    have hu : uL A sg (fun x => x) T1 := ⟨isoV_of q1.2.1 n4.1, hpm, fun h9 => by
      obtain ⟨b1, b2⟩ := nrm_base hn h9
      refine ⟨b1, ?_⟩
      unfold lbv crs uns
      rw [b2]
      rfl⟩
    have hun : Te (fun K => ce_X8_unfold vl K 24000 0 1 0 0 y4) (fun z1 => (lvS z1 ∧ fr (unP 0) y4 z1) ∧ cwC z1 (fun t => 0 + 1 * shf 0 (skV 13 A sg) t)) := xc_unfD 12 0 rfl T1 A sg (fun x => x) 1 (fun _ => 0) 0 y4 l4 q1.1 ⟨n4.1, n4.2.1, n4.2.2.1, by have := n4.2.2.2; omega⟩ (by have := n4.2.1; omega) hu (cwC_fr f4 (fun h9 => by have := cL_in h9; unfold lv at this; omega) hc3)
    refine w_cs0 hun ?_
    rintro y5 ⟨⟨l5, f5⟩, c5⟩
    have f15 : fr (fun g => 24003 ≤ g ∧ g ≤ 24004 ∨ 26001 ≤ g ∧ g ≤ 38011) y1 y5 := fr_tr (fr_mono (fun g hg => by omega) f13a) (fr_tr (fr_mono (fun g hg => by have := cL_in hg; unfold lv at this; omega) f4) (fr_mono (fun g hg => by unfold unP at hg; omega) f5))
    refine w_some ⟨slC_fr f15 (fun q hq h9 => by unfold cW at hq; omega) h1, cwC_cg c5 (fun t _ => ?_)⟩
    unfold shf
    rw [if_pos (Nat.zero_le _), Nat.sub_zero, Int.one_mul, Int.zero_add]
theorem xc_conway (hM : gM y) (hC : relC y St) (hS : okS St) (hK : cwK y) (hm : NM y) : Te (fun K => ce_X11_conway vl K 0 x x' y) (fun r => cwK r.2.2 ∧ ((r.1 = 1 ∧ r.2.2 = y ∧ ∀ d, d < 40 → x = nI d → St d = none) ∨ ∃ d A sg c, d < 40 ∧ x = nI d ∧ St d = some (A, sg) ∧ okL A c ∧ r.1 = 0 ∧ cwN9 A sg x' r.2.1)) := by
  refine e_X11_conway ?_; unfold cm_X11_conway_0
  refine w_tc0 (xc_need hM.1.1 hC hS) ?_ ?_
  · rintro y1 ⟨h1, rfl⟩
    rcases h1 with h1 | ⟨-, d, A, sg, c, hd, rfl, hSt, hs, hA, hne, hpl⟩
    · exact absurd (show (0 : Nat) = 1 from h1.1) (by decide)
    · have hFw : wkF A.flatten := okF_wk (by have := hA.2.2.2.1; omega) hA.1
      refine w_cs0 (xc_unfoldCode ch_1000 (by omega) hd hs hA hM.1.1.1 (hm.1 d A sg c hd hs hA hne) (lvS_ns hM.1.2.1) hK) ?_
      rintro y2 ⟨k2, k3⟩
      refine w_cs1 tc_conwayAt ?_
      rintro v z ⟨e2, a1, a2⟩
      dsimp only at e2 a1 a2
      rw [e2]
      refine w_some ⟨⟨_, k2, (okL_c hA).2, Or.inr ⟨A, sg, c, rfl, hA, k3⟩⟩, Or.inr ⟨d, A, sg, c, hd, rfl, hSt, hA, rfl, fun k hk e => ?_, fun h9 => a2 (fun k hk => h9 k (by omega))⟩⟩
      by_cases h13 : k < 13
      · rw [a1 k h13 e]
        exact k3 k h13
      · rw [a2 (fun k' hk' e' => by
          have := nI_inj9 (a := k) (b := k') (by omega) (by omega) (e.symm.trans e')
          omega), sk_deg 13 A sg k hFw (by have := okF_len hA.1; have := hA.2.2.2.1; omega)]
        rfl
  · rintro a y1 ha ⟨h1, rfl⟩
    rcases h1 with h1 | h1
    · exact w_some ⟨hK, Or.inl ⟨h1.1, rfl, h1.2⟩⟩
    · exact absurd h1.1 ha
end XCH
section XCI
variable {X : (Nat → Nat → Int32) → Prop} {z y : ow_MS} {vl : Nat → Nat} {x x' : Int32}
theorem cwN_sg {A : rn_L} {sg sg' : Nat → Bool} {c : Nat} {v : Int32} (hA : okL A c) (e : tk sg A = tk sg' A) (h : cwN9 A sg x v) : cwN9 A sg' x v := by
  have hFw : wkF A.flatten := okF_wk (by have := hA.2.2.2.1; omega) hA.1
  obtain ⟨-, u2⟩ := tk_inj A A (okL_u hA) (okL_u hA) e
  exact ⟨fun k k1 k2 => by rw [← sk_sg 13 A sg sg' k hFw u2]; exact h.1 k k1 k2, h.2⟩
theorem c_conway (h : rel3 X z y) (hk : knC y) (hm : NM y) (hz : cwR z) (hy : cwK y) : Te (fun K => qe_X13_conway K x x' z) (fun rr => Te (fun K => ce_X11_conway vl K 0 x x' y) (fun rc => (rel3 X rr.2 rc.2.2 ∧ ansI [(1, 1)] rr rc) ∧ cwR rr.2 ∧ cwK rc.2.2 ∧ knC rc.2.2 ∧ fr skP y rc.2.2)) := by
  obtain ⟨⟨St, k⟩, hM, h2⟩ := id h
  refine te_two (te_and (te_fo (tp_conway (d := x) (k := x') k.1) (fun K => ff_X13_conway)) (xq_conway k.1 k.2.2.1 k.2.2.2.2 hz)) (te_and (tc_conway (x := x) (x' := x') hM hk) (xc_conway hM k.2.2.2.1 k.2.2.2.2 hy hm)) (fun rr rc ⟨⟨hgI, fR⟩, jr, hr⟩ ⟨⟨hG, hk2, hf⟩, jc, hc⟩ => ?_)
  have hC : relC rc.2.2 St := relC_fr hf (fun q hq h9 => by unfold cW at hq; unfold skP at h9; omega) k.2.2.2.1
  have h2' : rel2 rr.2 rc.2.2 := by
    obtain ⟨k1, k2, k3, ⟨Ns, q1, q2, q3⟩, Ms, q4, q5, q6⟩ := h2
    exact ⟨relT_k fR hf (by decide) (by unfold skP; omega) k1, relB_k fR hf (by decide) (by unfold skP; omega) k2, brC_fr hf (by unfold skP; omega) k3, ⟨Ns, rlR_k fR (by decide) q1, rlC_k hf (fun q hq => by unfold cV at hq; unfold skP; omega) q2, q3⟩, Ms, rlR_k fR (by decide) q4, rlC_k hf (fun q hq => by unfold cV at hq; unfold skP; omega) q5, q6⟩
  have fin : ansI [(1, 1)] rr rc → ((rel3 X rr.2 rc.2.2 ∧ ansI [(1, 1)] rr rc) ∧ cwR rr.2 ∧ cwK rc.2.2 ∧ knC rc.2.2 ∧ fr skP y rc.2.2) := fun ha => ⟨⟨⟨⟨St, hgI, hG.1, relR_fr fR (by decide) k.2.2.1, hC, k.2.2.2.2⟩, hG, h2'⟩, ha⟩, jr, jc, hk2, hf⟩
  rcases hr with ⟨r1, r2⟩ | ⟨e, A, sg, he, rfl, hSt, r2, sg9, c, r4, r5, r6⟩
  · rcases hc with ⟨c1, -⟩ | ⟨d, A, sg, c, hd, hx, hSt, -⟩
    · exact fin (Or.inr ⟨1, 1, by simp, r1.2.1, c1⟩)
    · rw [r2 d hd hx] at hSt
      cases hSt
  · rcases hc with ⟨-, -, c2⟩ | ⟨d, A', sg', c', hd, hx, hSt', hA', c1, hv⟩
    · rw [c2 e he rfl] at hSt
      cases hSt
    · have ed := nI_inj9 (a := e) (b := d) (by omega) (by omega) hx
      subst ed
      rw [hSt] at hSt'
      cases hSt'
      exact fin (Or.inl ⟨r2, c1, cwN_uni (cwN_sg hA' r4 r6) hv⟩)
end XCI
end
section
/-! 99zzzzzzzzzzzzzs.xst4 -/
/-! the steps of the law with whatever else is kept; what is left of the whole -/
def keepP (H : Nat → Prop) (P : ow_MS → Prop) : Prop := ∀ (F : Nat → Prop) (y y1 : ow_MS), fr F y y1 → (∀ g, F g → ¬ H g) → P y → P y1
def ciX (g : Nat) : Prop := 24001 ≤ g ∧ g ≤ 25003 ∨ 39001 ≤ g ∧ g ≤ 45011
def rfX (g : Nat) : Prop := 42 ≤ g ∧ g ≤ 46 ∨ 58 ≤ g ∧ g ≤ 93 ∨ 97 ≤ g ∧ g ≤ 107
def rfL : List Nat := [42, 43, 44, 45, 46] ++ ((List.range 36).map (fun i => 58 + i) ++ (List.range 11).map (fun i => 97 + i))
theorem rfX_m {g : Nat} : rfX g ↔ g ∈ rfL := by
  unfold rfX rfL
  rw [List.mem_append, List.mem_append, List.mem_map, List.mem_map]
  constructor
  · rintro (h | h | h)
    · exact Or.inl (by
        rcases (show g = 42 ∨ g = 43 ∨ g = 44 ∨ g = 45 ∨ g = 46 by omega) with rfl | rfl | rfl | rfl | rfl <;> decide)
    · exact Or.inr (Or.inl ⟨g - 58, List.mem_range.mpr (by omega), by omega⟩)
    · exact Or.inr (Or.inr ⟨g - 97, List.mem_range.mpr (by omega), by omega⟩)
  · rintro (h | ⟨i, h1, h2⟩ | ⟨i, h1, h2⟩)
    · have key : ∀ a, a ∈ [42, 43, 44, 45, 46] → 42 ≤ a ∧ a ≤ 46 := by decide
      exact Or.inl (key g h)
    · have := List.mem_range.mp h1
      omega
    · have := List.mem_range.mp h1
      omega
theorem pf_rf {L : List Nat} (h : (L.all (fun g => !rfL.contains g)) = true) : ∀ g, pf L [] g → ¬ rfX g := by
  rintro g (h1 | h1 | h1) h9
  · have h2 := List.all_eq_true.mp h g h1
    rw [List.contains_iff_mem.mpr (rfX_m.mp h9)] at h2
    exact absurd h2 (by decide)
  · exact absurd h1 List.not_mem_nil
  · unfold rfX at h9
    omega
def stpX (Pc Pr : ow_MS → Prop) (f : (Nat → Nat) → Nat → Int32 → Int32 → Int32 → Int32 → Int32 → ow_MS → ow_MS → Option ow_LwS) : Prop := ∀ (S : ow_LwS) (x1 x2 x3 x4 x5 : Int32), REL2 S → Pc S.2.1 → Pr S.2.2 → Te (fun K => f S.1 K x1 x2 x3 x4 x5 S.2.1 S.2.2) (fun S1 => (REL2 S1 ∧ dPhi S.1 ≤ dPhi S1.1) ∧ Pc S1.2.1 ∧ Pr S1.2.2)
section XS6
variable {vl : Nat → Nat} {Q : ow_LwS → Prop}
theorem lsV_core {fc : Nat → Option (Nat × Int32 × ow_MS)} {mp : Nat → ow_MS → Option (Int32 × ow_MS)} {fm : Nat → Option (Int32 × ow_MS)} (hmp : ∀ k z r, mp k z = some r → r.2 = z) {K : Nat} {S1 : ow_LwS} (e1 : lsV vl fc mp fm K = some S1) : ∃ k v zc v4 zm, fc K = some (k, v, zc) ∧ fm K = some (v4, zm) ∧ (S1.2.1 = zc ∨ S1.2.1 = usJ zc 52001 0 v.toInt64) ∧ S1.2.2 = zm := by
  unfold lsV at e1
  cases hf : fc K with
  | none =>
    rw [hf] at e1
    cases e1
  | some q =>
    obtain ⟨k, v, zc⟩ := q
    rw [hf] at e1
    have main : ∀ (a : Int32) (zc1 : ow_MS), (cs1 (fm K) fun v4 zm3 => cs1 (qe_X13_thrown K zm3) fun v6 zm5 => (if v6 = a then (if a = 0 then crJ (cX vl) zc1 52001 0 fun v7 => (if (lg_cmp v7 v4.toInt64) = 0 then some (vl, zc1, zm5) else none) else some (vl, zc1, zm5)) else none)) = some S1 → ∃ v4 zm, fm K = some (v4, zm) ∧ S1.2.1 = zc1 ∧ S1.2.2 = zm := by
      intro a zc1 h9
      cases hm : fm K with
      | none =>
        rw [hm] at h9
        cases h9
      | some q =>
        obtain ⟨v4, zm3⟩ := q
        rw [hm] at h9
        have h9 : (if zm3.1 1 = a then (if a = 0 then crJ (cX vl) zc1 52001 0 fun v7 => (if (lg_cmp v7 v4.toInt64) = 0 then some (vl, zc1, zm3) else none) else some (vl, zc1, zm3)) else none) = some S1 := h9
        by_cases c1 : zm3.1 1 = a
        · rw [if_pos c1] at h9
          by_cases c2 : a = 0
          · rw [if_pos c2] at h9
            have h9 : (if lg_cmp (zc1.2.2 52001 0) v4.toInt64 = 0 then some (vl, zc1, zm3) else none) = some S1 := h9
            by_cases c3 : lg_cmp (zc1.2.2 52001 0) v4.toInt64 = 0
            · rw [if_pos c3] at h9
              cases h9
              exact ⟨v4, zm3, rfl, rfl, rfl⟩
            · rw [if_neg c3] at h9
              cases h9
          · rw [if_neg c2] at h9
            cases h9
            exact ⟨v4, zm3, rfl, rfl, rfl⟩
        · rw [if_neg c1] at h9
          cases h9
    by_cases hk : k = 0
    · have e3 : tc1 (some (k, v, zc)) mp (fun v3 z1 => ctJ (cX vl) z1 52001 0 v3.toInt64 fun z4 => some (0, z4)) = some (0, usJ zc 52001 0 v.toInt64) := by
        show (if k = 0 then ctJ (cX vl) zc 52001 0 v.toInt64 (fun z4 => some (0, z4)) else mp k zc) = _
        rw [if_pos hk]
        rfl
      rw [e3] at e1
      obtain ⟨v4, zm, a1, a2, a3⟩ := main 0 _ e1
      exact ⟨k, v, zc, v4, zm, rfl, a1, Or.inr a2, a3⟩
    · have e3 : tc1 (some (k, v, zc)) mp (fun v3 z1 => ctJ (cX vl) z1 52001 0 v3.toInt64 fun z4 => some (0, z4)) = mp k zc := by
        show (if k = 0 then ctJ (cX vl) zc 52001 0 v.toInt64 (fun z4 => some (0, z4)) else mp k zc) = _
        rw [if_neg hk]
      rw [e3] at e1
      cases hm : mp k zc with
      | none =>
        rw [hm] at e1
        cases e1
      | some q =>
        obtain ⟨a, zc1⟩ := q
        have ez : zc1 = zc := hmp k zc _ hm
        rw [hm, ez] at e1
        obtain ⟨v4, zm, a1, a2, a3⟩ := main a zc e1
        exact ⟨k, v, zc, v4, zm, rfl, a1, Or.inl a2, a3⟩
theorem lsV_fo {P P' : Nat → Prop} {y z : ow_MS} {fc : Nat → Option (Nat × Int32 × ow_MS)} {mp : Nat → ow_MS → Option (Int32 × ow_MS)} {fm : Nat → Option (Int32 × ow_MS)} (h : Te (lsV vl fc mp fm) Q) (hc : ∀ K, Fo (fun r => r.2.2) P y (fc K)) (hm : ∀ K, Fo Prod.snd P' z (fm K)) (hmp : ∀ k z r, mp k z = some r → r.2 = z) : Te (lsV vl fc mp fm) (fun S1 => Q S1 ∧ fr (fun g => P g ∨ g = 52001) y S1.2.1 ∧ fr P' z S1.2.2) := by
  obtain ⟨S1, ⟨b1, hb1⟩, hQ⟩ := h
  obtain ⟨k, v, zc, v4, zm, a1, a2, a3, a4⟩ := lsV_core hmp (hb1 b1 (Nat.le_refl _))
  have f1 : fr P y zc := hc b1 _ a1
  have f2 : fr P' z zm := hm b1 _ a2
  refine ⟨S1, ⟨b1, hb1⟩, hQ, ?_, by rw [a4]; exact f2⟩
  rcases a3 with e | e
  · rw [e]
    exact fr_mono (fun g hg => Or.inl hg) f1
  · rw [e]
    exact fr_J2 (fr_mono (fun g hg => Or.inl hg) f1) (Or.inr rfl)
theorem lsV_pp {Pc Pr : ow_MS → Prop} {fc : Nat → Option (Nat × Int32 × ow_MS)} {mp : Nat → ow_MS → Option (Int32 × ow_MS)} {fm : Nat → Option (Int32 × ow_MS)} (h : Te (lsV vl fc mp fm) Q) (hn : Te fc (fun rc => Pc rc.2.2)) (hm : Te fm (fun rr => Pr rr.2)) (hJ : ∀ y v, Pc y → Pc (usJ y 52001 0 v)) (hmp : ∀ k z r, mp k z = some r → r.2 = z) : Te (lsV vl fc mp fm) (fun S1 => Q S1 ∧ Pc S1.2.1 ∧ Pr S1.2.2) := by
  obtain ⟨S1, ⟨b1, hb1⟩, hQ⟩ := h
  obtain ⟨⟨k', v', zc'⟩, ⟨b2, hb2⟩, hN⟩ := hn
  obtain ⟨⟨v4', zm'⟩, ⟨b3, hb3⟩, hz⟩ := hm
  have hN : Pc zc' := hN
  have hz : Pr zm' := hz
  obtain ⟨k, v, zc, v4, zm, a1, a2, a3, a4⟩ := lsV_core hmp (hb1 (b1 + b2 + b3) (by omega))
  rw [hb2 (b1 + b2 + b3) (by omega)] at a1
  rw [hb3 (b1 + b2 + b3) (by omega)] at a2
  cases a1
  cases a2
  refine ⟨S1, ⟨b1, hb1⟩, hQ, ?_, by rw [a4]; exact hz⟩
  rcases a3 with e | e
  · rw [e]
    exact hN
  · rw [e]
    exact hJ _ _ hN
theorem lsB_fo {P P' : Nat → Prop} {y z : ow_MS} {fc fm : Nat → Option (Int32 × ow_MS)} (h : Te (fun K => cs1 (fc K) fun v2 zc1 => cs1 (fm K) fun v4 zm3 => (if v2 = v4 then some (vl, zc1, zm3) else none)) Q) (hc : ∀ K, Fo Prod.snd P y (fc K)) (hm : ∀ K, Fo Prod.snd P' z (fm K)) : Te (fun K => cs1 (fc K) fun v2 zc1 => cs1 (fm K) fun v4 zm3 => (if v2 = v4 then some (vl, zc1, zm3) else none)) (fun S1 => Q S1 ∧ fr P y S1.2.1 ∧ fr P' z S1.2.2) := by
  obtain ⟨S1, ⟨b1, hb1⟩, hQ⟩ := h
  have e1 : (cs1 (fc b1) fun v2 zc1 => cs1 (fm b1) fun v4 zm3 => (if v2 = v4 then some (vl, zc1, zm3) else none)) = some S1 := hb1 b1 (Nat.le_refl _)
  refine ⟨S1, ⟨b1, hb1⟩, hQ, ?_⟩
  cases hf : fc b1 with
  | none =>
    rw [hf] at e1
    cases e1
  | some q =>
    obtain ⟨v, zc⟩ := q
    rw [hf] at e1
    have f1 : fr P y zc := hc b1 _ hf
    cases hg : fm b1 with
    | none =>
      rw [hg] at e1
      cases e1
    | some q =>
      obtain ⟨v4, zm⟩ := q
      rw [hg] at e1
      have f2 : fr P' z zm := hm b1 _ hg
      have e1 : (if v = v4 then some (vl, zc, zm) else none) = some S1 := e1
      by_cases c1 : v = v4
      · rw [if_pos c1] at e1
        cases e1
        exact ⟨f1, f2⟩
      · rw [if_neg c1] at e1
        cases e1
end XS6
section XS7
variable {Pc Pr : ow_MS → Prop}
theorem s3_feed (hc : keepP ciX Pc) (hr : keepP rfX Pr) : stpX Pc Pr lst_feed := by
  intro S x1 x2 x3 x4 x5 h pc pr
  have hs : Te (lsV S.1 (fun K => ce_X11_feed S.1 K 0 x1 x2 x3 x4 x5 S.2.1) (fun k z => if k = 3 then some (1, z) else none) (fun K => qe_X13_feed K x1 x2 x3 x4 x5 S.2.2)) (fun S1 => REL2 S1 ∧ dPhi S.1 ≤ dPhi S1.1) := s2_feed S x1 x2 x3 x4 x5 h
  exact w_monoE (lsV_fo hs (fun K => ff_X11_feed) (fun K => ff_X13_feed) (fun k z r hr => by
    have hr : (if k = 3 then some (1, z) else none) = some r := hr
    by_cases c0 : k = 3
    · rw [if_pos c0] at hr
      cases hr
      rfl
    rw [if_neg c0] at hr
    cases hr)) (fun S1 ⟨q, f1, f2⟩ => ⟨q, hc _ _ _ f1 (fun g hg h9 => by unfold ciX at h9; omega) pc, hr _ _ _ f2 (pf_rf (by decide)) pr⟩)
theorem s3_diagram (hc : keepP ciX Pc) (hr : keepP rfX Pr) : stpX Pc Pr lst_diagram := by
  intro S x1 x2 x3 x4 x5 h pc pr
  have hs : Te (lsV S.1 (fun K => ce_X11_diagram S.1 K 0  S.2.1) (fun k z => if k = 3 then some (1, z) else none) (fun K => qe_X13_diagram K  S.2.2)) (fun S1 => REL2 S1 ∧ dPhi S.1 ≤ dPhi S1.1) := s2_diagram S x1 x2 x3 x4 x5 h
  exact w_monoE (lsV_fo hs (fun K => ff_X11_diagram) (fun K => ff_X13_diagram) (fun k z r hr => by
    have hr : (if k = 3 then some (1, z) else none) = some r := hr
    by_cases c0 : k = 3
    · rw [if_pos c0] at hr
      cases hr
      rfl
    rw [if_neg c0] at hr
    cases hr)) (fun S1 ⟨q, f1, f2⟩ => ⟨q, hc _ _ _ f1 (fun g hg h9 => by unfold ciX at h9; omega) pc, hr _ _ _ f2 (pf_rf (by decide)) pr⟩)
theorem s3_braid (hc : keepP ciX Pc) (hr : keepP rfX Pr) : stpX Pc Pr lst_braid := by
  intro S x1 x2 x3 x4 x5 h pc pr
  have hs : Te (lsV S.1 (fun K => ce_X11_braid S.1 K 0 x1 S.2.1) (fun k z => if k = 2 then some (1, z) else if k = 3 then some (2, z) else none) (fun K => qe_X13_braid K x1 S.2.2)) (fun S1 => REL2 S1 ∧ dPhi S.1 ≤ dPhi S1.1) := s2_braid S x1 x2 x3 x4 x5 h
  exact w_monoE (lsV_fo hs (fun K => ff_X11_braid) (fun K => ff_X13_braid) (fun k z r hr => by
    have hr : (if k = 2 then some (1, z) else if k = 3 then some (2, z) else none) = some r := hr
    by_cases c0 : k = 2
    · rw [if_pos c0] at hr
      cases hr
      rfl
    by_cases c1 : k = 3
    · rw [if_neg c0, if_pos c1] at hr
      cases hr
      rfl
    rw [if_neg c0, if_neg c1] at hr
    cases hr)) (fun S1 ⟨q, f1, f2⟩ => ⟨q, hc _ _ _ f1 (fun g hg h9 => by unfold ciX at h9; omega) pc, hr _ _ _ f2 (pf_rf (by decide)) pr⟩)
theorem s3_figure (hc : keepP ciX Pc) (hr : keepP rfX Pr) : stpX Pc Pr lst_figure := by
  intro S x1 x2 x3 x4 x5 h pc pr
  have hs : Te (lsV S.1 (fun K => ce_X11_figure S.1 K 0 x1 x2 S.2.1) (fun k z => if k = 1 then some (1, z) else if k = 2 then some (2, z) else none) (fun K => qe_X13_figure K x1 x2 S.2.2)) (fun S1 => REL2 S1 ∧ dPhi S.1 ≤ dPhi S1.1) := s2_figure S x1 x2 x3 x4 x5 h
  exact w_monoE (lsV_fo hs (fun K => ff_X11_figure) (fun K => ff_X13_figure) (fun k z r hr => by
    have hr : (if k = 1 then some (1, z) else if k = 2 then some (2, z) else none) = some r := hr
    by_cases c0 : k = 1
    · rw [if_pos c0] at hr
      cases hr
      rfl
    by_cases c1 : k = 2
    · rw [if_neg c0, if_pos c1] at hr
      cases hr
      rfl
    rw [if_neg c0, if_neg c1] at hr
    cases hr)) (fun S1 ⟨q, f1, f2⟩ => ⟨q, hc _ _ _ f1 (fun g hg h9 => by unfold ciX at h9; omega) pc, hr _ _ _ f2 (pf_rf (by decide)) pr⟩)
theorem s3_visit (hc : keepP ciX Pc) (hr : keepP rfX Pr) : stpX Pc Pr lst_visit := by
  intro S x1 x2 x3 x4 x5 h pc pr
  have hs : Te (lsV S.1 (fun K => ce_X11_visit S.1 K 0 x1 x2 x3 S.2.1) (fun k z => if k = 1 then some (1, z) else if k = 2 then some (2, z) else none) (fun K => qe_X13_visit K x1 x2 x3 S.2.2)) (fun S1 => REL2 S1 ∧ dPhi S.1 ≤ dPhi S1.1) := s2_visit S x1 x2 x3 x4 x5 h
  exact w_monoE (lsV_fo hs (fun K => ff_X11_visit) (fun K => ff_X13_visit) (fun k z r hr => by
    have hr : (if k = 1 then some (1, z) else if k = 2 then some (2, z) else none) = some r := hr
    by_cases c0 : k = 1
    · rw [if_pos c0] at hr
      cases hr
      rfl
    by_cases c1 : k = 2
    · rw [if_neg c0, if_pos c1] at hr
      cases hr
      rfl
    rw [if_neg c0, if_neg c1] at hr
    cases hr)) (fun S1 ⟨q, f1, f2⟩ => ⟨q, hc _ _ _ f1 (fun g hg h9 => by unfold ciX at h9; omega) pc, hr _ _ _ f2 (pf_rf (by decide)) pr⟩)
theorem s3_linking (hc : keepP ciX Pc) (hr : keepP rfX Pr) : stpX Pc Pr lst_linking := by
  intro S x1 x2 x3 x4 x5 h pc pr
  have hs : Te (lsV S.1 (fun K => ce_X11_linking S.1 K 0 x1 x2 x3 S.2.1) (fun k z => if k = 1 then some (1, z) else if k = 2 then some (2, z) else none) (fun K => qe_X13_linking K x1 x2 x3 S.2.2)) (fun S1 => REL2 S1 ∧ dPhi S.1 ≤ dPhi S1.1) := s2_linking S x1 x2 x3 x4 x5 h
  exact w_monoE (lsV_fo hs (fun K => ff_X11_linking) (fun K => ff_X13_linking) (fun k z r hr => by
    have hr : (if k = 1 then some (1, z) else if k = 2 then some (2, z) else none) = some r := hr
    by_cases c0 : k = 1
    · rw [if_pos c0] at hr
      cases hr
      rfl
    by_cases c1 : k = 2
    · rw [if_neg c0, if_pos c1] at hr
      cases hr
      rfl
    rw [if_neg c0, if_neg c1] at hr
    cases hr)) (fun S1 ⟨q, f1, f2⟩ => ⟨q, hc _ _ _ f1 (fun g hg h9 => by unfold ciX at h9; omega) pc, hr _ _ _ f2 (pf_rf (by decide)) pr⟩)
theorem s3_mirror (hc : keepP ciX Pc) (hr : keepP rfX Pr) : stpX Pc Pr lst_mirror := by
  intro S x1 x2 x3 x4 x5 h pc pr
  have hs : Te (lsV S.1 (fun K => ce_X11_mirror S.1 K 0 x1 S.2.1) (fun k z => if k = 1 then some (1, z) else if k = 3 then some (2, z) else none) (fun K => qe_X13_mirror K x1 S.2.2)) (fun S1 => REL2 S1 ∧ dPhi S.1 ≤ dPhi S1.1) := s2_mirror S x1 x2 x3 x4 x5 h
  exact w_monoE (lsV_fo hs (fun K => ff_X11_mirror) (fun K => ff_X13_mirror) (fun k z r hr => by
    have hr : (if k = 1 then some (1, z) else if k = 3 then some (2, z) else none) = some r := hr
    by_cases c0 : k = 1
    · rw [if_pos c0] at hr
      cases hr
      rfl
    by_cases c1 : k = 3
    · rw [if_neg c0, if_pos c1] at hr
      cases hr
      rfl
    rw [if_neg c0, if_neg c1] at hr
    cases hr)) (fun S1 ⟨q, f1, f2⟩ => ⟨q, hc _ _ _ f1 (fun g hg h9 => by unfold ciX at h9; omega) pc, hr _ _ _ f2 (pf_rf (by decide)) pr⟩)
theorem s3_reverse (hc : keepP ciX Pc) (hr : keepP rfX Pr) : stpX Pc Pr lst_reverse := by
  intro S x1 x2 x3 x4 x5 h pc pr
  have hs : Te (lsV S.1 (fun K => ce_X11_reverse S.1 K 0 x1 x2 S.2.1) (fun k z => if k = 1 then some (1, z) else if k = 3 then some (2, z) else none) (fun K => qe_X13_reverse K x1 x2 S.2.2)) (fun S1 => REL2 S1 ∧ dPhi S.1 ≤ dPhi S1.1) := s2_reverse S x1 x2 x3 x4 x5 h
  exact w_monoE (lsV_fo hs (fun K => ff_X11_reverse) (fun K => ff_X13_reverse) (fun k z r hr => by
    have hr : (if k = 1 then some (1, z) else if k = 3 then some (2, z) else none) = some r := hr
    by_cases c0 : k = 1
    · rw [if_pos c0] at hr
      cases hr
      rfl
    by_cases c1 : k = 3
    · rw [if_neg c0, if_pos c1] at hr
      cases hr
      rfl
    rw [if_neg c0, if_neg c1] at hr
    cases hr)) (fun S1 ⟨q, f1, f2⟩ => ⟨q, hc _ _ _ f1 (fun g hg h9 => by unfold ciX at h9; omega) pc, hr _ _ _ f2 (pf_rf (by decide)) pr⟩)
theorem s3_change (hc : keepP ciX Pc) (hr : keepP rfX Pr) : stpX Pc Pr lst_change := by
  intro S x1 x2 x3 x4 x5 h pc pr
  have hs : Te (lsV S.1 (fun K => ce_X11_change S.1 K 0 x1 x2 S.2.1) (fun k z => if k = 1 then some (1, z) else if k = 3 then some (2, z) else none) (fun K => qe_X13_change K x1 x2 S.2.2)) (fun S1 => REL2 S1 ∧ dPhi S.1 ≤ dPhi S1.1) := s2_change S x1 x2 x3 x4 x5 h
  exact w_monoE (lsV_fo hs (fun K => ff_X11_change) (fun K => ff_X13_change) (fun k z r hr => by
    have hr : (if k = 1 then some (1, z) else if k = 3 then some (2, z) else none) = some r := hr
    by_cases c0 : k = 1
    · rw [if_pos c0] at hr
      cases hr
      rfl
    by_cases c1 : k = 3
    · rw [if_neg c0, if_pos c1] at hr
      cases hr
      rfl
    rw [if_neg c0, if_neg c1] at hr
    cases hr)) (fun S1 ⟨q, f1, f2⟩ => ⟨q, hc _ _ _ f1 (fun g hg h9 => by unfold ciX at h9; omega) pc, hr _ _ _ f2 (pf_rf (by decide)) pr⟩)
theorem s3_smooth (hc : keepP ciX Pc) (hr : keepP rfX Pr) : stpX Pc Pr lst_smooth := by
  intro S x1 x2 x3 x4 x5 h pc pr
  have hs : Te (lsV S.1 (fun K => ce_X11_smooth S.1 K 0 x1 x2 S.2.1) (fun k z => if k = 1 then some (1, z) else if k = 4 then some (2, z) else if k = 3 then some (3, z) else none) (fun K => qe_X13_smooth K x1 x2 S.2.2)) (fun S1 => REL2 S1 ∧ dPhi S.1 ≤ dPhi S1.1) := s2_smooth S x1 x2 x3 x4 x5 h
  exact w_monoE (lsV_fo hs (fun K => ff_X11_smooth) (fun K => ff_X13_smooth) (fun k z r hr => by
    have hr : (if k = 1 then some (1, z) else if k = 4 then some (2, z) else if k = 3 then some (3, z) else none) = some r := hr
    by_cases c0 : k = 1
    · rw [if_pos c0] at hr
      cases hr
      rfl
    by_cases c1 : k = 4
    · rw [if_neg c0, if_pos c1] at hr
      cases hr
      rfl
    by_cases c2 : k = 3
    · rw [if_neg c0, if_neg c1, if_pos c2] at hr
      cases hr
      rfl
    rw [if_neg c0, if_neg c1, if_neg c2] at hr
    cases hr)) (fun S1 ⟨q, f1, f2⟩ => ⟨q, hc _ _ _ f1 (fun g hg h9 => by unfold ciX at h9; omega) pc, hr _ _ _ f2 (pf_rf (by decide)) pr⟩)
theorem s3_apart (hc : keepP ciX Pc) (hr : keepP rfX Pr) : stpX Pc Pr lst_apart := by
  intro S x1 x2 x3 x4 x5 h pc pr
  have hs : Te (lsV S.1 (fun K => ce_X11_apart S.1 K 0 x1 x2 S.2.1) (fun k z => if k = 1 then some (1, z) else if k = 4 then some (2, z) else if k = 3 then some (3, z) else none) (fun K => qe_X13_apart K x1 x2 S.2.2)) (fun S1 => REL2 S1 ∧ dPhi S.1 ≤ dPhi S1.1) := s2_apart S x1 x2 x3 x4 x5 h
  exact w_monoE (lsV_fo hs (fun K => ff_X11_apart) (fun K => ff_X13_apart) (fun k z r hr => by
    have hr : (if k = 1 then some (1, z) else if k = 4 then some (2, z) else if k = 3 then some (3, z) else none) = some r := hr
    by_cases c0 : k = 1
    · rw [if_pos c0] at hr
      cases hr
      rfl
    by_cases c1 : k = 4
    · rw [if_neg c0, if_pos c1] at hr
      cases hr
      rfl
    by_cases c2 : k = 3
    · rw [if_neg c0, if_neg c1, if_pos c2] at hr
      cases hr
      rfl
    rw [if_neg c0, if_neg c1, if_neg c2] at hr
    cases hr)) (fun S1 ⟨q, f1, f2⟩ => ⟨q, hc _ _ _ f1 (fun g hg h9 => by unfold ciX at h9; omega) pc, hr _ _ _ f2 (pf_rf (by decide)) pr⟩)
theorem s3_join (hc : keepP ciX Pc) (hr : keepP rfX Pr) : stpX Pc Pr lst_join := by
  intro S x1 x2 x3 x4 x5 h pc pr
  have hs : Te (lsV S.1 (fun K => ce_X11_join S.1 K 0 x1 x2 x3 x4 S.2.1) (fun k z => if k = 1 then some (1, z) else if k = 4 then some (2, z) else if k = 3 then some (3, z) else none) (fun K => qe_X13_join K x1 x2 x3 x4 S.2.2)) (fun S1 => REL2 S1 ∧ dPhi S.1 ≤ dPhi S1.1) := s2_join S x1 x2 x3 x4 x5 h
  exact w_monoE (lsV_fo hs (fun K => ff_X11_join) (fun K => ff_X13_join) (fun k z r hr => by
    have hr : (if k = 1 then some (1, z) else if k = 4 then some (2, z) else if k = 3 then some (3, z) else none) = some r := hr
    by_cases c0 : k = 1
    · rw [if_pos c0] at hr
      cases hr
      rfl
    by_cases c1 : k = 4
    · rw [if_neg c0, if_pos c1] at hr
      cases hr
      rfl
    by_cases c2 : k = 3
    · rw [if_neg c0, if_neg c1, if_pos c2] at hr
      cases hr
      rfl
    rw [if_neg c0, if_neg c1, if_neg c2] at hr
    cases hr)) (fun S1 ⟨q, f1, f2⟩ => ⟨q, hc _ _ _ f1 (fun g hg h9 => by unfold ciX at h9; omega) pc, hr _ _ _ f2 (pf_rf (by decide)) pr⟩)
theorem s3_moves (hc : keepP ciX Pc) (hr : keepP rfX Pr) : stpX Pc Pr lst_moves := by
  intro S x1 x2 x3 x4 x5 h pc pr
  have hs : Te (lsV S.1 (fun K => ce_X11_moves S.1 K 0 x1 x2 S.2.1) (fun k z => if k = 1 then some (1, z) else if k = 2 then some (2, z) else none) (fun K => qe_X13_moves K x1 x2 S.2.2)) (fun S1 => REL2 S1 ∧ dPhi S.1 ≤ dPhi S1.1) := s2_moves S x1 x2 x3 x4 x5 h
  exact w_monoE (lsV_fo hs (fun K => ff_X11_moves) (fun K => ff_X13_moves) (fun k z r hr => by
    have hr : (if k = 1 then some (1, z) else if k = 2 then some (2, z) else none) = some r := hr
    by_cases c0 : k = 1
    · rw [if_pos c0] at hr
      cases hr
      rfl
    by_cases c1 : k = 2
    · rw [if_neg c0, if_pos c1] at hr
      cases hr
      rfl
    rw [if_neg c0, if_neg c1] at hr
    cases hr)) (fun S1 ⟨q, f1, f2⟩ => ⟨q, hc _ _ _ f1 (fun g hg h9 => by unfold ciX at h9; omega) pc, hr _ _ _ f2 (pf_rf (by decide)) pr⟩)
theorem s3_moved (hc : keepP ciX Pc) (hr : keepP rfX Pr) : stpX Pc Pr lst_moved := by
  intro S x1 x2 x3 x4 x5 h pc pr
  have hs : Te (lsV S.1 (fun K => ce_X11_moved S.1 K 0 x1 S.2.1) (fun k z => if k = 1 then some (1, z) else if k = 3 then some (2, z) else none) (fun K => qe_X13_moved K x1 S.2.2)) (fun S1 => REL2 S1 ∧ dPhi S.1 ≤ dPhi S1.1) := s2_moved S x1 x2 x3 x4 x5 h
  exact w_monoE (lsV_fo hs (fun K => ff_X11_moved) (fun K => ff_X13_moved) (fun k z r hr => by
    have hr : (if k = 1 then some (1, z) else if k = 3 then some (2, z) else none) = some r := hr
    by_cases c0 : k = 1
    · rw [if_pos c0] at hr
      cases hr
      rfl
    by_cases c1 : k = 3
    · rw [if_neg c0, if_pos c1] at hr
      cases hr
      rfl
    rw [if_neg c0, if_neg c1] at hr
    cases hr)) (fun S1 ⟨q, f1, f2⟩ => ⟨q, hc _ _ _ f1 (fun g hg h9 => by unfold ciX at h9; omega) pc, hr _ _ _ f2 (pf_rf (by decide)) pr⟩)
theorem s3_simplify (hc : keepP ciX Pc) (hr : keepP rfX Pr) : stpX Pc Pr lst_simplify := by
  intro S x1 x2 x3 x4 x5 h pc pr
  have hs : Te (lsV S.1 (fun K => ce_X11_simplify S.1 K 0 x1 S.2.1) (fun k z => if k = 1 then some (1, z) else if k = 3 then some (2, z) else none) (fun K => qe_X13_simplify K x1 S.2.2)) (fun S1 => REL2 S1 ∧ dPhi S.1 ≤ dPhi S1.1) := s2_simplify S x1 x2 x3 x4 x5 h
  exact w_monoE (lsV_fo hs (fun K => ff_X11_simplify) (fun K => ff_X13_simplify) (fun k z r hr => by
    have hr : (if k = 1 then some (1, z) else if k = 3 then some (2, z) else none) = some r := hr
    by_cases c0 : k = 1
    · rw [if_pos c0] at hr
      cases hr
      rfl
    by_cases c1 : k = 3
    · rw [if_neg c0, if_pos c1] at hr
      cases hr
      rfl
    rw [if_neg c0, if_neg c1] at hr
    cases hr)) (fun S1 ⟨q, f1, f2⟩ => ⟨q, hc _ _ _ f1 (fun g hg h9 => by unfold ciX at h9; omega) pc, hr _ _ _ f2 (pf_rf (by decide)) pr⟩)
theorem s3_summand (hc : keepP ciX Pc) (hr : keepP rfX Pr) : stpX Pc Pr lst_summand := by
  intro S x1 x2 x3 x4 x5 h pc pr
  have hs : Te (lsV S.1 (fun K => ce_X11_summand S.1 K 0 x1 S.2.1) (fun k z => if k = 1 then some (1, z) else if k = 3 then some (2, z) else none) (fun K => qe_X13_summand K x1 S.2.2)) (fun S1 => REL2 S1 ∧ dPhi S.1 ≤ dPhi S1.1) := s2_summand S x1 x2 x3 x4 x5 h
  exact w_monoE (lsV_fo hs (fun K => ff_X11_summand) (fun K => ff_X13_summand) (fun k z r hr => by
    have hr : (if k = 1 then some (1, z) else if k = 3 then some (2, z) else none) = some r := hr
    by_cases c0 : k = 1
    · rw [if_pos c0] at hr
      cases hr
      rfl
    by_cases c1 : k = 3
    · rw [if_neg c0, if_pos c1] at hr
      cases hr
      rfl
    rw [if_neg c0, if_neg c1] at hr
    cases hr)) (fun S1 ⟨q, f1, f2⟩ => ⟨q, hc _ _ _ f1 (fun g hg h9 => by unfold ciX at h9; omega) pc, hr _ _ _ f2 (pf_rf (by decide)) pr⟩)
theorem s3_closure (hc : keepP ciX Pc) (hr : keepP rfX Pr) : stpX Pc Pr lst_closure := by
  intro S x1 x2 x3 x4 x5 h pc pr
  have hs : Te (lsV S.1 (fun K => ce_X11_closure S.1 K 0 x1 S.2.1) (fun k z => if k = 1 then some (1, z) else if k = 4 then some (2, z) else if k = 3 then some (3, z) else none) (fun K => qe_X13_closure K x1 S.2.2)) (fun S1 => REL2 S1 ∧ dPhi S.1 ≤ dPhi S1.1) := s2_closure S x1 x2 x3 x4 x5 h
  exact w_monoE (lsV_fo hs (fun K => ff_X11_closure) (fun K => ff_X13_closure) (fun k z r hr => by
    have hr : (if k = 1 then some (1, z) else if k = 4 then some (2, z) else if k = 3 then some (3, z) else none) = some r := hr
    by_cases c0 : k = 1
    · rw [if_pos c0] at hr
      cases hr
      rfl
    by_cases c1 : k = 4
    · rw [if_neg c0, if_pos c1] at hr
      cases hr
      rfl
    by_cases c2 : k = 3
    · rw [if_neg c0, if_neg c1, if_pos c2] at hr
      cases hr
      rfl
    rw [if_neg c0, if_neg c1, if_neg c2] at hr
    cases hr)) (fun S1 ⟨q, f1, f2⟩ => ⟨q, hc _ _ _ f1 (fun g hg h9 => by unfold ciX at h9; omega) pc, hr _ _ _ f2 (pf_rf (by decide)) pr⟩)
theorem s3_product (hc : keepP ciX Pc) (hr : keepP rfX Pr) : stpX Pc Pr lst_product := by
  intro S x1 x2 x3 x4 x5 h pc pr
  have hs : Te (lsV S.1 (fun K => ce_X11_product S.1 K 0 x1 x2 S.2.1) (fun k z => if k = 1 then some (1, z) else if k = 2 then some (2, z) else if k = 4 then some (3, z) else if k = 3 then some (4, z) else none) (fun K => qe_X13_product K x1 x2 S.2.2)) (fun S1 => REL2 S1 ∧ dPhi S.1 ≤ dPhi S1.1) := s2_product S x1 x2 x3 x4 x5 h
  exact w_monoE (lsV_fo hs (fun K => ff_X11_product) (fun K => ff_X13_product) (fun k z r hr => by
    have hr : (if k = 1 then some (1, z) else if k = 2 then some (2, z) else if k = 4 then some (3, z) else if k = 3 then some (4, z) else none) = some r := hr
    by_cases c0 : k = 1
    · rw [if_pos c0] at hr
      cases hr
      rfl
    by_cases c1 : k = 2
    · rw [if_neg c0, if_pos c1] at hr
      cases hr
      rfl
    by_cases c2 : k = 4
    · rw [if_neg c0, if_neg c1, if_pos c2] at hr
      cases hr
      rfl
    by_cases c3 : k = 3
    · rw [if_neg c0, if_neg c1, if_neg c2, if_pos c3] at hr
      cases hr
      rfl
    rw [if_neg c0, if_neg c1, if_neg c2, if_neg c3] at hr
    cases hr)) (fun S1 ⟨q, f1, f2⟩ => ⟨q, hc _ _ _ f1 (fun g hg h9 => by unfold ciX at h9; omega) pc, hr _ _ _ f2 (pf_rf (by decide)) pr⟩)
theorem s3_inverse (hc : keepP ciX Pc) (hr : keepP rfX Pr) : stpX Pc Pr lst_inverse := by
  intro S x1 x2 x3 x4 x5 h pc pr
  have hs : Te (lsV S.1 (fun K => ce_X11_inverse S.1 K 0 x1 S.2.1) (fun k z => if k = 1 then some (1, z) else if k = 3 then some (2, z) else none) (fun K => qe_X13_inverse K x1 S.2.2)) (fun S1 => REL2 S1 ∧ dPhi S.1 ≤ dPhi S1.1) := s2_inverse S x1 x2 x3 x4 x5 h
  exact w_monoE (lsV_fo hs (fun K => ff_X11_inverse) (fun K => ff_X13_inverse) (fun k z r hr => by
    have hr : (if k = 1 then some (1, z) else if k = 3 then some (2, z) else none) = some r := hr
    by_cases c0 : k = 1
    · rw [if_pos c0] at hr
      cases hr
      rfl
    by_cases c1 : k = 3
    · rw [if_neg c0, if_pos c1] at hr
      cases hr
      rfl
    rw [if_neg c0, if_neg c1] at hr
    cases hr)) (fun S1 ⟨q, f1, f2⟩ => ⟨q, hc _ _ _ f1 (fun g hg h9 => by unfold ciX at h9; omega) pc, hr _ _ _ f2 (pf_rf (by decide)) pr⟩)
theorem s3_way (hc : keepP ciX Pc) (hr : keepP rfX Pr) : stpX Pc Pr lst_way := by
  intro S x1 x2 x3 x4 x5 h pc pr
  have hs : Te (lsV S.1 (fun K => ce_X11_way S.1 K 0 x1 x2 S.2.1) (fun k z => if k = 1 then some (1, z) else if k = 4 then some (2, z) else none) (fun K => qe_X13_way K x1 x2 S.2.2)) (fun S1 => REL2 S1 ∧ dPhi S.1 ≤ dPhi S1.1) := s2_way S x1 x2 x3 x4 x5 h
  exact w_monoE (lsV_fo hs (fun K => ff_X11_way) (fun K => ff_X13_way) (fun k z r hr => by
    have hr : (if k = 1 then some (1, z) else if k = 4 then some (2, z) else none) = some r := hr
    by_cases c0 : k = 1
    · rw [if_pos c0] at hr
      cases hr
      rfl
    by_cases c1 : k = 4
    · rw [if_neg c0, if_pos c1] at hr
      cases hr
      rfl
    rw [if_neg c0, if_neg c1] at hr
    cases hr)) (fun S1 ⟨q, f1, f2⟩ => ⟨q, hc _ _ _ f1 (fun g hg h9 => by unfold ciX at h9; omega) pc, hr _ _ _ f2 (pf_rf (by decide)) pr⟩)
theorem s3_summands (hc : keepP ciX Pc) (hr : keepP rfX Pr) : stpX Pc Pr lst_summands := by
  intro S x1 x2 x3 x4 x5 h pc pr
  have hs : Te (lsV S.1 (fun K => ce_X11_summands S.1 K 0 x1 S.2.1) (fun k z => if k = 1 then some (1, z) else none) (fun K => qe_X13_summands K x1 S.2.2)) (fun S1 => REL2 S1 ∧ dPhi S.1 ≤ dPhi S1.1) := s2_summands S x1 x2 x3 x4 x5 h
  exact w_monoE (lsV_fo hs (fun K => ff_X11_summands) (fun K => ff_X13_summands) (fun k z r hr => by
    have hr : (if k = 1 then some (1, z) else none) = some r := hr
    by_cases c0 : k = 1
    · rw [if_pos c0] at hr
      cases hr
      rfl
    rw [if_neg c0] at hr
    cases hr)) (fun S1 ⟨q, f1, f2⟩ => ⟨q, hc _ _ _ f1 (fun g hg h9 => by unfold ciX at h9; omega) pc, hr _ _ _ f2 (pf_rf (by decide)) pr⟩)
theorem s3_alike (hc : keepP ciX Pc) (hr : keepP rfX Pr) : stpX Pc Pr lst_alike := by
  intro S x1 x2 x3 x4 x5 h pc pr
  exact w_monoE (lsB_fo (fc := (fun K => ce_X11_alike S.1 K 0 x1 x2 S.2.1)) (fm := (fun K => qe_X13_alike K x1 x2 S.2.2)) (s2_alike S x1 x2 x3 x4 x5 h) (fun K => ff_X11_alike) (fun K => ff_X13_alike)) (fun S1 ⟨q, f1, f2⟩ => ⟨q, hc _ _ _ f1 (fun g hg => hg.elim) pc, hr _ _ _ f2 (pf_rf (by decide)) pr⟩)
theorem s3_drop (hc : keepP ciX Pc) (hr : keepP rfX Pr) : stpX Pc Pr lst_drop := by
  intro S x1 x2 x3 x4 x5 h pc pr
  exact w_monoE (lsB_fo (fc := (fun K => ce_X11_drop S.1 K 0 x1 S.2.1)) (fm := (fun K => qe_X13_drop K x1 S.2.2)) (s2_drop S x1 x2 x3 x4 x5 h) (fun K => ff_X11_drop) (fun K => ff_X13_drop)) (fun S1 ⟨q, f1, f2⟩ => ⟨q, hc _ _ _ f1 (fun g hg h9 => by unfold ciX at h9; omega) pc, hr _ _ _ f2 (pf_rf (by decide)) pr⟩)
theorem s3_dropBraid (hc : keepP ciX Pc) (hr : keepP rfX Pr) : stpX Pc Pr lst_dropBraid := by
  intro S x1 x2 x3 x4 x5 h pc pr
  exact w_monoE (lsB_fo (fc := (fun K => ce_X11_dropBraid S.1 K 0 x1 S.2.1)) (fm := (fun K => qe_X13_dropBraid K x1 S.2.2)) (s2_dropBraid S x1 x2 x3 x4 x5 h) (fun K => ff_X11_dropBraid) (fun K => ff_X13_dropBraid)) (fun S1 ⟨q, f1, f2⟩ => ⟨q, hc _ _ _ f1 (fun g hg h9 => by unfold ciX at h9; omega) pc, hr _ _ _ f2 (pf_rf (by decide)) pr⟩)
theorem s3_end (hc : keepP ciX Pc) (hr : keepP rfX Pr) : stpX Pc Pr lst_end := by
  intro S x1 x2 x3 x4 x5 h pc pr
  obtain ⟨S1, ⟨b, hb⟩, hQ⟩ := s2_end S x1 x2 x3 x4 x5 h
  refine ⟨S1, ⟨b, hb⟩, hQ, ?_⟩
  have e1 : (cs1 (le_L_end S.1 b 0 x1 S.2.1) fun v2 zc1 => cs0 (qe_X13_end b x1 S.2.2) fun zm3 => cs1 (qe_X13_thrown b zm3) fun v5 zm4 => (if v5 = v2 then some (S.1, zc1, zm4) else none)) = some S1 := hb b (Nat.le_refl _)
  cases q2 : ce_X11_end S.1 b 0 x1 S.2.1 with
  | none =>
    have hl : le_L_end S.1 b 0 x1 S.2.1 = none := by
      unfold le_L_end
      rw [q2]
      rfl
    rw [hl] at e1
    cases e1
  | some q =>
    obtain ⟨k, zc⟩ := q
    have f1 : fr (fun g => g = 0 + 11001) S.2.1 zc := ff_X11_end _ q2
    have hl : le_L_end S.1 b 0 x1 S.2.1 = if k = 0 then some (0, zc) else if k = 2 then some (1, zc) else none := by
      unfold le_L_end
      rw [q2]
      rfl
    rw [hl] at e1
    have main : ∀ a : Int32, (cs0 (qe_X13_end b x1 S.2.2) fun zm3 => cs1 (qe_X13_thrown b zm3) fun v5 zm4 => (if v5 = a then some (S.1, zc, zm4) else none)) = some S1 → Pc S1.2.1 ∧ Pr S1.2.2 := by
      intro a h9
      cases q3 : qe_X13_end b x1 S.2.2 with
      | none =>
        rw [q3] at h9
        cases h9
      | some zm =>
        rw [q3] at h9
        have f2 : fr (pf [1, 11] []) S.2.2 zm := ff_X13_end _ q3
        have h9 : (if zm.1 1 = a then some (S.1, zc, zm) else none) = some S1 := h9
        by_cases c1 : zm.1 1 = a
        · rw [if_pos c1] at h9
          cases h9
          exact ⟨hc _ _ _ f1 (fun g hg h9 => by unfold ciX at h9; omega) pc, hr _ _ _ f2 (pf_rf (by decide)) pr⟩
        · rw [if_neg c1] at h9
          cases h9
    by_cases k0 : k = 0
    · rw [if_pos k0] at e1
      exact main 0 e1
    · rw [if_neg k0] at e1
      by_cases k2 : k = 2
      · rw [if_pos k2] at e1
        exact main 1 e1
      · rw [if_neg k2] at e1
        cases e1
theorem s3_jones (hc : keepP ciX Pc) (hr : keepP rfX Pr) (hj : ∀ y y1, fr jnP y y1 → (∀ D, cOK D → slC y 25000 0 D → slC y1 25000 0 D) → Pc y → Pc y1) : stpX Pc Pr lst_jones := by
  intro S x1 x2 x3 x4 x5 h pc pr
  have hs : Te (lsV S.1 (fun K => ce_X11_jones S.1 K 0 x1 x2 S.2.1) (fun k z => if k = 1 then some (1, z) else none) (fun K => qe_X13_jones K x1 x2 S.2.2)) (fun S1 => REL2 S1 ∧ dPhi S.1 ≤ dPhi S1.1) := s2_jones S x1 x2 x3 x4 x5 h
  have hn : Te (fun K => ce_X11_jones S.1 K 0 x1 x2 S.2.1) (fun rc => Pc rc.2.2) := w_monoE (tc_jones h.1.1.2.1 h.1.2.1.2.1) (fun rc ⟨_, _, hD, _, f, _⟩ => hj _ _ f hD pc)
  obtain ⟨⟨St, k⟩, -⟩ := id h.1.1
  have hm : Te (fun K => qe_X13_jones K x1 x2 S.2.2) (fun rr => Pr rr.2) := w_monoE (te_fo (tp_jones (d := x1) (k := x2) k.1) (fun K => ff_X13_jones)) (fun rr ⟨_, f⟩ => hr _ _ _ f (pf_rf (by decide)) pr)
  exact lsV_pp hs hn hm (fun y v hy => hc (fun g => g = 52001) y _ (fr_J rfl) (fun g hg h9 => by unfold ciX at h9; omega) hy) (fun k z r hr => by
    have hr : (if k = 1 then some (1, z) else none) = some r := hr
    by_cases c0 : k = 1
    · rw [if_pos c0] at hr
      cases hr
      rfl
    rw [if_neg c0] at hr
    cases hr)
end XS7
section XS8
variable {Pc Pr : ow_MS → Prop}
def rel9 (Pc Pr : ow_MS → Prop) (S : ow_LwS) : Prop := REL2 S ∧ Pc S.2.1 ∧ Pr S.2.2
theorem st9 {f : (Nat → Nat) → Nat → Int32 → Int32 → Int32 → Int32 → Int32 → ow_MS → ow_MS → Option ow_LwS} (h : stpX Pc Pr f) (S : ow_LwS) (x1 x2 x3 x4 x5 : Int32) (hS : rel9 Pc Pr S) : Te (fun K => f S.1 K x1 x2 x3 x4 x5 S.2.1 S.2.2) (fun S1 => rel9 Pc Pr S1 ∧ dPhi S.1 ≤ dPhi S1.1) := w_monoE (h S x1 x2 x3 x4 x5 hS.1 hS.2.1 hS.2.2) (fun S1 ⟨⟨q1, q2⟩, q3⟩ => ⟨⟨q1, q3⟩, q2⟩)
end XS8
section XS9
variable {Pc Pr : ow_MS → Prop}
theorem both_init1 : ∃ z8 z0 zA z1 m1 m2 b, (∀ K, b ≤ K → ce_X8i_b8 K 24000 zeroS = some z8 ∧ ce_X0i_b0 K 41000 53001 zeroS = some z0 ∧ ce_X1i_b1 K 43000 zeroS = some zA ∧ ce_X1j_b1b K 43000 53001 (usZ zA [53]) = some z1 ∧ qe_X13_makeSimples_a K Z13 = some m1 ∧ qe_X13_makePermutations_a K m1 = some m2) ∧ REL (vl0, Zc z8 z0 z1, usZ m2 blM) ∧ (∀ g, ¬ spc g → (Zc z8 z0 z1).1 g = 0 ∧ ∀ i, (Zc z8 z0 z1).2.1 g i = 0) ∧ (∀ g, g < 73 → (usZ m2 blM).1 g = 0) ∧ ∀ g i, ¬ (73 ≤ g ∧ g ≤ 76 ∨ 97 ≤ g ∧ g ≤ 107) → (usZ m2 blM).2.1 g i = 0 := by
  obtain ⟨z8, ⟨b8, hb8⟩, k8, f8⟩ := ti_b8 (z := zeroS) (fun m i _ => rfl)
  obtain ⟨z0, ⟨b0, hb0⟩, k0, f0⟩ := ti_b0 (z := zeroS)
  obtain ⟨zA, ⟨bA, hbA⟩, kA, fA⟩ := ti_b1 (z := zeroS) (fun m i _ => rfl)
  have u53 : ∀ r, (usZ zA [53]).2.1 53001 r = 0 := fun r => by
    show (if ([53] : List Nat).contains (53001 / 1000) = true then (fun _ => 0) else zA.2.1 53001) r = 0
    rw [if_pos (by decide)]
  obtain ⟨z1, ⟨b1, hb1⟩, k1, f1⟩ := ti_b1b (z := usZ zA [53]) u53
  obtain ⟨m1, m2, ⟨c1, hc1⟩, ⟨c2, hc2⟩, hgI, hz1, hz2⟩ := ref_init2
  have uA : ∀ g, g / 1000 ≠ 53 → (usZ zA [53]).1 g = zA.1 g ∧ (usZ zA [53]).2.1 g = zA.2.1 g ∧ (usZ zA [53]).2.2 g = zA.2.2 g := fun g hg => by
    have e : ¬ ([53] : List Nat).contains (g / 1000) = true := by
      simp only [List.contains_cons, List.contains_nil, Bool.or_false, beq_iff_eq]
      exact hg
    exact ⟨if_neg e, if_neg e, if_neg e⟩
  have f1' : ∀ g, g / 1000 ≠ 53 → ¬ (45001 ≤ g ∧ g < 45012 ∨ g = 43005) → z1.1 g = 0 ∧ ∀ i, z1.2.1 g i = 0 := fun g h9 hg => by
    obtain ⟨a1, a2, -⟩ := f1 g (by omega)
    obtain ⟨a3, a4, -⟩ := uA g h9
    obtain ⟨a5, a6, -⟩ := fA g (by omega)
    rw [a1, a2, a3, a4, a5, a6]
    exact ⟨rfl, fun _ => rfl⟩
  have hY : ∀ g, ¬ spc g → (Zc z8 z0 z1).1 g = 0 ∧ ∀ i, (Zc z8 z0 z1).2.1 g i = 0 := by
    intro g hg
    unfold spc at hg
    by_cases c8 : 24 ≤ g / 1000 ∧ g / 1000 ≤ 40
    · obtain ⟨e1, e2⟩ := Zj_8 (z8 := z8) (z0 := z0) (z1 := z1) c8.1 c8.2
      rw [e1, e2, (f8 g (by omega)).1, (f8 g (by omega)).2.1]
      exact ⟨rfl, fun _ => rfl⟩
    · by_cases c0 : 41 ≤ g / 1000 ∧ g / 1000 ≤ 42
      · obtain ⟨e1, e2⟩ := Zc_z (z8 := z8) (z0 := z0) (z1 := z1) c0.1 c0.2
        rw [e1, e2, (f0 g (by omega)).1, (f0 g (by omega)).2.1]
        exact ⟨rfl, fun _ => rfl⟩
      · by_cases c1 : 43 ≤ g / 1000 ∧ g / 1000 ≤ 45
        · obtain ⟨e1, e2⟩ := Zj_1 (z8 := z8) (z0 := z0) (z1 := z1) c1.1 c1.2
          rw [e1, e2]
          exact f1' g (by omega) (by omega)
        · obtain ⟨e1, e2⟩ := Zc_n (z8 := z8) (z0 := z0) (z1 := z1) (g := g) (by omega)
          rw [e1, e2]
          exact ⟨rfl, fun _ => rfl⟩
  have n : ∀ g, g < 39001 ∨ 39025 ≤ g ∧ g < 41006 ∨ 41007 < g ∧ g < 43005 → ¬ spc g := fun g hg h9 => by unfold spc at h9; omega
  have hM := gM_0 hY
  obtain ⟨y, hy⟩ : ∃ y, y = Zc z8 z0 z1 := ⟨_, rfl⟩
  obtain ⟨w, hw⟩ : ∃ w, w = usZ m2 blM := ⟨_, rfl⟩
  have e39 : ∀ m, m < 24 → y.2.1 (39001 + m) = z8.2.1 (39001 + m) := fun m hm => by rw [hy]; exact (Zj_8 (by omega) (by omega)).2
  have e41 : ∀ g, 41000 ≤ g → g < 42000 → y.2.1 g = z0.2.1 g := fun g g1 g2 => by rw [hy]; exact (Zc_z (by omega) (by omega)).2
  have e43 : ∀ g, 43000 ≤ g → g < 46000 → y.2.1 g = z1.2.1 g := fun g g1 g2 => by rw [hy]; exact (Zj_1 (by omega) (by omega)).2
  rw [← hy] at hY hM
  rw [← hw] at hgI hz1 hz2
  have sl0 : ∀ (g s : Nat), g + 3 < 39001 → slC y g s (0, []) := fun g s hg => ⟨(hY _ (n _ (by omega))).2 s, (hY _ (n _ (by omega))).2 s, fun i a hi => (by rw [List.getElem?_nil] at hi; cases hi)⟩
  have by0 : ∀ g, g < 39001 → byR y g := fun g hg => by_0 (hY g (n g (by omega))).2
  have hrel : rel3 XR w y := by
    refine ⟨⟨fun _ => none, hgI, hM.1, fun d hd => ⟨fun _ => hz2 12 _ (by omega), fun A sg h9 => by cases h9⟩, fun d hd => ⟨fun _ => (hY 1002 (n _ (by omega))).2 d, fun A sg h9 => by cases h9⟩, fun d A sg hd h9 => by cases h9⟩, hM, ⟨0, by omega, hz1 11 (by omega), (hY 11001 (n _ (by omega))).1, fun k hk => absurd hk (Nat.not_lt_zero _)⟩, fun b hb => ⟨?_, fun h9 => absurd (hz2 96 b (by omega)) h9⟩, fun b hb => ⟨0, 0, by omega, by omega, (hY 15 (n _ (by omega))).2 b, fun h9 => absurd h9 (Nat.lt_irrefl _)⟩, ⟨[], ⟨by decide, hz1 22 (by omega), fun k A sg h9 => (by rw [List.getElem?_nil] at h9; cases h9)⟩, ⟨[], [], tbO_nil (hY 2005 (n _ (by omega))).1 (by0 2001 (by omega)), rfl, fun k A sg h9 => (by rw [List.getElem?_nil] at h9; cases h9)⟩, fun k A sg h9 => (by rw [List.getElem?_nil] at h9; cases h9)⟩, [], ⟨by decide, hz1 36 (by omega), fun k A sg h9 => (by rw [List.getElem?_nil] at h9; cases h9)⟩, ⟨[], [], tbO_nil (hY 3005 (n _ (by omega))).1 (by0 3001 (by omega)), rfl, fun k A sg h9 => (by rw [List.getElem?_nil] at h9; cases h9)⟩, fun k A sg h9 => (by rw [List.getElem?_nil] at h9; cases h9)⟩
    rw [hz2 96 b (by omega), (hY 15 (n _ (by omega))).2 b]
  have hci : CI vl0 y := by
    refine ⟨⟨by0 25001 (by omega), fun s _ => ⟨(0, []), sl0 25000 s (by omega), cOK_0⟩, 0, by omega, (hY 40008 (n _ (by omega))).1⟩, ⟨(0, []), sl0 25000 1 (by omega), cOK_0, Or.inl rfl⟩, fun m i hm hi => ?_, ⟨fun i hi => ?_, fun i hi => ?_, fun i hi => ⟨0, by omega, (hY 41009 (n _ (by omega))).2 i⟩⟩, ⟨0, by omega, (hY 41010 (n _ (by omega))).1, fun s hs => absurd hs (Nat.not_lt_zero _)⟩, fun m hm => ?_, fun i k hi hk => ?_, 640, 20000, rfl, rfl, rfl, rfl, rfl, rfl, by decide, by decide, by decide, by decide⟩
    · rw [e39 m (by omega)]
      exact k8 m i (by omega) hi
    · rw [e41 41006 (by omega) (by omega)]
      exact k0.1 i hi
    · rw [e41 41007 (by omega) (by omega)]
      exact k0.2 i hi
    · rw [e43 43005 (by omega) (by omega)]
      exact k1 m hm
    · rw [e43 (45001 + i) (by omega) (by omega), (f1 (45001 + i) (by omega)).2.1, (uA (45001 + i) (by omega)).2.1, biN_n]
      exact kA i k (by omega) hk
  have hj : jnR w := fun T1 hT => Or.inl (List.eq_nil_of_length_eq_zero (by
    have h9 := hT.2.2.1
    rw [hz2 50 0 (by omega)] at h9
    have hl := hT.1
    have := nI_inj9 (a := 0) (b := T1.length) (by omega) (by omega) h9
    omega))
  exact ⟨z8, z0, zA, z1, m1, m2, b8 + b0 + bA + b1 + c1 + c2, fun K hK => ⟨hb8 K (by omega), hb0 K (by omega), hbA K (by omega), hb1 K (by omega), hc1 K (by omega), hc2 K (by omega)⟩, by rw [← hy, ← hw]; exact ⟨⟨hrel, hci, hj⟩, hY, hz1, hz2⟩⟩
end XS9
end
