/-! one step of parting, on rows -/
section XSY
variable {A : rn_L} {sg : Nat → Bool} {σ : Nat → Bool} {f : Nat → Nat} {T R : ow_NT} {c g k : Nat} {D : List ptT} {m : Nat → Nat} {P : Nat}
theorem wl_to {u : Nat} (hu : u < (wfW A σ A.length).flatten.length) : ∃ j, j < A.flatten.length ∧ σ j = true ∧ lbv (wfW A σ A.length) f u = lbv A f j := by
  obtain ⟨j, j1, j2, j3⟩ := wfW_el (vAt_mem hu)
  refine ⟨j, j1, j2, ?_⟩
  show gl f (vAt (wfW A σ A.length) u) = gl f (vAt A j)
  rw [j3]
theorem wl_of {j : Nat} (h1 : j < A.flatten.length) (h2 : σ j = true) : ∃ u, u < (wfW A σ A.length).flatten.length ∧ lbv (wfW A σ A.length) f u = lbv A f j := by
  obtain ⟨u, u1, u2⟩ := mem_vAt (wfW_le h1 h2)
  refine ⟨u, u1, ?_⟩
  show gl f (vAt (wfW A σ A.length) u) = gl f (vAt A j)
  rw [u2]
theorem wf_ne {L : List vT} (h : L ∈ wfW A σ A.length) : L ≠ [] := by
  obtain ⟨r, r1, r2, r3⟩ := wfW_in _ h
  rw [r2]
  exact fun e => r3 (List.map_eq_nil_iff.mp e)
/-- a chosen piece that is one part has its row -/
theorem piece (hE : emN (wfW A σ A.length) sg f R) (hv : vn R.1 R.2.2.1) (h6 : A.length ≤ 6) {w0 : Nat} (hw0 : w0 < A.flatten.length) (hs0 : σ w0 = true) (hcn : ∀ u v, u < A.flatten.length → v < A.flatten.length → σ u = true → σ v = true → ptN R.1 R.2.2.1.1 (lbv A f u) (lbv A f v)) (hk : mk (wfW A σ A.length) m P) : ∃ d : ptT, pkR (wfW A σ A.length) sg m P = tk d.2.1 d.1 ∧ rowO R d ∧ ∀ j, inD d j ↔ ∃ i, i < A.flatten.length ∧ σ i = true ∧ lbv A f i = j := by
  have hc : cnA (wfW A σ A.length) f R := by
    refine ⟨List.ne_nil_of_mem (wfW_le hw0 hs0), fun u v hu hv9 => ?_⟩
    obtain ⟨a, a1, a2, a3⟩ := wl_to (f := f) hu
    obtain ⟨b, b1, b2, b3⟩ := wl_to (f := f) hv9
    rw [a3, b3]
    exact hcn a b a1 b1 a2 b2
  have hl6 : (wfW A σ A.length).length ≤ 6 := by
    have := wfI_n (A := A) (σ := σ) A.length
    unfold wfW
    rw [List.length_map]
    omega
  obtain ⟨A', sg', g', e1, e2, e3, e4, e5, e6, e7⟩ := em_row hE hv hc (fun L hL => wf_ne hL) hl6 hk
  have h2 := hE.2.1
  have h12 := hE.2.2.1
  refine ⟨(A', sg', g'), e1, ⟨e4, e5, e6, ⟨_, e2, by omega⟩, by show A'.length ≤ 6; omega⟩, fun j => ⟨?_, ?_⟩⟩
  · rintro ⟨v, v1, v2⟩
    obtain ⟨w, w1, w2⟩ := e7 v v1
    obtain ⟨i, i1, i2, i3⟩ := wl_to (f := f) w1
    exact ⟨i, i1, i2, by rw [← i3, ← w2]; exact v2⟩
  · rintro ⟨i, i1, i2, i3⟩
    have hl : 0 < A'.flatten.length := List.length_pos_iff.mpr e5.1
    obtain ⟨w, w1, w2⟩ := e7 0 hl
    obtain ⟨a, a1, a2, a3⟩ := wl_to (f := f) w1
    obtain ⟨v, v1, v2, _⟩ := em_lab e4 hv (q := fun _ => 0) (fun _ _ => rfl) (fun _ _ => rfl) hl (j := j) (by
      rw [w2, a3, ← i3]
      exact hcn a i a1 i1 a2 i2)
    exact ⟨v, v1, v2⟩
/-- a row is parted -/
theorem prt_step (hD : prtD T ((A, sg, f) :: D)) (hv : vn T.1 T.2.2.1) (hc : c < A.length) (hg1 : rn_b A c ≤ g) (hgh : g < k) (hh : k < rn_b A (c + 1)) (hs : prS A c g k σ) {m' : Nat → Nat} {P' : Nat} (hk : mk (wfW A σ A.length) m P) (hk' : mk (wfW A (fun v => !σ v) A.length) m' P') : prN T.1 T.2.2.1.1 (lbv A f g) (lbv A f k) ∧ ∃ d1 d2 : ptT, pkR (wfW A σ A.length) sg m P = tk d1.2.1 d1.1 ∧ pkR (wfW A (fun v => !σ v) A.length) sg m' P' = tk d2.2.1 d2.1 ∧ prtD (ntS T (np_exchange T.2.2.1 (lbv A f g) (lbv A f k))) (d1 :: d2 :: D) := by
  obtain ⟨hr, hcov, hpw⟩ := hD
  obtain ⟨h1, h2, h3, h4, h5⟩ := hr _ (List.mem_cons_self ..)
  have h1 : emN A sg f T := h1
  have h2 : cnA A f T := h2
  have h5 : A.length ≤ 6 := h5
  have hd := wkF_ok h1.1
  have hle := rn_b_le A (c + 1)
  have gl' : g < A.flatten.length := by omega
  have kl : k < A.flatten.length := by omega
  have hs' := prS_not hs hd
  have hv' : vn T.1 (np_exchange T.2.2.1 (lbv A f g) (lbv A f k)) := vn_exchange hv (em_lt h1 gl') (em_lt h1 kl)
  have ex1 : ∃ w, w < A.flatten.length ∧ σ w = true := by
    rcases hs.1 with q | q
    · exact ⟨k, kl, (q k (by omega) hh).mpr ⟨hgh, Nat.le_refl _⟩⟩
    · exact ⟨g, gl', (q g hg1 (by omega)).mpr (by omega)⟩
  have ex2 : ∃ w, w < A.flatten.length ∧ (!σ w) = true := by
    rcases hs'.1 with q | q
    · exact ⟨k, kl, (q k (by omega) hh).mpr ⟨hgh, Nat.le_refl _⟩⟩
    · exact ⟨g, gl', (q g hg1 (by omega)).mpr (by omega)⟩
  obtain ⟨w1, w11, w12⟩ := ex1
  obtain ⟨w2, w21, w22⟩ := ex2
  obtain ⟨d1, a1, a2, a3⟩ := piece (R := ntS T (np_exchange T.2.2.1 (lbv A f g) (lbv A f k))) (em_prt h1 hc hg1 hgh hh hs) hv' h5 w11 w12 (fun u v hu hv9 e1 e2 => cn_prt h1 hv h2 hc hg1 hgh hh hs hu hv9 (e1.trans e2.symm)) hk
  obtain ⟨d2, b1, b2, b3⟩ := piece (σ := fun v => !σ v) (R := ntS T (np_exchange T.2.2.1 (lbv A f g) (lbv A f k))) (em_prt h1 hc hg1 hgh hh hs') hv' h5 w21 w22 (fun u v hu hv9 e1 e2 => cn_prt h1 hv h2 hc hg1 hgh hh hs' hu hv9 (e1.trans e2.symm)) hk'
  have pw := List.pairwise_cons.mp hpw
  have i1 : ∀ j, inD d1 j → inD (A, sg, f) j := fun j hj => by
    obtain ⟨i, x1, _, x3⟩ := (a3 j).mp hj
    exact ⟨i, x1, x3⟩
  have i2 : ∀ j, inD d2 j → inD (A, sg, f) j := fun j hj => by
    obtain ⟨i, x1, _, x3⟩ := (b3 j).mp hj
    exact ⟨i, x1, x3⟩
  refine ⟨pr_of h1 hv hc hg1 hgh hh hs, d1, d2, a1, b1, fun d hd9 => ?_, fun j hj => ?_, ?_⟩
  · rcases List.mem_cons.mp hd9 with e | hd9
    · rw [e]
      exact a2
    · rcases List.mem_cons.mp hd9 with e | hd9
      · rw [e]
        exact b2
      · exact row_keep (hr d (List.mem_cons_of_mem _ hd9)) hv (pw.1 d hd9 _ ⟨g, gl', rfl⟩) (pw.1 d hd9 _ ⟨k, kl, rfl⟩)
  · obtain ⟨d, x1, x2⟩ := hcov j hj
    rcases List.mem_cons.mp x1 with e | x1
    · rw [e] at x2
      obtain ⟨i, y1, y2⟩ := x2
      have y1 : i < A.flatten.length := y1
      have y2 : lbv A f i = j := y2
      cases e9 : σ i with
      | true => exact ⟨d1, List.mem_cons_self .., (a3 j).mpr ⟨i, y1, e9, y2⟩⟩
      | false => exact ⟨d2, List.mem_cons_of_mem _ (List.mem_cons_self ..), (b3 j).mpr ⟨i, y1, by rw [e9]; rfl, y2⟩⟩
    · exact ⟨d, List.mem_cons_of_mem _ (List.mem_cons_of_mem _ x1), x2⟩
  · refine List.pairwise_cons.mpr ⟨fun d hd9 j hj hj2 => ?_, List.pairwise_cons.mpr ⟨fun d hd9 j hj hj2 => pw.1 d hd9 j (i2 j hj) hj2, pw.2⟩⟩
    rcases List.mem_cons.mp hd9 with e | hd9
    · rw [e] at hj2
      obtain ⟨i, x1, x2, x3⟩ := (a3 j).mp hj
      obtain ⟨l, y1, y2, y3⟩ := (b3 j).mp hj2
      have := em_inj h1 x1 y1 (x3.trans y3.symm)
      rw [← this, x2] at y2
      exact absurd y2 (by decide)
    · exact pw.1 d hd9 j (i1 j hj) hj2
/-- when no row can be parted, the net can't -/
theorem prt_end (hD : prtD T D) (hv : vn T.1 T.2.2.1) (hi : ∀ d, d ∈ D → irA d.1) : irN T.1 T.2.2.1.1 := by
  intro v w hp
  obtain ⟨d, d1, a, a1, a2⟩ := hD.2.1 v hp.1
  have h1 := (hD.1 d d1).1
  have run : ∀ i, ∃ b, b < d.1.flatten.length ∧ it T.2.2.1.1 i (lbv d.1 d.2.2 a) = lbv d.1 d.2.2 b ∧ rn_c d.1 b = rn_c d.1 a := by
    intro i
    induction i with
    | zero => exact ⟨a, a1, rfl, rfl⟩
    | succ i ih =>
      obtain ⟨b, b1, b2, b3⟩ := ih
      refine ⟨rn_nx d.1 b, rnx_lt b1, ?_, by rw [c_nx b1]; exact b3⟩
      show T.2.2.1.1 (it T.2.2.1.1 i (lbv d.1 d.2.2 a)) = _
      rw [b2]
      exact h1.2.2.2.2.2.1 b b1
  have key : ∀ a b, a < b → a < d.1.flatten.length → b < d.1.flatten.length → rn_c d.1 b = rn_c d.1 a → ¬ prN T.1 T.2.2.1.1 (lbv d.1 d.2.2 a) (lbv d.1 d.2.2 b) := fun a b hab ha hb e => by
    obtain ⟨q1, q2, q3⟩ := rn_c_in d.1 a ha
    obtain ⟨r1, r2, r3⟩ := rn_c_in d.1 b hb
    rw [e] at r3
    exact pr_no h1 q1 q2 hab r3 (hi d d1 _ a b q1 q2 hab r3)
  obtain ⟨i, i1⟩ := hp.2.2.2.1
  obtain ⟨b, b1, b2, b3⟩ := run i
  rw [a2, i1] at b2
  have ne := hp.2.2.1
  rcases Nat.lt_trichotomy a b with q | q | q
  · refine key a b q a1 b1 b3 ?_
    rw [a2, ← b2]
    exact hp
  · rw [b2, ← q, a2] at ne
    exact ne rfl
  · refine key b a q b1 a1 b3.symm ?_
    rw [a2, ← b2]
    exact pr_sy (bj_vn hv) hp
end XSY
