/-! nets that are built, where the first visits keep their places -/
def bm2 (v : Nat) (z : ow_MS) (n : Nat) (A : rn_L) (P : Nat → Prop) (q : Nat) : Prop := ∃ (C : List (List Nat)) (l : List Nat), C.length = q ∧ rn_At z n (C.map (List.map (vAt A))) (l.map (vAt A)) ∧ (C.flatten ++ l).Nodup ∧ (∀ j, j ∈ C.flatten ++ l ↔ P j) ∧ ∀ j, j < v → P j → (C.flatten ++ l)[j]? = some j
def bmE2 (v : Nat) (z : ow_MS) (n : Nat) (A : rn_L) (P : Nat → Prop) (q : Nat) : Prop := ∃ (C : List (List Nat)), C.length = q ∧ rn_At z n (C.map (List.map (vAt A))) [] ∧ C.flatten.Nodup ∧ (∀ j, j ∈ C.flatten ↔ P j) ∧ ∀ j, j < v → P j → C.flatten[j]? = some j
theorem bmE2.b {v : Nat} {z : ow_MS} {n q : Nat} {A : rn_L} {P : Nat → Prop} (h : bmE2 v z n A P q) : bm2 v z n A P q := by
  obtain ⟨C, h1, h2, h3, h4, h5⟩ := h
  exact ⟨C, [], h1, h2, by rw [List.append_nil]; exact h3, by rw [List.append_nil]; exact h4, by rw [List.append_nil]; exact h5⟩
theorem bm2_eq {v : Nat} {z : ow_MS} {n q : Nat} {A : rn_L} {P P2 : Nat → Prop} (h : bm2 v z n A P q) (he : ∀ j, P j ↔ P2 j) : bm2 v z n A P2 q := by
  obtain ⟨C, l, h1, h2, h3, h4, h5⟩ := h
  exact ⟨C, l, h1, h2, h3, fun j => (h4 j).trans (he j), fun j hj h9 => h5 j hj ((he j).mpr h9)⟩
theorem bmE2_eq {v : Nat} {z : ow_MS} {n q : Nat} {A : rn_L} {P P2 : Nat → Prop} (h : bmE2 v z n A P q) (he : ∀ j, P j ↔ P2 j) : bmE2 v z n A P2 q := by
  obtain ⟨C, h1, h2, h3, h4, h5⟩ := h
  exact ⟨C, h1, h2, h3, fun j => (h4 j).trans (he j), fun j hj h9 => h5 j hj ((he j).mpr h9)⟩
theorem bmE2_fr {v : Nat} {F : Nat → Prop} {z z1 : ow_MS} {n q : Nat} {A : rn_L} {P : Nat → Prop} (hf : fr F z z1) (hF : ∀ g, F g → g < n + 1 ∨ n + 5 < g) (h : bmE2 v z n A P q) : bmE2 v z1 n A P q := by
  obtain ⟨C, h1, h2, h3⟩ := h
  exact ⟨C, h1, fr_At hf hF h2, h3⟩
theorem bm2_clear {v n : Nat} {z : ow_MS} {A : rn_L} (hn : mw_net n) : Te (fun K => qe_X12_clear K n z) (fun z1 => bmE2 v z1 n A (fun _ => False) 0 ∧ fr (fun g => g = n + 1 ∨ g = n + 2 ∨ g = n + 3) z z1) := by
  refine w_monoE (tn_clear hn) (fun z1 ⟨h1, h2⟩ => ⟨⟨[], rfl, h1, List.nodup_nil, fun j => by simp, fun j _ h9 => h9.elim⟩, h2⟩)
theorem bm2_add {v n q i : Nat} {x u : Int32} {z : ow_MS} {A : rn_L} {P : Nat → Prop} (hn : mw_net n) (hV : A.flatten.length < 40) (hP : ∀ j, P j → j < A.flatten.length) (hi : ¬ P i) (hpos : i < v → ∀ j, P j ↔ j < i) (hx : x = nI (crs A i)) (hu : u = nI (uns A i)) (h : bm2 v z n A P q) : Te (fun K => qe_X12_add K n x u z) (fun z1 => bm2 v z1 n A (fun j => P j ∨ j = i) q ∧ fr (fun g => g = n + 1 ∨ g = n + 4 ∨ g = n + 5) z z1) := by
  obtain ⟨C, l, h1, h2, h3, h4, h5⟩ := h
  have hlen : (C.flatten ++ l).length ≤ A.flatten.length := by
    have := nodup_le (C.flatten ++ l) (List.range A.flatten.length) h3 (fun j hj => List.mem_range.mpr (hP j ((h4 j).mp hj)))
    rw [List.length_range] at this
    exact this
  rw [hx, hu]
  refine w_monoE (tn_add hn h2 (by rw [fl_map, ← List.map_append, List.length_map]; omega)) (fun z1 ⟨g1, g2⟩ => ⟨⟨C, l ++ [i], h1, by rw [List.map_append]; exact g1, ?_, fun j => ?_, fun j hj hPj => ?_⟩, g2⟩)
  · rw [← List.append_assoc, List.nodup_append]
    refine ⟨h3, by simp, fun a ha b hb e => hi ((h4 i).mp ?_)⟩
    have : b = i := by simpa using hb
    rw [← this, ← e]
    exact ha
  · rw [← List.append_assoc, List.mem_append, h4 j, List.mem_singleton]
  · rw [← List.append_assoc]
    rcases hPj with hPj | hPj
    · have h9 := h5 j hj hPj
      rw [List.getElem?_append_left (List.getElem?_eq_some_iff.mp h9).1]
      exact h9
    · subst hPj
      have hl : (C.flatten ++ l).length = j := by
        have := nodup_eq h3 (List.nodup_range (n := j)) (fun a => by rw [h4 a, hpos hj a, List.mem_range])
        rw [this, List.length_range]
      rw [List.getElem?_append_right (by omega), hl, Nat.sub_self]
      rfl
theorem bm2_end {v n q : Nat} {z : ow_MS} {A : rn_L} {P : Nat → Prop} (hn : mw_net n) (hq : q < 39) (h : bm2 v z n A P q) : Te (fun K => qe_X12_end K n z) (fun z1 => bmE2 v z1 n A P (q + 1) ∧ fr (fun g => g = n + 2 ∨ g = n + 3) z z1) := by
  obtain ⟨C, l, h1, h2, h3, h4, h5⟩ := h
  have e : (C ++ [l]).flatten = C.flatten ++ l := by rw [List.flatten_append]; simp
  refine w_monoE (tn_end hn h2 (by rw [List.length_map]; omega)) (fun z1 ⟨g1, g2⟩ => ⟨⟨C ++ [l], by rw [List.length_append, h1]; rfl, by rw [List.map_append]; exact g1, by rw [e]; exact h3, fun j => by rw [e]; exact h4 j, by rw [e]; exact h5⟩, g2⟩)
theorem tp_smoothIn2 {o n c v w : Nat} {z : ow_MS} {A : rn_L} (ho : mw_net o) (hn : mw_net n) (hon : n ≠ o) (hl : A.flatten.length ≤ 24) (hC : A.length ≤ 37) (hA : rn_At z o A []) (hc : c < A.length) (hv1 : rn_b A c ≤ v) (hv2 : v < rn_b A (c + 1)) (hvw : v < w) (hw : w < A.flatten.length) : Te (fun K => qe_X13_smoothIn K o (nI c) (nI v) (nI w) n z) (fun z1 => (∃ q, q ≤ A.length + 1 ∧ bmE2 v z1 n A (fun j => j < A.flatten.length ∧ j ≠ v ∧ j ≠ w) q) ∧ (∀ x, x < 40 → z1.2.1 (n + 6) x = z.2.1 (o + 6) x) ∧ fr (fun g => n + 1 ≤ g ∧ g ≤ n + 6) z z1) := by
  have hmn := net_mod hn
  have hmo := net_mod ho
  let I : ow_MS → Prop := fun y => fr (fun g => n + 1 ≤ g ∧ g ≤ n + 6) z y ∧ ∀ x, x < 40 → y.2.1 (n + 6) x = z.2.1 (o + 6) x
  let Q : ow_MS → Prop := fun z1 => (∃ q, q ≤ A.length + 1 ∧ bmE2 v z1 n A (fun j => j < A.flatten.length ∧ j ≠ v ∧ j ≠ w) q) ∧ (∀ x, x < 40 → z1.2.1 (n + 6) x = z.2.1 (o + 6) x) ∧ fr (fun g => n + 1 ≤ g ∧ g ≤ n + 6) z z1
  have atI : ∀ {y : ow_MS}, I y → rn_At y o A [] := fun hI => fr_At hI.1 (fun g hg => by omega) hA
  have cuI : ∀ {y : ow_MS} {i : Nat}, I y → i < A.flatten.length → y.2.1 (o + 4) i = nI (crs A i) ∧ y.2.1 (o + 5) i = nI (uns A i) := fun hI hi => at_cu (atI hI) hi
  have bI : ∀ {y : ow_MS} {k : Nat}, I y → k ≤ A.length → y.2.1 (o + 3) k = nI (rn_b A k) := fun hI hk => (atI hI).2.2.1 _ hk
  have addI : ∀ {y y2 : ow_MS}, I y → fr (fun g => g = n + 1 ∨ g = n + 4 ∨ g = n + 5) y y2 → I y2 := fun hI hf => ⟨fr_tr hI.1 (fr_mono (fun g hg => by omega) hf), fun x hx => by rw [(hf (n + 6) (by omega)).2.1]; exact hI.2 x hx⟩
  have endI : ∀ {y y2 : ow_MS}, I y → fr (fun g => g = n + 2 ∨ g = n + 3) y y2 → I y2 := fun hI hf => ⟨fr_tr hI.1 (fr_mono (fun g hg => by omega) hf), fun x hx => by rw [(hf (n + 6) (by omega)).2.1]; exact hI.2 x hx⟩
  have hbl := rn_b_le A (c + 1)
  have hbl2 := fun k => rn_b_le A k
  have hbl3 := hbl2 c
  obtain ⟨hJ1, hJ2, hJ3⟩ := rn_c_in A w hw
  obtain ⟨J, hJ⟩ : ∃ J, J = rn_c A w := ⟨_, rfl⟩
  rw [← hJ] at hJ1 hJ2 hJ3
  have hbJ := hbl2 (J + 1)
  have mono := fun {a b : Nat} (h9 : a ≤ b) => rn_b_mono2 (A := A) h9
  have l13 : ∀ (k i : Nat) (y : ow_MS), i + k = w → v + 1 ≤ i → I y → bm2 v y n A (fun j => j < A.flatten.length ∧ ¬ (v ≤ j ∧ j ≤ w) ∨ v < j ∧ j < i) A.length → (∀ y2, I y2 → bm2 v y2 n A (fun j => j < A.flatten.length ∧ ¬ (v ≤ j ∧ j ≤ w) ∨ v < j ∧ j < w) A.length → Tt (fun K i9 => cs0 (qe_X12_end K n y2) fun z35 => some z35) Q) → Tt (fun K i9 => q_X13_smoothIn K i9 13 (nI c) (nI v) (nI w) 1 (nI i) 0 0 o n 0 y) Q := by
    intro k
    induction k with
    | zero =>
      intro i y hi hlo hI hb hout
      have hie : i = w := by omega
      rw [hie] at hb ⊢
      refine u_X13_smoothIn_13 ?_; unfold qm_X13_smoothIn_13
      exact (w_leT (by omega) (Nat.le_refl _) (hout y hI hb))
    | succ k ih =>
      intro i y hi hlo hI hb hout
      have hil : i < A.flatten.length := by omega
      refine u_X13_smoothIn_13 ?_; unfold qm_X13_smoothIn_13
      refine (w_leF (by omega) (by omega) (w_rdI (pl4 ho) rfl (by omega) (cuI hI hil).1 (w_rdI (pl5 ho) rfl (by omega) (cuI hI hil).2 (w_cs0 (bm2_add hn (by omega) (fun j hj => by omega) (by omega) (fun hv9 j => by omega) rfl rfl hb) (fun y2 ⟨g1, g2⟩ => ?_)))))
      rw [nI_1]
      exact ih (i + 1) y2 (by omega) (by omega) (addI hI g2) (bm2_eq g1 (fun j => by omega)) hout
  have fin1 : ∀ y, I y → bmE2 v y n A (fun j => j < A.flatten.length ∧ ¬ (v ≤ j ∧ j ≤ w)) A.length → Tt (fun K i9 => q_X13_smoothIn K i9 13 (nI c) (nI v) (nI w) 1 (nI (v + 1)) 0 0 o n 0 y) Q := by
    intro y hI hb
    refine l13 (w - (v + 1)) (v + 1) y (by omega) (Nat.le_refl _) hI (bm2_eq hb.b (fun j => by omega)) (fun y2 hI2 hb2 => w_cs0 (bm2_end hn (by omega) hb2) (fun y3 ⟨g1, g2⟩ => w_some ⟨⟨A.length + 1, Nat.le_refl _, bmE2_eq g1 (fun j => by omega)⟩, (endI hI2 g2).2, (endI hI2 g2).1⟩))
  -- a component as it is
  have l11 : ∀ (x5 : Int32) (m q : Nat) (D : Nat → Prop), m < A.length → q < 39 → (∀ j, D j → j < A.flatten.length ∧ ¬ (rn_b A m ≤ j ∧ j < rn_b A (m + 1))) → (rn_b A m < v → ∀ j, D j ↔ j < rn_b A m) → (∀ y2, I y2 → bmE2 v y2 n A (fun j => D j ∨ rn_b A m ≤ j ∧ j < rn_b A (m + 1)) (q + 1) → Tt (fun K i9 => q_X13_smoothIn K i9 12 (nI c) (nI v) (nI w) x5 (nI m) 0 0 o n 0 y2) Q) → ∀ (k i : Nat) (y : ow_MS), i + k = rn_b A (m + 1) → rn_b A m ≤ i → I y → bm2 v y n A (fun j => D j ∨ rn_b A m ≤ j ∧ j < i) q → Tt (fun K i9 => q_X13_smoothIn K i9 11 (nI c) (nI v) (nI w) x5 (nI m) (nI i) 0 o n 0 y) Q := by
    intro x5 m q D hm hq hD hDp hout k
    have hbm := hbl2 (m + 1)
    induction k with
    | zero =>
      intro i y hi hlo hI hb
      have hie : i = rn_b A (m + 1) := by omega
      rw [hie] at hb ⊢
      refine u_X13_smoothIn_11 ?_; unfold qm_X13_smoothIn_11
      rw [nI_1]
      exact w_rdI (pl3 ho) rfl (by omega) (bI hI (by omega)) (w_leT (by omega) (Nat.le_refl _) (w_cs0 (bm2_end hn hq hb) (fun y2 ⟨g1, g2⟩ => hout y2 (endI hI g2) g1)))
    | succ k ih =>
      intro i y hi hlo hI hb
      have hil : i < A.flatten.length := by omega
      refine u_X13_smoothIn_11 ?_; unfold qm_X13_smoothIn_11
      rw [nI_1]
      refine w_rdI (pl3 ho) rfl (by omega) (bI hI (by omega)) (w_leF (by omega) (by omega) (w_rdI (pl4 ho) rfl (by omega) (cuI hI hil).1 (w_rdI (pl5 ho) rfl (by omega) (cuI hI hil).2 (w_cs0 (bm2_add hn (by omega) (fun j hj => ?_) (fun h9 => ?_) (fun hv9 j => ?_) rfl rfl hb) (fun y2 ⟨g1, g2⟩ => ?_)))))
      · rcases hj with hj | hj
        · exact (hD j hj).1
        · omega
      · rcases h9 with h9 | h9
        · exact (hD i h9).2 ⟨by omega, by omega⟩
        · omega
      · have := hDp (by omega) j
        constructor
        · rintro (h8 | h8)
          · have := this.mp h8
            omega
          · omega
        · intro h8
          by_cases h7 : j < rn_b A m
          · exact Or.inl (this.mpr h7)
          · exact Or.inr (by omega)
      · rw [nI_1]
        refine ih (i + 1) y2 (by omega) (by omega) (addI hI g2) (bm2_eq g1 (fun j => ?_))
        constructor
        · rintro ((h9 | h9) | h9)
          · exact Or.inl h9
          · exact Or.inr (by omega)
          · exact Or.inr (by omega)
        · rintro (h9 | h9)
          · exact Or.inl (Or.inl h9)
          · by_cases hji : j = i
            · exact Or.inr hji
            · exact Or.inl (Or.inr (by omega))
  have c10 : ∀ (x5 : Int32) (m q : Nat) (D : Nat → Prop) (y : ow_MS), m < A.length → q < 39 → (∀ j, D j → j < A.flatten.length ∧ ¬ (rn_b A m ≤ j ∧ j < rn_b A (m + 1))) → (rn_b A m < v → ∀ j, D j ↔ j < rn_b A m) → (∀ y2, I y2 → bmE2 v y2 n A (fun j => D j ∨ rn_b A m ≤ j ∧ j < rn_b A (m + 1)) (q + 1) → Tt (fun K i9 => q_X13_smoothIn K i9 12 (nI c) (nI v) (nI w) x5 (nI m) 0 0 o n 0 y2) Q) → I y → bmE2 v y n A D q → Tt (fun K i9 => q_X13_smoothIn K i9 10 (nI c) (nI v) (nI w) x5 (nI m) 0 0 o n 0 y) Q := by
    intro x5 m q D y hm hq hD hDp hout hI hb
    have hmm := rn_b_mono A m
    refine u_X13_smoothIn_10 ?_; unfold qm_X13_smoothIn_10
    refine w_rdI (pl3 ho) rfl (by omega) (bI hI (by omega)) (l11 x5 m q D hm hq hD hDp hout (rn_b A (m + 1) - rn_b A m) (rn_b A m) y (by omega) (Nat.le_refl _) hI (bm2_eq hb.b (fun j => ?_)))
    constructor
    · exact Or.inl
    · rintro (h9 | h9)
      · exact h9
      · omega
  by_cases hone : w < rn_b A (c + 1)
  · -- both visits in one component
    have aft : ∀ (k m : Nat) (y : ow_MS), m + k = A.length → c < m → I y → bmE2 v y n A (fun j => j < rn_b A m ∧ ¬ (v ≤ j ∧ j ≤ w)) m → Tt (fun K i9 => q_X13_smoothIn K i9 2 (nI c) (nI v) (nI w) 1 (nI m) 0 0 o n 0 y) Q := by
      intro k
      induction k with
      | zero =>
        intro m y hm hcm hI hb
        have hme : m = A.length := by omega
        rw [hme, rn_b_len] at hb
        refine u_X13_smoothIn_2 ?_; unfold qm_X13_smoothIn_2
        rw [nI_1 v]
        exact w_rdF (atI hI).2.1 (w_leT (by omega) (by omega) (w_ifF (by decide) (fin1 y hI hb)))
      | succ k ih =>
        intro m y hm hcm hI hb
        have m1 := mono (a := c + 1) (b := m) (by omega)
        have m2 := rn_b_mono A m
        have m3 := hbl2 (m + 1)
        refine u_X13_smoothIn_2 ?_; unfold qm_X13_smoothIn_2
        rw [nI_1 v]
        refine w_rdF (atI hI).2.1 (w_leF (by omega) (by omega) (w_ifF (fun e => by have := (nI_eq (by omega) (by omega)).mp e; omega) (w_ifF (by decide) (c10 1 m m _ y (by omega) (by omega) (fun j hj => by omega) (fun hv9 j => by omega) (fun y2 hI2 hb2 => ?_) hI hb))))
        refine u_X13_smoothIn_12 ?_; unfold qm_X13_smoothIn_12
        rw [nI_1]
        exact ih (m + 1) y2 (by omega) (by omega) hI2 (bmE2_eq hb2 (fun j => by omega))
    have l4 : ∀ (k i : Nat) (y : ow_MS), i + k = rn_b A (c + 1) → w + 1 ≤ i → I y → bm2 v y n A (fun j => j < v ∨ w < j ∧ j < i) c → (∀ y2, I y2 → bm2 v y2 n A (fun j => j < v ∨ w < j ∧ j < rn_b A (c + 1)) c → Tt (fun K i9 => q_X13_smoothIn K i9 9 (nI c) (nI v) (nI w) 1 (nI c) (nI (rn_b A (c + 1))) 0 o n 0 y2) Q) → Tt (fun K i9 => q_X13_smoothIn K i9 4 (nI c) (nI v) (nI w) 1 (nI c) (nI i) 0 o n 0 y) Q := by
      intro k
      induction k with
      | zero =>
        intro i y hi hlo hI hb hout
        have hie : i = rn_b A (c + 1) := by omega
        rw [hie] at hb ⊢
        refine u_X13_smoothIn_4 ?_; unfold qm_X13_smoothIn_4
        exact w_rdI (pl3 ho) (nI_1 _) (by omega) (bI hI (by omega)) (w_leT (by omega) (Nat.le_refl _) (hout y hI hb))
      | succ k ih =>
        intro i y hi hlo hI hb hout
        have hil : i < A.flatten.length := by omega
        refine u_X13_smoothIn_4 ?_; unfold qm_X13_smoothIn_4
        refine w_rdI (pl3 ho) (nI_1 _) (by omega) (bI hI (by omega)) (w_leF (by omega) (by omega) (w_rdI (pl4 ho) rfl (by omega) (cuI hI hil).1 (w_rdI (pl5 ho) rfl (by omega) (cuI hI hil).2 (w_cs0 (bm2_add hn (by omega) (fun j hj => by omega) (by omega) (fun hv9 j => by omega) rfl rfl hb) (fun y2 ⟨g1, g2⟩ => ?_)))))
        rw [nI_1]
        exact ih (i + 1) y2 (by omega) (by omega) (addI hI g2) (bm2_eq g1 (fun j => by omega)) hout
    have l3 : ∀ (k i : Nat) (y : ow_MS), i + k = v → rn_b A c ≤ i → I y → bm2 v y n A (fun j => j < i) c → (∀ y2, I y2 → bm2 v y2 n A (fun j => j < v) c → Tt (fun K i9 => q_X13_smoothIn K i9 4 (nI c) (nI v) (nI w) 1 (nI c) (nI (w + 1)) 0 o n 0 y2) Q) → Tt (fun K i9 => q_X13_smoothIn K i9 3 (nI c) (nI v) (nI w) 1 (nI c) (nI i) 0 o n 0 y) Q := by
      intro k
      induction k with
      | zero =>
        intro i y hi hlo hI hb hout
        have hie : i = v := by omega
        rw [hie] at hb ⊢
        refine u_X13_smoothIn_3 ?_; unfold qm_X13_smoothIn_3
        rw [nI_1 w]
        exact w_leT (by omega) (Nat.le_refl _) (w_ifF (by decide) (hout y hI hb))
      | succ k ih =>
        intro i y hi hlo hI hb hout
        have hil : i < A.flatten.length := by omega
        refine u_X13_smoothIn_3 ?_; unfold qm_X13_smoothIn_3
        rw [nI_1 w]
        refine (w_leF (by omega) (by omega) (w_rdI (pl4 ho) rfl (by omega) (cuI hI hil).1 (w_rdI (pl5 ho) rfl (by omega) (cuI hI hil).2 (w_cs0 (bm2_add hn (by omega) (fun j hj => by omega) (by omega) (fun hv9 j => by omega) rfl rfl hb) (fun y2 ⟨g1, g2⟩ => ?_)))))
        rw [nI_1]
        exact ih (i + 1) y2 (by omega) (by omega) (addI hI g2) (bm2_eq g1 (fun j => by omega)) hout
    have bef : ∀ (k m : Nat) (y : ow_MS), m + k = c → I y → bmE2 v y n A (fun j => j < rn_b A m) m → Tt (fun K i9 => q_X13_smoothIn K i9 2 (nI c) (nI v) (nI w) 1 (nI m) 0 0 o n 0 y) Q := by
      intro k
      induction k with
      | zero =>
        intro m y hm hI hb
        have hme : m = c := by omega
        subst hme
        refine u_X13_smoothIn_2 ?_; unfold qm_X13_smoothIn_2
        refine w_rdF (atI hI).2.1 (w_leF (by omega) (by omega) (w_ifT rfl (w_rdI (pl3 ho) rfl (by omega) (bI hI (by omega)) (l3 (v - rn_b A m) (rn_b A m) y (by omega) (Nat.le_refl _) hI hb.b (fun y2 hI2 hb2 => l4 (rn_b A (m + 1) - (w + 1)) (w + 1) y2 (by omega) (Nat.le_refl _) hI2 (bm2_eq hb2 (fun j => by omega)) (fun y3 hI3 hb3 => ?_))))))
        refine u_X13_smoothIn_9 ?_; unfold qm_X13_smoothIn_9
        refine w_cs0 (bm2_end hn (by omega) hb3) (fun y4 ⟨g1, g2⟩ => ?_)
        refine u_X13_smoothIn_12 ?_; unfold qm_X13_smoothIn_12
        rw [nI_1]
        exact aft (A.length - (m + 1)) (m + 1) y4 (by omega) (by omega) (endI hI3 g2) (bmE2_eq g1 (fun j => by omega))
      | succ k ih =>
        intro m y hm hI hb
        have m1 := mono (a := m + 1) (b := c) (by omega)
        have m2 := rn_b_mono A m
        refine u_X13_smoothIn_2 ?_; unfold qm_X13_smoothIn_2
        rw [nI_1 v]
        refine w_rdF (atI hI).2.1 (w_leF (by omega) (by omega) (w_ifF (fun e => by have := (nI_eq (by omega) (by omega)).mp e; omega) (w_ifF (by decide) (c10 1 m m _ y (by omega) (by omega) (fun j hj => by omega) (fun hv9 j => by omega) (fun y2 hI2 hb2 => ?_) hI hb))))
        refine u_X13_smoothIn_12 ?_; unfold qm_X13_smoothIn_12
        rw [nI_1]
        exact ih (m + 1) y2 (by omega) hI2 (bmE2_eq hb2 (fun j => by omega))
    refine e_X13_smoothIn ?_
    refine u_X13_smoothIn_0 ?_; unfold qm_X13_smoothIn_0
    refine w_cs0 (bm2_clear (A := A) (v := v) hn) (fun z3 ⟨b3, f3⟩ => w_cs0 (tn_signs hn ho hon) (fun z4 ⟨f4, s4⟩ => ?_))
    have hI4 : I z4 := ⟨fr_tr (fr_mono (fun g hg => by omega) f3) (fr_mono (fun g hg => by omega) f4), fun x hx => by rw [s4 x hx, (f3 (o + 6) (by omega)).2.1]⟩
    refine w_rdI (pl3 ho) (nI_1 _) (by omega) (bI hI4 (by omega)) (w_leF (by omega) hone ?_)
    refine u_X13_smoothIn_1 ?_; unfold qm_X13_smoothIn_1
    exact bef c 0 z4 (by omega) hI4 (bmE2_eq (bmE2_fr f4 (fun g hg => by omega) b3) (fun j => ⟨fun h9 => h9.elim, fun h9 => by rw [rn_b0] at h9; omega⟩))
  · -- two components become one
    have hcJ : c < J := by
      rcases Nat.lt_or_ge c J with h9 | h9
      · exact h9
      · have := mono (a := J + 1) (b := c + 1) (by omega)
        omega
    have mJ := mono (a := c + 1) (b := J) (by omega)
    have mJ2 := rn_b_mono A J
    have aft : ∀ (k m q : Nat) (y : ow_MS), m + k = A.length → c < m → q ≤ m → I y → bmE2 v y n A (fun j => (j < rn_b A m ∨ rn_b A J ≤ j ∧ j < rn_b A (J + 1)) ∧ j ≠ v ∧ j ≠ w) q → Tt (fun K i9 => q_X13_smoothIn K i9 2 (nI c) (nI v) (nI w) 0 (nI m) 0 0 o n 0 y) Q := by
      intro k
      induction k with
      | zero =>
        intro m q y hm hcm hq hI hb
        have hme : m = A.length := by omega
        rw [hme, rn_b_len] at hb
        refine u_X13_smoothIn_2 ?_; unfold qm_X13_smoothIn_2
        exact w_rdF (atI hI).2.1 (w_leT (by omega) (by omega) (w_ifT rfl (w_some ⟨⟨q, by omega, bmE2_eq hb (fun j => by omega)⟩, hI.2, hI.1⟩)))
      | succ k ih =>
        intro m q y hm hcm hq hI hb
        have m1 := mono (a := c + 1) (b := m) (by omega)
        have m2 := rn_b_mono A m
        have m3 := hbl2 (m + 1)
        have g10 : (m < J ∨ J < m) → Tt (fun K i9 => q_X13_smoothIn K i9 10 (nI c) (nI v) (nI w) 0 (nI m) 0 0 o n 0 y) Q := by
          intro hmJ
          have hdis : rn_b A (m + 1) ≤ rn_b A J ∨ rn_b A (J + 1) ≤ rn_b A m := by
            rcases hmJ with h9 | h9
            · exact Or.inl (mono (by omega))
            · exact Or.inr (mono (by omega))
          refine c10 0 m q _ y (by omega) (by omega) (fun j hj => by omega) (fun hv9 j => by omega) (fun y2 hI2 hb2 => ?_) hI hb
          refine u_X13_smoothIn_12 ?_; unfold qm_X13_smoothIn_12
          rw [nI_1]
          exact ih (m + 1) (q + 1) y2 (by omega) (by omega) (by omega) hI2 (bmE2_eq hb2 (fun j => by omega))
        refine u_X13_smoothIn_2 ?_; unfold qm_X13_smoothIn_2
        refine w_rdF (atI hI).2.1 (w_leF (by omega) (by omega) (w_ifF (fun e => by have := (nI_eq (by omega) (by omega)).mp e; omega) (w_ifT rfl (w_rdI (pl3 ho) rfl (by omega) (bI hI (by omega)) (w_lt (by omega) (by omega) (fun h9 => g10 ?_) (fun h9 => w_rdI (pl3 ho) (nI_1 _) (by omega) (bI hI (by omega)) (w_lt (by omega) (by omega) (fun h8 => ?_) (fun h8 => g10 ?_))))))))
        · rcases Nat.lt_or_ge J m with h8 | h8
          · exact Or.inr h8
          · have := mono (a := m) (b := J) h8
            omega
        · have hmJ : m = J := by
            have := rn_c_of A m w h9 h8
            rw [hJ]
            exact this.symm
          refine u_X13_smoothIn_12 ?_; unfold qm_X13_smoothIn_12
          rw [nI_1]
          rw [hmJ] at hb ⊢
          exact ih (J + 1) q y (by omega) (by omega) (by omega) hI (bmE2_eq hb (fun j => by omega))
        · rcases Nat.lt_or_ge m J with h7 | h7
          · exact Or.inl h7
          · have := mono (a := J + 1) (b := m + 1) (by omega)
            omega
    have l8 : ∀ (k i : Nat) (y : ow_MS), i + k = rn_b A (c + 1) → v + 1 ≤ i → I y → bm2 v y n A (fun j => j < v ∨ rn_b A J ≤ j ∧ j < rn_b A (J + 1) ∧ j ≠ w ∨ v < j ∧ j < i) c → (∀ y2, I y2 → bm2 v y2 n A (fun j => j < v ∨ rn_b A J ≤ j ∧ j < rn_b A (J + 1) ∧ j ≠ w ∨ v < j ∧ j < rn_b A (c + 1)) c → Tt (fun K i9 => q_X13_smoothIn K i9 9 (nI c) (nI v) (nI w) 0 (nI c) (nI J) 0 o n 0 y2) Q) → Tt (fun K i9 => q_X13_smoothIn K i9 8 (nI c) (nI v) (nI w) 0 (nI c) (nI J) (nI i) o n 0 y) Q := by
      intro k
      induction k with
      | zero =>
        intro i y hi hlo hI hb hout
        have hie : i = rn_b A (c + 1) := by omega
        rw [hie] at hb ⊢
        refine u_X13_smoothIn_8 ?_; unfold qm_X13_smoothIn_8
        exact w_rdI (pl3 ho) (nI_1 _) (by omega) (bI hI (by omega)) (w_leT (by omega) (Nat.le_refl _) (hout y hI hb))
      | succ k ih =>
        intro i y hi hlo hI hb hout
        have hil : i < A.flatten.length := by omega
        refine u_X13_smoothIn_8 ?_; unfold qm_X13_smoothIn_8
        refine w_rdI (pl3 ho) (nI_1 _) (by omega) (bI hI (by omega)) (w_leF (by omega) (by omega) (w_rdI (pl4 ho) rfl (by omega) (cuI hI hil).1 (w_rdI (pl5 ho) rfl (by omega) (cuI hI hil).2 (w_cs0 (bm2_add hn (by omega) (fun j hj => by omega) (by omega) (fun hv9 j => by omega) rfl rfl hb) (fun y2 ⟨g1, g2⟩ => ?_)))))
        rw [nI_1]
        exact ih (i + 1) y2 (by omega) (by omega) (addI hI g2) (bm2_eq g1 (fun j => by omega)) hout
    have l7 : ∀ (k i : Nat) (y : ow_MS), i + k = w → rn_b A J ≤ i → I y → bm2 v y n A (fun j => j < v ∨ w < j ∧ j < rn_b A (J + 1) ∨ rn_b A J ≤ j ∧ j < i) c → (∀ y2, I y2 → bm2 v y2 n A (fun j => j < v ∨ w < j ∧ j < rn_b A (J + 1) ∨ rn_b A J ≤ j ∧ j < w) c → Tt (fun K i9 => q_X13_smoothIn K i9 8 (nI c) (nI v) (nI w) 0 (nI c) (nI J) (nI (v + 1)) o n 0 y2) Q) → Tt (fun K i9 => q_X13_smoothIn K i9 7 (nI c) (nI v) (nI w) 0 (nI c) (nI J) (nI i) o n 0 y) Q := by
      intro k
      induction k with
      | zero =>
        intro i y hi hlo hI hb hout
        have hie : i = w := by omega
        rw [hie] at hb ⊢
        refine u_X13_smoothIn_7 ?_; unfold qm_X13_smoothIn_7
        rw [nI_1 v]
        exact (w_leT (by omega) (Nat.le_refl _) (hout y hI hb))
      | succ k ih =>
        intro i y hi hlo hI hb hout
        have hil : i < A.flatten.length := by omega
        refine u_X13_smoothIn_7 ?_; unfold qm_X13_smoothIn_7
        rw [nI_1 v]
        refine (w_leF (by omega) (by omega) (w_rdI (pl4 ho) rfl (by omega) (cuI hI hil).1 (w_rdI (pl5 ho) rfl (by omega) (cuI hI hil).2 (w_cs0 (bm2_add hn (by omega) (fun j hj => by omega) (by omega) (fun hv9 j => by omega) rfl rfl hb) (fun y2 ⟨g1, g2⟩ => ?_)))))
        rw [nI_1]
        exact ih (i + 1) y2 (by omega) (by omega) (addI hI g2) (bm2_eq g1 (fun j => by omega)) hout
    have l6 : ∀ (k i : Nat) (y : ow_MS), i + k = rn_b A (J + 1) → w + 1 ≤ i → I y → bm2 v y n A (fun j => j < v ∨ w < j ∧ j < i) c → (∀ y2, I y2 → bm2 v y2 n A (fun j => j < v ∨ w < j ∧ j < rn_b A (J + 1)) c → Tt (fun K i9 => q_X13_smoothIn K i9 7 (nI c) (nI v) (nI w) 0 (nI c) (nI J) (nI (rn_b A J)) o n 0 y2) Q) → Tt (fun K i9 => q_X13_smoothIn K i9 6 (nI c) (nI v) (nI w) 0 (nI c) (nI J) (nI i) o n 0 y) Q := by
      intro k
      induction k with
      | zero =>
        intro i y hi hlo hI hb hout
        have hie : i = rn_b A (J + 1) := by omega
        rw [hie] at hb ⊢
        refine u_X13_smoothIn_6 ?_; unfold qm_X13_smoothIn_6
        exact w_rdI (pl3 ho) (nI_1 _) (by omega) (bI hI (by omega)) (w_leT (by omega) (Nat.le_refl _) (w_rdI (pl3 ho) rfl (by omega) (bI hI (by omega)) (hout y hI hb)))
      | succ k ih =>
        intro i y hi hlo hI hb hout
        have hil : i < A.flatten.length := by omega
        refine u_X13_smoothIn_6 ?_; unfold qm_X13_smoothIn_6
        refine w_rdI (pl3 ho) (nI_1 _) (by omega) (bI hI (by omega)) (w_leF (by omega) (by omega) (w_rdI (pl4 ho) rfl (by omega) (cuI hI hil).1 (w_rdI (pl5 ho) rfl (by omega) (cuI hI hil).2 (w_cs0 (bm2_add hn (by omega) (fun j hj => by omega) (by omega) (fun hv9 j => by omega) rfl rfl hb) (fun y2 ⟨g1, g2⟩ => ?_)))))
        rw [nI_1]
        exact ih (i + 1) y2 (by omega) (by omega) (addI hI g2) (bm2_eq g1 (fun j => by omega)) hout
    have l3 : ∀ (k i : Nat) (y : ow_MS), i + k = v → rn_b A c ≤ i → I y → bm2 v y n A (fun j => j < i) c → (∀ y2, I y2 → bm2 v y2 n A (fun j => j < v) c → Tt (fun K i9 => q_X13_smoothIn K i9 5 (nI c) (nI v) (nI w) 0 (nI c) 0 0 o n 0 y2) Q) → Tt (fun K i9 => q_X13_smoothIn K i9 3 (nI c) (nI v) (nI w) 0 (nI c) (nI i) 0 o n 0 y) Q := by
      intro k
      induction k with
      | zero =>
        intro i y hi hlo hI hb hout
        have hie : i = v := by omega
        rw [hie] at hb ⊢
        refine u_X13_smoothIn_3 ?_; unfold qm_X13_smoothIn_3
        exact w_leT (by omega) (Nat.le_refl _) (w_ifT rfl (hout y hI hb))
      | succ k ih =>
        intro i y hi hlo hI hb hout
        have hil : i < A.flatten.length := by omega
        refine u_X13_smoothIn_3 ?_; unfold qm_X13_smoothIn_3
        refine (w_leF (by omega) (by omega) (w_rdI (pl4 ho) rfl (by omega) (cuI hI hil).1 (w_rdI (pl5 ho) rfl (by omega) (cuI hI hil).2 (w_cs0 (bm2_add hn (by omega) (fun j hj => by omega) (by omega) (fun hv9 j => by omega) rfl rfl hb) (fun y2 ⟨g1, g2⟩ => ?_)))))
        rw [nI_1]
        exact ih (i + 1) y2 (by omega) (by omega) (addI hI g2) (bm2_eq g1 (fun j => by omega)) hout
    have mid : ∀ y, I y → bm2 v y n A (fun j => j < v) c → Tt (fun K i9 => q_X13_smoothIn K i9 6 (nI c) (nI v) (nI w) 0 (nI c) (nI J) (nI (w + 1)) o n 0 y) Q := by
      intro y hI hb
      refine l6 (rn_b A (J + 1) - (w + 1)) (w + 1) y (by omega) (Nat.le_refl _) hI (bm2_eq hb (fun j => by omega)) (fun y2 hI2 hb2 => l7 (w - rn_b A J) (rn_b A J) y2 (by omega) (Nat.le_refl _) hI2 (bm2_eq hb2 (fun j => by omega)) (fun y3 hI3 hb3 => l8 (rn_b A (c + 1) - (v + 1)) (v + 1) y3 (by omega) (Nat.le_refl _) hI3 (bm2_eq hb3 (fun j => by omega)) (fun y4 hI4 hb4 => ?_)))
      refine u_X13_smoothIn_9 ?_; unfold qm_X13_smoothIn_9
      refine w_cs0 (bm2_end hn (by omega) hb4) (fun y5 ⟨g1, g2⟩ => ?_)
      refine u_X13_smoothIn_12 ?_; unfold qm_X13_smoothIn_12
      rw [nI_1]
      exact aft (A.length - (c + 1)) (c + 1) (c + 1) y5 (by omega) (by omega) (Nat.le_refl _) (endI hI4 g2) (bmE2_eq g1 (fun j => by omega))
    have l5 : ∀ (k m : Nat) (y : ow_MS), m + k = J → I y → bm2 v y n A (fun j => j < v) c → Tt (fun K i9 => q_X13_smoothIn K i9 5 (nI c) (nI v) (nI w) 0 (nI c) (nI m) 0 o n 0 y) Q := by
      intro k
      induction k with
      | zero =>
        intro m y hm hI hb
        have hme : m = J := by omega
        rw [hme]
        refine u_X13_smoothIn_5 ?_; unfold qm_X13_smoothIn_5
        rw [nI_1 w]
        exact w_rdI (pl3 ho) (nI_1 _) (by omega) (bI hI (by omega)) (w_ltT (by omega) hJ3 (mid y hI hb))
      | succ k ih =>
        intro m y hm hI hb
        have m1 := mono (a := m + 1) (b := J) (by omega)
        refine u_X13_smoothIn_5 ?_; unfold qm_X13_smoothIn_5
        refine w_rdI (pl3 ho) (nI_1 _) (by omega) (bI hI (by omega)) (w_ltF (by omega) (by omega) ?_)
        rw [nI_1]
        exact ih (m + 1) y (by omega) hI hb
    have bef : ∀ (k m : Nat) (y : ow_MS), m + k = c → I y → bmE2 v y n A (fun j => j < rn_b A m) m → Tt (fun K i9 => q_X13_smoothIn K i9 2 (nI c) (nI v) (nI w) 0 (nI m) 0 0 o n 0 y) Q := by
      intro k
      induction k with
      | zero =>
        intro m y hm hI hb
        have hme : m = c := by omega
        subst hme
        refine u_X13_smoothIn_2 ?_; unfold qm_X13_smoothIn_2
        exact w_rdF (atI hI).2.1 (w_leF (by omega) (by omega) (w_ifT rfl (w_rdI (pl3 ho) rfl (by omega) (bI hI (by omega)) (l3 (v - rn_b A m) (rn_b A m) y (by omega) (Nat.le_refl _) hI hb.b (fun y2 hI2 hb2 => l5 J 0 y2 (by omega) hI2 hb2)))))
      | succ k ih =>
        intro m y hm hI hb
        have m1 := mono (a := m + 1) (b := c) (by omega)
        have m2 := rn_b_mono A m
        have m3 := mono (a := m + 1) (b := J) (by omega)
        refine u_X13_smoothIn_2 ?_; unfold qm_X13_smoothIn_2
        have g10 : Tt (fun K i9 => q_X13_smoothIn K i9 10 (nI c) (nI v) (nI w) 0 (nI m) 0 0 o n 0 y) Q := by
          refine c10 0 m m _ y (by omega) (by omega) (fun j hj => by omega) (fun hv9 j => by omega) (fun y2 hI2 hb2 => ?_) hI hb
          refine u_X13_smoothIn_12 ?_; unfold qm_X13_smoothIn_12
          rw [nI_1]
          exact ih (m + 1) y2 (by omega) hI2 (bmE2_eq hb2 (fun j => by omega))
        exact w_rdF (atI hI).2.1 (w_leF (by omega) (by omega) (w_ifF (fun e => by have := (nI_eq (by omega) (by omega)).mp e; omega) (w_ifT rfl (w_rdI (pl3 ho) rfl (by omega) (bI hI (by omega)) (w_lt (by omega) (by omega) (fun _ => g10) (fun _ => w_rdI (pl3 ho) (nI_1 _) (by omega) (bI hI (by omega)) (w_lt (by omega) (by omega) (fun h8 => by omega) (fun _ => g10))))))))
    refine e_X13_smoothIn ?_
    refine u_X13_smoothIn_0 ?_; unfold qm_X13_smoothIn_0
    refine w_cs0 (bm2_clear (A := A) (v := v) hn) (fun z3 ⟨b3, f3⟩ => w_cs0 (tn_signs hn ho hon) (fun z4 ⟨f4, s4⟩ => ?_))
    have hI4 : I z4 := ⟨fr_tr (fr_mono (fun g hg => by omega) f3) (fr_mono (fun g hg => by omega) f4), fun x hx => by rw [s4 x hx, (f3 (o + 6) (by omega)).2.1]⟩
    refine w_rdI (pl3 ho) (nI_1 _) (by omega) (bI hI4 (by omega)) (w_leT (by omega) (by omega) ?_)
    refine u_X13_smoothIn_1 ?_; unfold qm_X13_smoothIn_1
    exact bef c 0 z4 (by omega) hI4 (bmE2_eq (bmE2_fr f4 (fun g hg => by omega) b3) (fun j => ⟨fun h9 => h9.elim, fun h9 => by rw [rn_b0] at h9; omega⟩))
