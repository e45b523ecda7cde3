/-! read, diagram -/
def hb (F : List (Nat × Nat)) (k : Nat) : Nat := (if (k, 0) ∈ F then 1 else 0) + if (k, 1) ∈ F then 2 else 0
theorem hb_lt {F : List (Nat × Nat)} {k : Nat} : hb F k < 4 := by
  unfold hb
  by_cases h1 : (k, 0) ∈ F <;> by_cases h2 : (k, 1) ∈ F <;> simp [h1, h2]
theorem hb_and {F : List (Nat × Nat)} {k u : Nat} (hu : u < 2) : (nI (hb F k) &&& (1 + nI u) = 0) ↔ (k, u) ∉ F := by
  have h0 : u = 0 ∨ u = 1 := by omega
  unfold hb
  rcases h0 with h0 | h0 <;> subst h0 <;> by_cases h1 : (k, 0) ∈ F <;> by_cases h2 : (k, 1) ∈ F <;> simp only [h1, h2, if_true, if_false, not_true, not_false_iff] <;> decide
theorem hb_or {F : List (Nat × Nat)} {k u : Nat} (hu : u < 2) (hn : (k, u) ∉ F) : nI (hb F k) ||| (1 + nI u) = nI (hb (F ++ [(k, u)]) k) := by
  have h0 : u = 0 ∨ u = 1 := by omega
  unfold hb
  rcases h0 with h0 | h0 <;> subst h0 <;> by_cases h1 : (k, 0) ∈ F <;> by_cases h2 : (k, 1) ∈ F <;> simp only [List.mem_append, List.mem_singleton, Prod.mk.injEq, true_and, h1, h2, if_true, if_false, or_true, or_false, true_or, false_or, Nat.zero_ne_one, Nat.one_ne_zero] <;> first | decide | exact absurd h1 hn | exact absurd h2 hn
theorem hb_ot {F : List (Nat × Nat)} {k j u : Nat} (h : j ≠ k) : hb (F ++ [(k, u)]) j = hb F j := by
  have e : ∀ w, ((j, w) ∈ F ++ [(k, u)]) ↔ (j, w) ∈ F := fun w => by
    rw [List.mem_append, List.mem_singleton]
    exact ⟨fun h9 => h9.elim id (fun h8 => absurd (Prod.mk.inj h8).1 h), Or.inl⟩
  unfold hb
  simp only [e]
theorem hb_3 {F : List (Nat × Nat)} {k : Nat} (h : hb F k = 3) : (k, 0) ∈ F ∧ (k, 1) ∈ F := by
  unfold hb at h
  by_cases h1 : (k, 0) ∈ F <;> by_cases h2 : (k, 1) ∈ F <;> simp [h1, h2] at h ⊢
theorem e_X13_byteAt {x1 : Int32} {z : ow_MS} {Q : (Int32 × ow_MS) → Prop} (H : Tt (fun K _ => qm_X13_byteAt_0 K x1 z) Q) : Te (fun K => qe_X13_byteAt K x1 z) Q := w_te0 H
theorem tm_byteAt {z : ow_MS} {i t : Nat} (hi : i < 1000) (ht : t ≤ 400) (h11 : z.1 11 = nI t) : Te (fun K => qe_X13_byteAt K (nI i) z) (fun r => r.2 = z ∧ (t ≤ i → r.1 = -1)) := by
  refine e_X13_byteAt ?_; unfold qm_X13_byteAt_0
  exact w_rdF h11 (w_le (by omega) (by omega) (fun _ => w_some ⟨rfl, fun _ => rfl⟩) (fun h9 => w_rdI ml10 rfl (by omega) rfl (w_some ⟨rfl, fun h8 => by omega⟩)))
/-- a list of at most twelve crossings' visits -/
theorem rd_len {F : List (Nat × Nat)} {N : Nat} (hn : F.Nodup) (hF : ∀ p : Nat × Nat, p ∈ F → p.1 < N ∧ p.2 < 2) : F.length ≤ 2 * N := by
  have h1 : okF ((List.range N).flatMap (fun x => [(x, 0), (x, 1)])) N := by
    have nd : ∀ c, ((List.range c).flatMap (fun x => [(x, 0), (x, 1)])).Nodup := by
      intro c
      induction c with
      | zero => exact List.nodup_nil
      | succ c ih =>
        rw [List.range_succ, List.flatMap_append, List.nodup_append]
        refine ⟨ih, by simp, fun a ha b hb e => ?_⟩
        rw [List.mem_flatMap] at ha
        obtain ⟨x, hx, ha⟩ := ha
        have hx := List.mem_range.mp hx
        have h1 : a.1 = x := by
          simp at ha
          rcases ha with ha | ha <;> rw [ha]
        have h2 : b.1 = c := by
          simp at hb
          rcases hb with hb | hb <;> rw [hb]
        rw [e] at h1
        omega
    refine ⟨nd N, fun p => ?_⟩
    rw [List.mem_flatMap]
    constructor
    · intro ⟨x, hx, hp⟩
      have hx := List.mem_range.mp hx
      simp at hp
      rcases hp with hp | hp <;> rw [hp] <;> exact ⟨hx, by simp⟩
    · intro ⟨h1, h2⟩
      refine ⟨p.1, List.mem_range.mpr h1, ?_⟩
      obtain ⟨x, u⟩ := p
      have : u = 0 ∨ u = 1 := by have : u < 2 := h2; omega
      rcases this with e | e <;> simp [e]
  have := nodup_le F _ hn (fun p hp => (h1.2 p).mpr (hF p hp))
  rw [okF_len h1] at this
  exact this
/-- what read keeps while it reads -/
def rD (z : ow_MS) (A1 : rn_L) (B1 : List (Nat × Nat)) (N t : Nat) : Prop := rn_At z 3000 A1 B1 ∧ (A1.flatten ++ B1).Nodup ∧ (∀ p : Nat × Nat, p ∈ A1.flatten ++ B1 → p.1 < N ∧ p.2 < 2) ∧ N ≤ 12 ∧ ∀ k, k < N → z.2.1 19 k = nI (hb (A1.flatten ++ B1) k) ∧ s1 (z.2.1 17 k) ∧ (∃ a, a < t ∧ z.2.1 18 k = nI a) ∧ (∀ u, (k, u) ∈ A1.flatten ++ B1 → z.2.1 3006 k = z.2.1 17 k)
abbrev frV (g : Nat) : Prop := 16 ≤ g ∧ g ≤ 19 ∨ 3001 ≤ g ∧ g ≤ 3016
theorem u_X13_read_10 {x1 : Int32} {x2 : Int32} {x3 : Int32} {x4 : Int32} {x5 : Int32} {x6 : Int32} {x7 : Int32} {x8 : Int32} {t0 : Int32} {z : ow_MS} {Q : (Int32 × ow_MS) → Prop} (H : Tt (fun K k => qm_X13_read_10 K (q_X13_read K k) x1 x2 x3 x4 x5 x6 x7 x8 t0 z) Q) : Tt (fun K k => q_X13_read K k 10 x1 x2 x3 x4 x5 x6 x7 x8 t0 z) Q := w_un (fun _ _ => rfl) H
theorem u_X13_read_11 {x1 : Int32} {x2 : Int32} {x3 : Int32} {x4 : Int32} {x5 : Int32} {x6 : Int32} {x7 : Int32} {x8 : Int32} {t0 : Int32} {z : ow_MS} {Q : (Int32 × ow_MS) → Prop} (H : Tt (fun K k => qm_X13_read_11 K (q_X13_read K k) x1 x2 x3 x4 x5 x6 x7 x8 t0 z) Q) : Tt (fun K k => q_X13_read K k 11 x1 x2 x3 x4 x5 x6 x7 x8 t0 z) Q := w_un (fun _ _ => rfl) H
theorem u_X13_read_1 {x1 : Int32} {x2 : Int32} {x3 : Int32} {x4 : Int32} {x5 : Int32} {x6 : Int32} {x7 : Int32} {x8 : Int32} {t0 : Int32} {z : ow_MS} {Q : (Int32 × ow_MS) → Prop} (H : Tt (fun K k => qm_X13_read_1 K (q_X13_read K k) x1 x2 x3 x4 x5 x6 x7 x8 t0 z) Q) : Tt (fun K k => q_X13_read K k 1 x1 x2 x3 x4 x5 x6 x7 x8 t0 z) Q := w_un (fun _ _ => rfl) H
theorem u_X13_read_9 {x1 : Int32} {x2 : Int32} {x3 : Int32} {x4 : Int32} {x5 : Int32} {x6 : Int32} {x7 : Int32} {x8 : Int32} {t0 : Int32} {z : ow_MS} {Q : (Int32 × ow_MS) → Prop} (H : Tt (fun K k => qm_X13_read_9 K (q_X13_read K k) x1 x2 x3 x4 x5 x6 x7 x8 t0 z) Q) : Tt (fun K k => q_X13_read K k 9 x1 x2 x3 x4 x5 x6 x7 x8 t0 z) Q := w_un (fun _ _ => rfl) H
theorem u_X13_read_8 {x1 : Int32} {x2 : Int32} {x3 : Int32} {x4 : Int32} {x5 : Int32} {x6 : Int32} {x7 : Int32} {x8 : Int32} {t0 : Int32} {z : ow_MS} {Q : (Int32 × ow_MS) → Prop} (H : Tt (fun K k => qm_X13_read_8 K (q_X13_read K k) x1 x2 x3 x4 x5 x6 x7 x8 t0 z) Q) : Tt (fun K k => q_X13_read K k 8 x1 x2 x3 x4 x5 x6 x7 x8 t0 z) Q := w_un (fun _ _ => rfl) H
theorem u_X13_read_7 {x1 : Int32} {x2 : Int32} {x3 : Int32} {x4 : Int32} {x5 : Int32} {x6 : Int32} {x7 : Int32} {x8 : Int32} {t0 : Int32} {z : ow_MS} {Q : (Int32 × ow_MS) → Prop} (H : Tt (fun K k => qm_X13_read_7 K (q_X13_read K k) x1 x2 x3 x4 x5 x6 x7 x8 t0 z) Q) : Tt (fun K k => q_X13_read K k 7 x1 x2 x3 x4 x5 x6 x7 x8 t0 z) Q := w_un (fun _ _ => rfl) H
theorem u_X13_read_5 {x1 : Int32} {x2 : Int32} {x3 : Int32} {x4 : Int32} {x5 : Int32} {x6 : Int32} {x7 : Int32} {x8 : Int32} {t0 : Int32} {z : ow_MS} {Q : (Int32 × ow_MS) → Prop} (H : Tt (fun K k => qm_X13_read_5 K (q_X13_read K k) x1 x2 x3 x4 x5 x6 x7 x8 t0 z) Q) : Tt (fun K k => q_X13_read K k 5 x1 x2 x3 x4 x5 x6 x7 x8 t0 z) Q := w_un (fun _ _ => rfl) H
theorem u_X13_read_6 {x1 : Int32} {x2 : Int32} {x3 : Int32} {x4 : Int32} {x5 : Int32} {x6 : Int32} {x7 : Int32} {x8 : Int32} {t0 : Int32} {z : ow_MS} {Q : (Int32 × ow_MS) → Prop} (H : Tt (fun K k => qm_X13_read_6 K (q_X13_read K k) x1 x2 x3 x4 x5 x6 x7 x8 t0 z) Q) : Tt (fun K k => q_X13_read K k 6 x1 x2 x3 x4 x5 x6 x7 x8 t0 z) Q := w_un (fun _ _ => rfl) H
theorem u_X13_read_4 {x1 : Int32} {x2 : Int32} {x3 : Int32} {x4 : Int32} {x5 : Int32} {x6 : Int32} {x7 : Int32} {x8 : Int32} {t0 : Int32} {z : ow_MS} {Q : (Int32 × ow_MS) → Prop} (H : Tt (fun K k => qm_X13_read_4 K (q_X13_read K k) x1 x2 x3 x4 x5 x6 x7 x8 t0 z) Q) : Tt (fun K k => q_X13_read K k 4 x1 x2 x3 x4 x5 x6 x7 x8 t0 z) Q := w_un (fun _ _ => rfl) H
theorem u_X13_read_3 {x1 : Int32} {x2 : Int32} {x3 : Int32} {x4 : Int32} {x5 : Int32} {x6 : Int32} {x7 : Int32} {x8 : Int32} {t0 : Int32} {z : ow_MS} {Q : (Int32 × ow_MS) → Prop} (H : Tt (fun K k => qm_X13_read_3 K (q_X13_read K k) x1 x2 x3 x4 x5 x6 x7 x8 t0 z) Q) : Tt (fun K k => q_X13_read K k 3 x1 x2 x3 x4 x5 x6 x7 x8 t0 z) Q := w_un (fun _ _ => rfl) H
theorem u_X13_read_2 {x1 : Int32} {x2 : Int32} {x3 : Int32} {x4 : Int32} {x5 : Int32} {x6 : Int32} {x7 : Int32} {x8 : Int32} {t0 : Int32} {z : ow_MS} {Q : (Int32 × ow_MS) → Prop} (H : Tt (fun K k => qm_X13_read_2 K (q_X13_read K k) x1 x2 x3 x4 x5 x6 x7 x8 t0 z) Q) : Tt (fun K k => q_X13_read K k 2 x1 x2 x3 x4 x5 x6 x7 x8 t0 z) Q := w_un (fun _ _ => rfl) H
theorem e_X13_read {z : ow_MS} {Q : (Int32 × ow_MS) → Prop} (H : Tt (fun K k => q_X13_read K k 0 0 0 0 0 0 0 0 0 0 z) Q) : Te (fun K => qe_X13_read K z) Q := w_te H
theorem u_X13_read_0 {x1 : Int32} {x2 : Int32} {x3 : Int32} {x4 : Int32} {x5 : Int32} {x6 : Int32} {x7 : Int32} {x8 : Int32} {t0 : Int32} {z : ow_MS} {Q : (Int32 × ow_MS) → Prop} (H : Tt (fun K k => qm_X13_read_0 K (q_X13_read K k) x1 x2 x3 x4 x5 x6 x7 x8 t0 z) Q) : Tt (fun K k => q_X13_read K k 0 x1 x2 x3 x4 x5 x6 x7 x8 t0 z) Q := w_un (fun _ _ => rfl) H
theorem tm_read {X : (Nat → Nat → Int32) → Prop} {z : ow_MS} (h : gI X z) : Te (fun K => qe_X13_read K z) (fun r => fr frV z r.2 ∧ (r.1 = -1 → mNet r.2 3000)) := by
  obtain ⟨t, ht, h11⟩ := h.1
  let Q : Int32 × ow_MS → Prop := fun r => fr frV z r.2 ∧ (r.1 = -1 → mNet r.2 3000) 
  have t11 : ∀ {y : ow_MS}, fr frV z y → y.1 11 = nI t := fun hf => by rw [(hf 11 (by unfold frV; omega)).1]; exact h11
  have ret : ∀ (a : Nat) (y : ow_MS), a < 1000 → fr frV z y → Q (nI a, y) := fun a y ha hf => ⟨hf, fun e => absurd e (rn_neg1 (by omega))⟩
  -- the end: are all crossings met twice
  have l10 : ∀ (x2 : Int32) (A1 : rn_L) (N : Nat), A1.length ≤ 6 → ∀ (k j l : Nat) (y : ow_MS), j + k = N → fr frV z y → rD y A1 [] N t → (l = t + 1 ∧ (∀ i, i < j → hb (A1.flatten ++ []) i = 3) ∨ l ≤ t) → Tt (fun K i => q_X13_read K i 10 (nI N) x2 (nI l) (nI j) 0 0 0 0 0 y) Q := by
    intro x2 A1 N hA6 k
    induction k with
    | zero =>
      intro j l y hj hf hR hl
      obtain ⟨r1, r2, r3, r4, r5⟩ := hR
      refine u_X13_read_10 ?_; unfold qm_X13_read_10
      refine w_leT (by omega) (by omega) (w_rdF (t11 hf) (w_lt (by omega) (by omega) (fun h9 => ?_) (fun h9 => w_some (ret l y (by omega) hf))))
      have hall : ∀ i, i < N → hb (A1.flatten ++ []) i = 3 := fun i hi => by
        rcases hl with ⟨-, hl⟩ | hl
        · exact hl i (by omega)
        · omega
      rw [List.append_nil] at r2 r3 hall
      have wk : wkF A1.flatten := by
        refine ⟨r2, fun p hp => ?_⟩
        obtain ⟨p1, p2⟩ := r3 p hp
        refine ⟨by omega, p2, ?_⟩
        obtain ⟨m0, m1⟩ := hb_3 (hall p.1 p1)
        have : 1 - p.2 = 0 ∨ 1 - p.2 = 1 := by omega
        rcases this with e | e <;> rw [e]
        · exact m0
        · exact m1
      have hlen := rd_len r2 r3
      refine w_cs0 (tn_link pn3 (by omega) (by omega) (wkF_ok wk).1 r1) (fun y1 ⟨g1, g2, g3⟩ => w_cs1 (tn_plane pn3 (by omega) (by omega) (wkF_ok wk) ⟨g2, g3⟩) (fun a y2 ⟨_, k2, k3, _, _⟩ => ?_))
      have k2 : fr (fun g => 3000 + 12 ≤ g ∧ g ≤ 3000 + 16) y1 y2 := k2
      have k3 : rn_lk y2 3000 A1 := k3
      have hf2 : fr frV z y2 := fr_tr hf (fr_tr (fr_mono (fun g hg => Or.inr (by have := hg.1; have := hg.2; omega)) g1) (fr_mono (fun g hg => Or.inr (by omega)) k2))
      refine w_if (fun _ => w_rdF (t11 hf2) (w_some (ret t y2 (by omega) hf2))) (fun _ => w_some ⟨hf2, fun _ => ⟨A1, fun x => decide (y2.2.1 3006 x = -1), k3.1, fun p hp => ?_, wk, by omega, hA6⟩⟩)
      refine s1_sg ?_
      have e6 : y2.2.1 3006 = y.2.1 3006 := by rw [(k2 3006 (by omega)).2.1, (g1 3006 (fun h8 => by have := h8.1; omega)).2.1]
      obtain ⟨q1, q2, q3, q4⟩ := r5 p.1 (r3 p hp).1
      show s1 (y2.2.1 3006 p.1)
      rw [e6, q4 p.2 (by rw [List.append_nil]; exact hp)]
      exact q2
    | succ k ih =>
      intro j l y hj hf hR hl
      obtain ⟨q1, q2, ⟨a, qa, q3⟩, q4⟩ := hR.2.2.2.2 j (by omega)
      have r4 := hR.2.2.2.1
      have hbl := hb_lt (F := A1.flatten ++ []) (k := j)
      refine u_X13_read_10 ?_; unfold qm_X13_read_10
      refine w_leF (by omega) (by omega) (w_rdI ml19 rfl (by omega) q1 (w_eqN (b := 3) (by omega) (by omega) (fun h9 => ?_) (fun h9 => w_rdI ml18 rfl (by omega) q3 ?_)))
      · refine u_X13_read_11 ?_; unfold qm_X13_read_11
        rw [nI_1]
        refine ih (j + 1) l y (by omega) hf hR (hl.imp (fun ⟨e1, e2⟩ => ⟨e1, fun i hi => ?_⟩) id)
        by_cases hij : i = j
        · rw [hij]; exact h9
        · exact e2 i (by omega)
      · by_cases hal : a < l
        · rw [if_pos (nI_lt hal (by omega))]
          refine u_X13_read_11 ?_; unfold qm_X13_read_11
          rw [nI_1]
          exact ih (j + 1) a y (by omega) hf hR (Or.inr (by omega))
        · rw [if_neg (nI_nlt (by omega) (by omega))]
          refine u_X13_read_11 ?_; unfold qm_X13_read_11
          rw [nI_1]
          exact ih (j + 1) l y (by omega) hf hR (Or.inr (by omega))
  have main : ∀ (u i N : Nat) (A1 : rn_L) (B1 : List (Nat × Nat)) (y : ow_MS), i + u = t → A1.length ≤ 5 → fr frV z y → rD y A1 B1 N t → Tt (fun K k => q_X13_read K k 1 (nI N) (nI i) 0 0 0 0 0 0 0 y) Q := by
    intro u
    induction u using Nat.strongRecOn with
    | ind u ih =>
      intro i N A1 B1 y hi hA5 hf hR
      have hlen := rd_len hR.2.1 hR.2.2.1
      have r4 := hR.2.2.2.1
      -- a component is closed
      have endR : ∀ {y2 : ow_MS}, rn_At y2 3000 (A1 ++ [B1]) [] → fr (fun g => g = 3000 + 2 ∨ g = 3000 + 3) y y2 → rD y2 (A1 ++ [B1]) [] N t := by
        intro y2 h1 h2
        have e : (A1 ++ [B1]).flatten ++ [] = A1.flatten ++ B1 := by rw [List.flatten_append]; simp
        unfold rD
        rw [e, (h2 19 (by omega)).2.1, (h2 17 (by omega)).2.1, (h2 18 (by omega)).2.1, (h2 3006 (by omega)).2.1]
        exact ⟨h1, hR.2⟩
      refine u_X13_read_1 ?_; unfold qm_X13_read_1
      refine w_rdF (t11 hf) (w_le (by omega) (by omega) (fun hti => w_cs0 (tn_end pn3 hR.1 (by omega)) (fun y2 ⟨g1, g2⟩ => ?_)) (fun hit => ?_))
      · have hf2 : fr frV z y2 := fr_tr hf (fr_mono (fun g hg => Or.inr (by omega)) g2)
        refine w_rdF (t11 hf2) ?_
        rw [nI_1]
        exact l10 _ (A1 ++ [B1]) N (by rw [List.length_append]; show A1.length + 1 ≤ 6; omega) N 0 (t + 1) y2 (by omega) hf2 (endR g1 g2) (Or.inl ⟨rfl, fun i hi => by omega⟩)
      · -- a visit
        have l2 : ∀ (x3 : Int32), Tt (fun K k => q_X13_read K k 2 (nI N) (nI i) x3 0 0 0 0 0 0 y) Q := by
          intro x3
          have l9 : ∀ (N2 i2 k u9 : Nat) (x5 x6 : Int32) (y2 : ow_MS), i < i2 → i2 ≤ t → u9 < 2 → k < N2 → fr frV z y2 → rD y2 A1 B1 N2 t → Tt (fun K k9 => q_X13_read K k9 9 (nI N2) (nI i2) x3 (nI i) x5 x6 (nI u9) (nI k) 0 y2) Q := by
            intro N2 i2 k u9 x5 x6 y2 hi2 hit2 hu9 hkN hf2 hR2
            obtain ⟨q1, q2, q3, q4⟩ := hR2.2.2.2.2 k hkN
            have r42 := hR2.2.2.2.1
            have hlen2 := rd_len hR2.2.1 hR2.2.2.1
            refine u_X13_read_9 ?_; unfold qm_X13_read_9
            refine w_rdI ml19 rfl (by omega) q1 (w_if (fun hand => w_rdI ml17 rfl (by omega) rfl (w_if (fun hsg => w_rdI ml19 rfl (by omega) q1 (w_wrI ml19 rfl (by omega) (w_wrI (pl6 pn3) rfl (by omega) ?_))) (fun _ => w_some (ret i y2 (by omega) hf2)))) (fun _ => w_some (ret i y2 (by omega) hf2)))
            have hnot := (hb_and hu9).mp hand
            rw [hb_or hu9 hnot]
            obtain ⟨y3, hy3⟩ : ∃ y3, y3 = usI (usI y2 19 k (nI (hb (A1.flatten ++ B1 ++ [(k, u9)]) k))) 3006 k x6 := ⟨_, rfl⟩
            have f3 : fr (fun g => g = 19 ∨ g = 3006) y2 y3 := by rw [hy3]; exact fr_I2 (fr_I (Or.inl rfl)) (Or.inr rfl)
            rw [← hy3]
            refine w_cs0 (tn_add pn3 (fr_At f3 (fun g hg => by omega) hR2.1) (by omega)) (fun y4 ⟨g1, g2⟩ => ?_)
            have hf4 : fr frV z y4 := fr_tr hf2 (fr_tr (fr_mono (fun g hg => by unfold frV; omega) f3) (fr_mono (fun g hg => Or.inr (by omega)) g2))
            refine ih (t - i2) (by omega) i2 N2 A1 (B1 ++ [(k, u9)]) y4 (by omega) hA5 hf4 ?_
            have e : A1.flatten ++ (B1 ++ [(k, u9)]) = A1.flatten ++ B1 ++ [(k, u9)] := (List.append_assoc _ _ _).symm
            unfold rD
            rw [e, (g2 19 (by omega)).2.1, (g2 17 (by omega)).2.1, (g2 18 (by omega)).2.1, (g2 3006 (by omega)).2.1]
            refine ⟨g1, ?_, fun p hp => ?_, r42, fun j hj => ?_⟩
            · rw [List.nodup_append]
              refine ⟨hR2.2.1, by simp, fun a ha b hb9 e9 => hnot ?_⟩
              have : b = (k, u9) := by simpa using hb9
              rw [← this, ← e9]
              exact ha
            · rw [List.mem_append, List.mem_singleton] at hp
              rcases hp with hp | hp
              · exact hR2.2.2.1 p hp
              · rw [hp]
                exact ⟨hkN, hu9⟩
            · obtain ⟨j1, j2, j3, j4⟩ := hR2.2.2.2.2 j hj
              rw [hy3]
              by_cases hjk : j = k
              · subst hjk
                refine ⟨rd_ot (by decide) po_usI_at, ?_, ?_, fun u8 _ => ?_⟩
                · rw [po_usI_ot (by decide), po_usI_ot (by decide)]; exact j2
                · rw [po_usI_ot (by decide), po_usI_ot (by decide)]; exact j3
                · rw [po_usI_at, po_usI_ot (by decide), po_usI_ot (by decide)]
                  exact hsg.symm
              · refine ⟨rd_ot (by decide) (rd_ne hjk (by rw [hb_ot hjk]; exact j1)), ?_, ?_, fun u8 hu8 => ?_⟩
                · rw [po_usI_ot (by decide), po_usI_ot (by decide)]; exact j2
                · rw [po_usI_ot (by decide), po_usI_ot (by decide)]; exact j3
                · rw [po_usI_ne hjk, po_usI_ot (by decide), po_usI_ot (h := 3006) (by decide), po_usI_ot (by decide)]
                  refine j4 u8 ?_
                  rw [List.mem_append, List.mem_singleton] at hu8
                  exact hu8.resolve_right (fun h8 => hjk (Prod.mk.inj h8).1)
          have l8 : ∀ (i2 k u9 : Nat) (x5 x6 : Int32), i < i2 → i2 ≤ t → u9 < 2 → k ≤ N → s1 x6 → Tt (fun K k9 => q_X13_read K k9 8 (nI N) (nI i2) x3 (nI i) x5 x6 (nI u9) (nI k) 0 y) Q := by
            intro i2 k u9 x5 x6 hi2 hit2 hu9 hkN hs6
            refine u_X13_read_8 ?_; unfold qm_X13_read_8
            refine w_eqN (by omega) (by omega) (fun hke => w_eqN (b := 12) (by omega) (by omega) (fun _ => w_some (ret i y (by omega) hf)) (fun hN12 => w_wrI ml16 rfl (by omega) (w_wrI ml17 rfl (by omega) (w_wrI ml18 rfl (by omega) (w_wrI ml19 rfl (by omega) ?_))))) (fun hke => l9 N i2 k u9 x5 x6 y hi2 hit2 hu9 (by omega) hf hR)
            subst hke
            rw [nI_1]
            have f3 : fr (fun g => 16 ≤ g ∧ g ≤ 19) y (usI (usI (usI (usI y 16 k x5) 17 k x6) 18 k (nI i)) 19 k 0) := fr_I2 (fr_I2 (fr_I2 (fr_I (by decide)) (by decide)) (by decide)) (by decide)
            refine l9 (k + 1) i2 k u9 x5 x6 _ hi2 hit2 hu9 (by omega) (fr_tr hf (fr_mono (fun g hg => Or.inl hg) f3)) ⟨fr_At f3 (fun g hg => by omega) hR.1, hR.2.1, fun p hp => ⟨by have := (hR.2.2.1 p hp).1; omega, (hR.2.2.1 p hp).2⟩, by omega, fun j hj => ?_⟩
            by_cases hjk : j = k
            · subst hjk
              have hno : ∀ u8, (j, u8) ∉ A1.flatten ++ B1 := fun u8 h8 => by
                have := (hR.2.2.1 _ h8).1
                have : j < j := this
                omega
              have h0 : hb (A1.flatten ++ B1) j = 0 := by
                unfold hb
                rw [if_neg (hno 0), if_neg (hno 1)]
              refine ⟨?_, ?_, ⟨i, by omega, ?_⟩, fun u8 h8 => absurd h8 (hno u8)⟩
              · rw [h0]
                exact po_usI_at
              · rw [po_usI_ot (by decide), po_usI_ot (by decide), po_usI_at]
                exact hs6
              · rw [po_usI_ot (by decide), po_usI_at]
            · obtain ⟨j1, j2, ⟨a, j3, j5⟩, j4⟩ := hR.2.2.2.2 j (by omega)
              refine ⟨rd_ne hjk (rd_ot (by decide) (rd_ot (by decide) (rd_ot (by decide) j1))), ?_, ⟨a, j3, rd_ot (by decide) (rd_ne hjk (rd_ot (by decide) (rd_ot (by decide) j5)))⟩, fun u8 h8 => ?_⟩
              · rw [po_usI_ot (by decide), po_usI_ot (by decide), po_usI_ne hjk, po_usI_ot (by decide)]
                exact j2
              · rw [(f3 3006 (by omega)).2.1, j4 u8 h8]
                exact (rd_ot (by decide) (rd_ot (by decide) (rd_ne hjk (rd_ot (by decide) rfl)))).symm
          have l7 : ∀ (i2 u9 : Nat) (x5 x6 : Int32), i < i2 → i2 ≤ t → u9 < 2 → s1 x6 → ∀ (d k : Nat), k + d = N → Tt (fun K k9 => q_X13_read K k9 7 (nI N) (nI i2) x3 (nI i) x5 x6 (nI u9) (nI k) 0 y) Q := by
            intro i2 u9 x5 x6 hi2 hit2 hu9 hs6 d
            induction d with
            | zero =>
              intro k hk
              refine u_X13_read_7 ?_; unfold qm_X13_read_7
              exact w_leT (by omega) (by omega) (l8 i2 k u9 x5 x6 hi2 hit2 hu9 (by omega) hs6)
            | succ d ihd =>
              intro k hk
              refine u_X13_read_7 ?_; unfold qm_X13_read_7
              rw [nI_1]
              exact w_leF (by omega) (by omega) (w_rdI ml16 rfl (by omega) rfl (w_if (fun _ => l8 i2 k u9 x5 x6 hi2 hit2 hu9 (by omega) hs6) (fun _ => ihd (k + 1) (by omega))))
          have l5 : ∀ (i2 : Nat) (x5 t0 : Int32), i < i2 + 1 → i2 + 1 ≤ t → s1 t0 → Tt (fun K k9 => q_X13_read K k9 5 (nI N) (nI i2) x3 (nI i) x5 0 0 0 t0 y) Q := by
            intro i2 x5 t0 hi2 hit2 hs6
            refine u_X13_read_5 ?_; unfold qm_X13_read_5
            rw [nI_1]
            refine w_if (fun _ => ?_) (fun _ => ?_)
            · refine u_X13_read_6 ?_; unfold qm_X13_read_6
              exact l7 (i2 + 1) 1 x5 t0 hi2 hit2 (by omega) hs6 N 0 (by omega)
            · refine u_X13_read_6 ?_; unfold qm_X13_read_6
              exact l7 (i2 + 1) 0 x5 t0 hi2 hit2 (by omega) hs6 N 0 (by omega)
          have l4 : ∀ (i2 : Nat) (x5 : Int32), i < i2 + 1 → i2 + 1 ≤ t → Tt (fun K k9 => q_X13_read K k9 4 (nI N) (nI i2) x3 (nI i) x5 0 0 0 0 y) Q := by
            intro i2 x5 hi2 hit2
            refine u_X13_read_4 ?_; unfold qm_X13_read_4
            refine w_cs1 (tm_byteAt (by omega) ht (t11 hf)) (fun a y9 ⟨e, _⟩ => ?_)
            have e : y9 = y := e
            subst e
            exact w_if (fun _ => l5 i2 x5 1 hi2 hit2 (Or.inl rfl)) (fun _ => l5 i2 x5 (-1) hi2 hit2 (Or.inr rfl))
          have l3 : ∀ (i2 : Nat) (x5 : Int32), i < i2 → i2 ≤ t → Tt (fun K k9 => q_X13_read K k9 3 (nI N) (nI i2) x3 (nI i) x5 0 0 0 0 y) Q := by
            intro i2 x5 hi2 hit2
            refine u_X13_read_3 ?_; unfold qm_X13_read_3
            refine w_rdF (t11 hf) (w_eqN (by omega) (by omega) (fun _ => w_rdF (t11 hf) (w_some (ret t y (by omega) hf))) (fun hne => w_cs1 (tm_byteAt (by omega) ht (t11 hf)) (fun a y9 ⟨e, _⟩ => ?_)))
            have e : y9 = y := e
            subst e
            refine w_if (fun _ => l4 i2 x5 (by omega) (by omega)) (fun _ => w_cs1 (tm_byteAt (by omega) ht (t11 hf)) (fun a y9 ⟨e, _⟩ => ?_))
            have e : y9 = _ := e
            subst e
            exact w_if (fun _ => l4 i2 x5 (by omega) (by omega)) (fun _ => w_some (ret i2 _ (by omega) hf))
          refine u_X13_read_2 ?_; unfold qm_X13_read_2
          rw [nI_1, nI_1, nI_1]
          refine w_rdF (t11 hf) (w_eqN (by omega) (by omega) (fun _ => w_rdF (t11 hf) (w_some (ret t y (by omega) hf))) (fun hne => w_cs1 (tm_byteAt (by omega) ht (t11 hf)) (fun a1 y1 ⟨e1, _⟩ => ?_)))
          have e1 : y1 = y := e1
          subst e1
          refine w_if (fun _ => w_some (ret (i + 1) _ (by omega) hf)) (fun _ => w_cs1 (tm_byteAt (by omega) ht (t11 hf)) (fun a2 y2 ⟨e2, _⟩ => ?_))
          have e2 : y2 = _ := e2
          subst e2
          refine w_if (fun _ => w_cs1 (tm_byteAt (by omega) ht (t11 hf)) (fun a3 y3 ⟨e3, _⟩ => ?_)) (fun _ => w_some (ret (i + 1) _ (by omega) hf))
          have e3 : y3 = _ := e3
          subst e3
          refine w_cs1 (tm_byteAt (by omega) ht (t11 hf)) (fun a4 y4 ⟨e4, v4⟩ => ?_)
          have e4 : y4 = _ := e4
          have w4 : t ≤ i + 1 + 1 → a4 = -1 := v4
          subst e4
          refine w_if (fun _ => l3 (i + 1 + 1) _ (by omega) (by omega)) (fun h48 => w_cs1 (tm_byteAt (by omega) ht (t11 hf)) (fun a5 y5 ⟨e5, _⟩ => ?_))
          have e5 : y5 = _ := e5
          subst e5
          have hi3 : i + 1 + 1 < t := by
            rcases Nat.lt_or_ge (i + 1 + 1) t with h9 | h9
            · exact h9
            · exact absurd (by rw [w4 h9]; decide) h48
          refine w_if (fun _ => l3 (i + 1 + 1) _ (by omega) (by omega)) (fun _ => w_cs1 (tm_byteAt (by omega) ht (t11 hf)) (fun a6 y6 ⟨e6, _⟩ => ?_))
          have e6 : y6 = _ := e6
          subst e6
          exact l3 (i + 1 + 1 + 1) _ (by omega) (by omega)
        refine w_rdI ml10 rfl (by omega) rfl (w_if (fun _ => w_cs0 (tn_end pn3 hR.1 (by omega)) (fun y2 ⟨g1, g2⟩ => ?_)) (fun _ => w_if (fun _ => l2 _) (fun _ => w_if (fun _ => l2 _) (fun _ => w_some (ret i y (by omega) hf)))))
        have hf2 : fr frV z y2 := fr_tr hf (fr_mono (fun g hg => Or.inr (by omega)) g2)
        have hAl : (A1 ++ [B1]).length = A1.length + 1 := by rw [List.length_append]; rfl
        have e2 : y2.1 (3000 + 2) = nI (A1.length + 1) := by rw [g1.2.1, hAl]
        refine w_rdF e2 (w_eqN (b := 6) (by omega) (by omega) (fun _ => w_some (ret i y2 (by omega) hf2)) (fun h6 => ?_))
        rw [nI_1]
        exact ih (t - (i + 1)) (by omega) (i + 1) N (A1 ++ [B1]) [] y2 (by omega) (by omega) hf2 (endR g1 g2)
  refine e_X13_read ?_
  refine u_X13_read_0 ?_; unfold qm_X13_read_0
  refine w_cs0 (tn_clear pn3) (fun z1 ⟨g1, g2⟩ => main t 0 0 [] [] z1 (by omega) (by simp) (fr_mono (fun g hg => Or.inr (by omega)) g2) ⟨g1, List.nodup_nil, fun p hp => by simp at hp, by omega, fun k hk => by omega⟩)
theorem e_X13_diagram {z : ow_MS} {Q : (Int32 × ow_MS) → Prop} (H : Tt (fun K _ => qm_X13_diagram_0 K z) Q) : Te (fun K => qe_X13_diagram K z) Q := w_te0 H
theorem tp_diagram {X : (Nat → Nat → Int32) → Prop} {z : ow_MS} (h : gI X z) : Te (fun K => qe_X13_diagram K z) (fun r => gI X r.2) := by
  have h1 := gI_1 (c := 0) h
  refine e_X13_diagram ?_; unfold qm_X13_diagram_0
  refine w_wrF (w_free (w_ifT rfl (w_fail h1)) (fun f hf hfr => w_ifF (rn_neg1 (by omega)) (w_cs1 (tm_read h1) (fun a y ⟨g1, g2⟩ => w_wrF ?_))))
  have g1 : fr frV (usF z 1 0) y := g1
  have g2 : a = -1 → mNet y 3000 := g2
  have hI : gI X (usF y 11 0) := gI_t (t := 0) rfl (by omega) (gI_fr g1 (fun g hg => by unfold frV at hg; unfold per; omega) h1)
  refine w_if (fun ha => w_keep hI (frD_eq (g1 12 (by unfold frV; omega)).2.1 hfr) ?_) (fun _ => w_some hI)
  obtain ⟨A, sg, m1, m2, m3⟩ := g2 ha
  have f2 : fr (fun g => g = 11) y (usF y 11 0) := fr_F rfl
  exact ⟨A, sg, fr_At f2 (fun g hg => by omega) m1, m2, m3⟩
