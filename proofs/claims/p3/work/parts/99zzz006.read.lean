section
/-! 99zzy.read -/
/-! read, diagram -/
def hb (F : List (Nat × Nat)) (k : Nat) : Nat := (if (k, 0) ∈ F then 1 else 0) + if (k, 1) ∈ F then 2 else 0
theorem hb_lt {F : List (Nat × Nat)} {k : Nat} : hb F k < 4 := by
  unfold hb
  by_cases h1 : (k, 0) ∈ F <;> by_cases h2 : (k, 1) ∈ F <;> simp [h1, h2]
theorem hb_and {F : List (Nat × Nat)} {k u : Nat} (hu : u < 2) : (nI (hb F k) &&& (1 + nI u) = 0) ↔ (k, u) ∉ F := by
  have h0 : u = 0 ∨ u = 1 := by omega
  unfold hb
  rcases h0 with h0 | h0 <;> subst h0 <;> by_cases h1 : (k, 0) ∈ F <;> by_cases h2 : (k, 1) ∈ F <;> simp only [h1, h2, if_true, if_false, not_true, not_false_iff] <;> decide
theorem hb_or {F : List (Nat × Nat)} {k u : Nat} (hu : u < 2) (hn : (k, u) ∉ F) : nI (hb F k) ||| (1 + nI u) = nI (hb (F ++ [(k, u)]) k) := by
  have h0 : u = 0 ∨ u = 1 := by omega
  unfold hb
  rcases h0 with h0 | h0 <;> subst h0 <;> by_cases h1 : (k, 0) ∈ F <;> by_cases h2 : (k, 1) ∈ F <;> simp only [List.mem_append, List.mem_singleton, Prod.mk.injEq, true_and, h1, h2, if_true, if_false, or_true, or_false, true_or, false_or, Nat.zero_ne_one, Nat.one_ne_zero] <;> first | decide | exact absurd h1 hn | exact absurd h2 hn
theorem hb_ot {F : List (Nat × Nat)} {k j u : Nat} (h : j ≠ k) : hb (F ++ [(k, u)]) j = hb F j := by
  have e : ∀ w, ((j, w) ∈ F ++ [(k, u)]) ↔ (j, w) ∈ F := fun w => by
    rw [List.mem_append, List.mem_singleton]
    exact ⟨fun h9 => h9.elim id (fun h8 => absurd (Prod.mk.inj h8).1 h), Or.inl⟩
  unfold hb
  simp only [e]
theorem hb_3 {F : List (Nat × Nat)} {k : Nat} (h : hb F k = 3) : (k, 0) ∈ F ∧ (k, 1) ∈ F := by
  unfold hb at h
  by_cases h1 : (k, 0) ∈ F <;> by_cases h2 : (k, 1) ∈ F <;> simp [h1, h2] at h ⊢
theorem e_X13_byteAt {x1 : Int32} {z : ow_MS} {Q : (Int32 × ow_MS) → Prop} (H : Tt (fun K _ => qm_X13_byteAt_0 K x1 z) Q) : Te (fun K => qe_X13_byteAt K x1 z) Q := w_te0 H
theorem tm_byteAt {z : ow_MS} {i t : Nat} (hi : i < 1000) (ht : t ≤ 400) (h11 : z.1 11 = nI t) : Te (fun K => qe_X13_byteAt K (nI i) z) (fun r => r.2 = z ∧ (t ≤ i → r.1 = -1)) := by
  refine e_X13_byteAt ?_; unfold qm_X13_byteAt_0
  exact w_rdF h11 (w_le (by omega) (by omega) (fun _ => w_some ⟨rfl, fun _ => rfl⟩) (fun h9 => w_rdI ml10 rfl (by omega) rfl (w_some ⟨rfl, fun h8 => by omega⟩)))
/-- a list of at most twelve crossings' visits -/
theorem rd_len {F : List (Nat × Nat)} {N : Nat} (hn : F.Nodup) (hF : ∀ p : Nat × Nat, p ∈ F → p.1 < N ∧ p.2 < 2) : F.length ≤ 2 * N := by
  have h1 : okF ((List.range N).flatMap (fun x => [(x, 0), (x, 1)])) N := by
    have nd : ∀ c, ((List.range c).flatMap (fun x => [(x, 0), (x, 1)])).Nodup := by
      intro c
      induction c with
      | zero => exact List.nodup_nil
      | succ c ih =>
        rw [List.range_succ, List.flatMap_append, List.nodup_append]
        refine ⟨ih, by simp, fun a ha b hb e => ?_⟩
        rw [List.mem_flatMap] at ha
        obtain ⟨x, hx, ha⟩ := ha
        have hx := List.mem_range.mp hx
        have h1 : a.1 = x := by
          simp at ha
          rcases ha with ha | ha <;> rw [ha]
        have h2 : b.1 = c := by
          simp at hb
          rcases hb with hb | hb <;> rw [hb]
        rw [e] at h1
        omega
    refine ⟨nd N, fun p => ?_⟩
    rw [List.mem_flatMap]
    constructor
    · intro ⟨x, hx, hp⟩
      have hx := List.mem_range.mp hx
      simp at hp
      rcases hp with hp | hp <;> rw [hp] <;> exact ⟨hx, by simp⟩
    · intro ⟨h1, h2⟩
      refine ⟨p.1, List.mem_range.mpr h1, ?_⟩
      obtain ⟨x, u⟩ := p
      have : u = 0 ∨ u = 1 := by have : u < 2 := h2; omega
      rcases this with e | e <;> simp [e]
  have := nodup_le F _ hn (fun p hp => (h1.2 p).mpr (hF p hp))
  rw [okF_len h1] at this
  exact this
/-- what read keeps while it reads -/
def rD (z : ow_MS) (A1 : rn_L) (B1 : List (Nat × Nat)) (N t : Nat) : Prop := rn_At z 3000 A1 B1 ∧ (A1.flatten ++ B1).Nodup ∧ (∀ p : Nat × Nat, p ∈ A1.flatten ++ B1 → p.1 < N ∧ p.2 < 2) ∧ N ≤ 12 ∧ ∀ k, k < N → z.2.1 19 k = nI (hb (A1.flatten ++ B1) k) ∧ s1 (z.2.1 17 k) ∧ (∃ a, a < t ∧ z.2.1 18 k = nI a) ∧ (∀ u, (k, u) ∈ A1.flatten ++ B1 → z.2.1 3006 k = z.2.1 17 k)
abbrev frV (g : Nat) : Prop := 16 ≤ g ∧ g ≤ 19 ∨ 3001 ≤ g ∧ g ≤ 3016
theorem u_X13_read_10 {x1 : Int32} {x2 : Int32} {x3 : Int32} {x4 : Int32} {x5 : Int32} {x6 : Int32} {x7 : Int32} {x8 : Int32} {t0 : Int32} {z : ow_MS} {Q : (Int32 × ow_MS) → Prop} (H : Tt (fun K k => qm_X13_read_10 K (q_X13_read K k) x1 x2 x3 x4 x5 x6 x7 x8 t0 z) Q) : Tt (fun K k => q_X13_read K k 10 x1 x2 x3 x4 x5 x6 x7 x8 t0 z) Q := w_un (fun _ _ => rfl) H
theorem u_X13_read_11 {x1 : Int32} {x2 : Int32} {x3 : Int32} {x4 : Int32} {x5 : Int32} {x6 : Int32} {x7 : Int32} {x8 : Int32} {t0 : Int32} {z : ow_MS} {Q : (Int32 × ow_MS) → Prop} (H : Tt (fun K k => qm_X13_read_11 K (q_X13_read K k) x1 x2 x3 x4 x5 x6 x7 x8 t0 z) Q) : Tt (fun K k => q_X13_read K k 11 x1 x2 x3 x4 x5 x6 x7 x8 t0 z) Q := w_un (fun _ _ => rfl) H
theorem u_X13_read_1 {x1 : Int32} {x2 : Int32} {x3 : Int32} {x4 : Int32} {x5 : Int32} {x6 : Int32} {x7 : Int32} {x8 : Int32} {t0 : Int32} {z : ow_MS} {Q : (Int32 × ow_MS) → Prop} (H : Tt (fun K k => qm_X13_read_1 K (q_X13_read K k) x1 x2 x3 x4 x5 x6 x7 x8 t0 z) Q) : Tt (fun K k => q_X13_read K k 1 x1 x2 x3 x4 x5 x6 x7 x8 t0 z) Q := w_un (fun _ _ => rfl) H
theorem u_X13_read_9 {x1 : Int32} {x2 : Int32} {x3 : Int32} {x4 : Int32} {x5 : Int32} {x6 : Int32} {x7 : Int32} {x8 : Int32} {t0 : Int32} {z : ow_MS} {Q : (Int32 × ow_MS) → Prop} (H : Tt (fun K k => qm_X13_read_9 K (q_X13_read K k) x1 x2 x3 x4 x5 x6 x7 x8 t0 z) Q) : Tt (fun K k => q_X13_read K k 9 x1 x2 x3 x4 x5 x6 x7 x8 t0 z) Q := w_un (fun _ _ => rfl) H
theorem u_X13_read_8 {x1 : Int32} {x2 : Int32} {x3 : Int32} {x4 : Int32} {x5 : Int32} {x6 : Int32} {x7 : Int32} {x8 : Int32} {t0 : Int32} {z : ow_MS} {Q : (Int32 × ow_MS) → Prop} (H : Tt (fun K k => qm_X13_read_8 K (q_X13_read K k) x1 x2 x3 x4 x5 x6 x7 x8 t0 z) Q) : Tt (fun K k => q_X13_read K k 8 x1 x2 x3 x4 x5 x6 x7 x8 t0 z) Q := w_un (fun _ _ => rfl) H
theorem u_X13_read_7 {x1 : Int32} {x2 : Int32} {x3 : Int32} {x4 : Int32} {x5 : Int32} {x6 : Int32} {x7 : Int32} {x8 : Int32} {t0 : Int32} {z : ow_MS} {Q : (Int32 × ow_MS) → Prop} (H : Tt (fun K k => qm_X13_read_7 K (q_X13_read K k) x1 x2 x3 x4 x5 x6 x7 x8 t0 z) Q) : Tt (fun K k => q_X13_read K k 7 x1 x2 x3 x4 x5 x6 x7 x8 t0 z) Q := w_un (fun _ _ => rfl) H
theorem u_X13_read_5 {x1 : Int32} {x2 : Int32} {x3 : Int32} {x4 : Int32} {x5 : Int32} {x6 : Int32} {x7 : Int32} {x8 : Int32} {t0 : Int32} {z : ow_MS} {Q : (Int32 × ow_MS) → Prop} (H : Tt (fun K k => qm_X13_read_5 K (q_X13_read K k) x1 x2 x3 x4 x5 x6 x7 x8 t0 z) Q) : Tt (fun K k => q_X13_read K k 5 x1 x2 x3 x4 x5 x6 x7 x8 t0 z) Q := w_un (fun _ _ => rfl) H
theorem u_X13_read_6 {x1 : Int32} {x2 : Int32} {x3 : Int32} {x4 : Int32} {x5 : Int32} {x6 : Int32} {x7 : Int32} {x8 : Int32} {t0 : Int32} {z : ow_MS} {Q : (Int32 × ow_MS) → Prop} (H : Tt (fun K k => qm_X13_read_6 K (q_X13_read K k) x1 x2 x3 x4 x5 x6 x7 x8 t0 z) Q) : Tt (fun K k => q_X13_read K k 6 x1 x2 x3 x4 x5 x6 x7 x8 t0 z) Q := w_un (fun _ _ => rfl) H
theorem u_X13_read_4 {x1 : Int32} {x2 : Int32} {x3 : Int32} {x4 : Int32} {x5 : Int32} {x6 : Int32} {x7 : Int32} {x8 : Int32} {t0 : Int32} {z : ow_MS} {Q : (Int32 × ow_MS) → Prop} (H : Tt (fun K k => qm_X13_read_4 K (q_X13_read K k) x1 x2 x3 x4 x5 x6 x7 x8 t0 z) Q) : Tt (fun K k => q_X13_read K k 4 x1 x2 x3 x4 x5 x6 x7 x8 t0 z) Q := w_un (fun _ _ => rfl) H
theorem u_X13_read_3 {x1 : Int32} {x2 : Int32} {x3 : Int32} {x4 : Int32} {x5 : Int32} {x6 : Int32} {x7 : Int32} {x8 : Int32} {t0 : Int32} {z : ow_MS} {Q : (Int32 × ow_MS) → Prop} (H : Tt (fun K k => qm_X13_read_3 K (q_X13_read K k) x1 x2 x3 x4 x5 x6 x7 x8 t0 z) Q) : Tt (fun K k => q_X13_read K k 3 x1 x2 x3 x4 x5 x6 x7 x8 t0 z) Q := w_un (fun _ _ => rfl) H
theorem u_X13_read_2 {x1 : Int32} {x2 : Int32} {x3 : Int32} {x4 : Int32} {x5 : Int32} {x6 : Int32} {x7 : Int32} {x8 : Int32} {t0 : Int32} {z : ow_MS} {Q : (Int32 × ow_MS) → Prop} (H : Tt (fun K k => qm_X13_read_2 K (q_X13_read K k) x1 x2 x3 x4 x5 x6 x7 x8 t0 z) Q) : Tt (fun K k => q_X13_read K k 2 x1 x2 x3 x4 x5 x6 x7 x8 t0 z) Q := w_un (fun _ _ => rfl) H
theorem e_X13_read {z : ow_MS} {Q : (Int32 × ow_MS) → Prop} (H : Tt (fun K k => q_X13_read K k 0 0 0 0 0 0 0 0 0 0 z) Q) : Te (fun K => qe_X13_read K z) Q := w_te H
theorem u_X13_read_0 {x1 : Int32} {x2 : Int32} {x3 : Int32} {x4 : Int32} {x5 : Int32} {x6 : Int32} {x7 : Int32} {x8 : Int32} {t0 : Int32} {z : ow_MS} {Q : (Int32 × ow_MS) → Prop} (H : Tt (fun K k => qm_X13_read_0 K (q_X13_read K k) x1 x2 x3 x4 x5 x6 x7 x8 t0 z) Q) : Tt (fun K k => q_X13_read K k 0 x1 x2 x3 x4 x5 x6 x7 x8 t0 z) Q := w_un (fun _ _ => rfl) H
theorem tm_read {X : (Nat → Nat → Int32) → Prop} {z : ow_MS} (h : gI X z) : Te (fun K => qe_X13_read K z) (fun r => fr frV z r.2 ∧ (r.1 = -1 → mNet r.2 3000)) := by
  obtain ⟨t, ht, h11⟩ := h.1
  let Q : Int32 × ow_MS → Prop := fun r => fr frV z r.2 ∧ (r.1 = -1 → mNet r.2 3000) 
  have t11 : ∀ {y : ow_MS}, fr frV z y → y.1 11 = nI t := fun hf => by rw [(hf 11 (by unfold frV; omega)).1]; exact h11
  have ret : ∀ (a : Nat) (y : ow_MS), a < 1000 → fr frV z y → Q (nI a, y) := fun a y ha hf => ⟨hf, fun e => absurd e (rn_neg1 (by omega))⟩
  -- the end: are all crossings met twice
  have l10 : ∀ (x2 : Int32) (A1 : rn_L) (N : Nat), A1.length ≤ 6 → ∀ (k j l : Nat) (y : ow_MS), j + k = N → fr frV z y → rD y A1 [] N t → (l = t + 1 ∧ (∀ i, i < j → hb (A1.flatten ++ []) i = 3) ∨ l ≤ t) → Tt (fun K i => q_X13_read K i 10 (nI N) x2 (nI l) (nI j) 0 0 0 0 0 y) Q := by
    intro x2 A1 N hA6 k
    induction k with
    | zero =>
      intro j l y hj hf hR hl
      obtain ⟨r1, r2, r3, r4, r5⟩ := hR
      refine u_X13_read_10 ?_; unfold qm_X13_read_10
      refine w_leT (by omega) (by omega) (w_rdF (t11 hf) (w_lt (by omega) (by omega) (fun h9 => ?_) (fun h9 => w_some (ret l y (by omega) hf))))
      have hall : ∀ i, i < N → hb (A1.flatten ++ []) i = 3 := fun i hi => by
        rcases hl with ⟨-, hl⟩ | hl
        · exact hl i (by omega)
        · omega
      rw [List.append_nil] at r2 r3 hall
      have wk : wkF A1.flatten := by
        refine ⟨r2, fun p hp => ?_⟩
        obtain ⟨p1, p2⟩ := r3 p hp
        refine ⟨by omega, p2, ?_⟩
        obtain ⟨m0, m1⟩ := hb_3 (hall p.1 p1)
        have : 1 - p.2 = 0 ∨ 1 - p.2 = 1 := by omega
        rcases this with e | e <;> rw [e]
        · exact m0
        · exact m1
      have hlen := rd_len r2 r3
      refine w_cs0 (tn_link pn3 (by omega) (by omega) (wkF_ok wk).1 r1) (fun y1 ⟨g1, g2, g3⟩ => w_cs1 (tn_plane pn3 (by omega) (by omega) (wkF_ok wk) ⟨g2, g3⟩) (fun a y2 ⟨_, k2, k3, _, _⟩ => ?_))
      have k2 : fr (fun g => 3000 + 12 ≤ g ∧ g ≤ 3000 + 16) y1 y2 := k2
      have k3 : rn_lk y2 3000 A1 := k3
      have hf2 : fr frV z y2 := fr_tr hf (fr_tr (fr_mono (fun g hg => Or.inr (by have := hg.1; have := hg.2; omega)) g1) (fr_mono (fun g hg => Or.inr (by omega)) k2))
      refine w_if (fun _ => w_rdF (t11 hf2) (w_some (ret t y2 (by omega) hf2))) (fun _ => w_some ⟨hf2, fun _ => ⟨A1, fun x => decide (y2.2.1 3006 x = -1), k3.1, fun p hp => ?_, wk, by omega, hA6⟩⟩)
      refine s1_sg ?_
      have e6 : y2.2.1 3006 = y.2.1 3006 := by rw [(k2 3006 (by omega)).2.1, (g1 3006 (fun h8 => by have := h8.1; omega)).2.1]
      obtain ⟨q1, q2, q3, q4⟩ := r5 p.1 (r3 p hp).1
      show s1 (y2.2.1 3006 p.1)
      rw [e6, q4 p.2 (by rw [List.append_nil]; exact hp)]
      exact q2
    | succ k ih =>
      intro j l y hj hf hR hl
      obtain ⟨q1, q2, ⟨a, qa, q3⟩, q4⟩ := hR.2.2.2.2 j (by omega)
      have r4 := hR.2.2.2.1
      have hbl := hb_lt (F := A1.flatten ++ []) (k := j)
      refine u_X13_read_10 ?_; unfold qm_X13_read_10
      refine w_leF (by omega) (by omega) (w_rdI ml19 rfl (by omega) q1 (w_eqN (b := 3) (by omega) (by omega) (fun h9 => ?_) (fun h9 => w_rdI ml18 rfl (by omega) q3 ?_)))
      · refine u_X13_read_11 ?_; unfold qm_X13_read_11
        rw [nI_1]
        refine ih (j + 1) l y (by omega) hf hR (hl.imp (fun ⟨e1, e2⟩ => ⟨e1, fun i hi => ?_⟩) id)
        by_cases hij : i = j
        · rw [hij]; exact h9
        · exact e2 i (by omega)
      · by_cases hal : a < l
        · rw [if_pos (nI_lt hal (by omega))]
          refine u_X13_read_11 ?_; unfold qm_X13_read_11
          rw [nI_1]
          exact ih (j + 1) a y (by omega) hf hR (Or.inr (by omega))
        · rw [if_neg (nI_nlt (by omega) (by omega))]
          refine u_X13_read_11 ?_; unfold qm_X13_read_11
          rw [nI_1]
          exact ih (j + 1) l y (by omega) hf hR (Or.inr (by omega))
  have main : ∀ (u i N : Nat) (A1 : rn_L) (B1 : List (Nat × Nat)) (y : ow_MS), i + u = t → A1.length ≤ 5 → fr frV z y → rD y A1 B1 N t → Tt (fun K k => q_X13_read K k 1 (nI N) (nI i) 0 0 0 0 0 0 0 y) Q := by
    intro u
    induction u using Nat.strongRecOn with
    | ind u ih =>
      intro i N A1 B1 y hi hA5 hf hR
      have hlen := rd_len hR.2.1 hR.2.2.1
      have r4 := hR.2.2.2.1
      -- a component is closed
      have endR : ∀ {y2 : ow_MS}, rn_At y2 3000 (A1 ++ [B1]) [] → fr (fun g => g = 3000 + 2 ∨ g = 3000 + 3) y y2 → rD y2 (A1 ++ [B1]) [] N t := by
        intro y2 h1 h2
        have e : (A1 ++ [B1]).flatten ++ [] = A1.flatten ++ B1 := by rw [List.flatten_append]; simp
        unfold rD
        rw [e, (h2 19 (by omega)).2.1, (h2 17 (by omega)).2.1, (h2 18 (by omega)).2.1, (h2 3006 (by omega)).2.1]
        exact ⟨h1, hR.2⟩
      refine u_X13_read_1 ?_; unfold qm_X13_read_1
      refine w_rdF (t11 hf) (w_le (by omega) (by omega) (fun hti => w_cs0 (tn_end pn3 hR.1 (by omega)) (fun y2 ⟨g1, g2⟩ => ?_)) (fun hit => ?_))
      · have hf2 : fr frV z y2 := fr_tr hf (fr_mono (fun g hg => Or.inr (by omega)) g2)
        refine w_rdF (t11 hf2) ?_
        rw [nI_1]
        exact l10 _ (A1 ++ [B1]) N (by rw [List.length_append]; show A1.length + 1 ≤ 6; omega) N 0 (t + 1) y2 (by omega) hf2 (endR g1 g2) (Or.inl ⟨rfl, fun i hi => by omega⟩)
      · -- a visit
        have l2 : ∀ (x3 : Int32), Tt (fun K k => q_X13_read K k 2 (nI N) (nI i) x3 0 0 0 0 0 0 y) Q := by
          intro x3
          have l9 : ∀ (N2 i2 k u9 : Nat) (x5 x6 : Int32) (y2 : ow_MS), i < i2 → i2 ≤ t → u9 < 2 → k < N2 → fr frV z y2 → rD y2 A1 B1 N2 t → Tt (fun K k9 => q_X13_read K k9 9 (nI N2) (nI i2) x3 (nI i) x5 x6 (nI u9) (nI k) 0 y2) Q := by
            intro N2 i2 k u9 x5 x6 y2 hi2 hit2 hu9 hkN hf2 hR2
            obtain ⟨q1, q2, q3, q4⟩ := hR2.2.2.2.2 k hkN
            have r42 := hR2.2.2.2.1
            have hlen2 := rd_len hR2.2.1 hR2.2.2.1
            refine u_X13_read_9 ?_; unfold qm_X13_read_9
            refine w_rdI ml19 rfl (by omega) q1 (w_if (fun hand => w_rdI ml17 rfl (by omega) rfl (w_if (fun hsg => w_rdI ml19 rfl (by omega) q1 (w_wrI ml19 rfl (by omega) (w_wrI (pl6 pn3) rfl (by omega) ?_))) (fun _ => w_some (ret i y2 (by omega) hf2)))) (fun _ => w_some (ret i y2 (by omega) hf2)))
            have hnot := (hb_and hu9).mp hand
            rw [hb_or hu9 hnot]
            obtain ⟨y3, hy3⟩ : ∃ y3, y3 = usI (usI y2 19 k (nI (hb (A1.flatten ++ B1 ++ [(k, u9)]) k))) 3006 k x6 := ⟨_, rfl⟩
            have f3 : fr (fun g => g = 19 ∨ g = 3006) y2 y3 := by rw [hy3]; exact fr_I2 (fr_I (Or.inl rfl)) (Or.inr rfl)
            rw [← hy3]
            refine w_cs0 (tn_add pn3 (fr_At f3 (fun g hg => by omega) hR2.1) (by omega)) (fun y4 ⟨g1, g2⟩ => ?_)
            have hf4 : fr frV z y4 := fr_tr hf2 (fr_tr (fr_mono (fun g hg => by unfold frV; omega) f3) (fr_mono (fun g hg => Or.inr (by omega)) g2))
            refine ih (t - i2) (by omega) i2 N2 A1 (B1 ++ [(k, u9)]) y4 (by omega) hA5 hf4 ?_
            have e : A1.flatten ++ (B1 ++ [(k, u9)]) = A1.flatten ++ B1 ++ [(k, u9)] := (List.append_assoc _ _ _).symm
            unfold rD
            rw [e, (g2 19 (by omega)).2.1, (g2 17 (by omega)).2.1, (g2 18 (by omega)).2.1, (g2 3006 (by omega)).2.1]
            refine ⟨g1, ?_, fun p hp => ?_, r42, fun j hj => ?_⟩
            · rw [List.nodup_append]
              refine ⟨hR2.2.1, by simp, fun a ha b hb9 e9 => hnot ?_⟩
              have : b = (k, u9) := by simpa using hb9
              rw [← this, ← e9]
              exact ha
            · rw [List.mem_append, List.mem_singleton] at hp
              rcases hp with hp | hp
              · exact hR2.2.2.1 p hp
              · rw [hp]
                exact ⟨hkN, hu9⟩
            · obtain ⟨j1, j2, j3, j4⟩ := hR2.2.2.2.2 j hj
              rw [hy3]
              by_cases hjk : j = k
              · subst hjk
                refine ⟨rd_ot (by decide) po_usI_at, ?_, ?_, fun u8 _ => ?_⟩
                · rw [po_usI_ot (by decide), po_usI_ot (by decide)]; exact j2
                · rw [po_usI_ot (by decide), po_usI_ot (by decide)]; exact j3
                · rw [po_usI_at, po_usI_ot (by decide), po_usI_ot (by decide)]
                  exact hsg.symm
              · refine ⟨rd_ot (by decide) (rd_ne hjk (by rw [hb_ot hjk]; exact j1)), ?_, ?_, fun u8 hu8 => ?_⟩
                · rw [po_usI_ot (by decide), po_usI_ot (by decide)]; exact j2
                · rw [po_usI_ot (by decide), po_usI_ot (by decide)]; exact j3
                · rw [po_usI_ne hjk, po_usI_ot (by decide), po_usI_ot (h := 3006) (by decide), po_usI_ot (by decide)]
                  refine j4 u8 ?_
                  rw [List.mem_append, List.mem_singleton] at hu8
                  exact hu8.resolve_right (fun h8 => hjk (Prod.mk.inj h8).1)
          have l8 : ∀ (i2 k u9 : Nat) (x5 x6 : Int32), i < i2 → i2 ≤ t → u9 < 2 → k ≤ N → s1 x6 → Tt (fun K k9 => q_X13_read K k9 8 (nI N) (nI i2) x3 (nI i) x5 x6 (nI u9) (nI k) 0 y) Q := by
            intro i2 k u9 x5 x6 hi2 hit2 hu9 hkN hs6
            refine u_X13_read_8 ?_; unfold qm_X13_read_8
            refine w_eqN (by omega) (by omega) (fun hke => w_eqN (b := 12) (by omega) (by omega) (fun _ => w_some (ret i y (by omega) hf)) (fun hN12 => w_wrI ml16 rfl (by omega) (w_wrI ml17 rfl (by omega) (w_wrI ml18 rfl (by omega) (w_wrI ml19 rfl (by omega) ?_))))) (fun hke => l9 N i2 k u9 x5 x6 y hi2 hit2 hu9 (by omega) hf hR)
            subst hke
            rw [nI_1]
            have f3 : fr (fun g => 16 ≤ g ∧ g ≤ 19) y (usI (usI (usI (usI y 16 k x5) 17 k x6) 18 k (nI i)) 19 k 0) := fr_I2 (fr_I2 (fr_I2 (fr_I (by decide)) (by decide)) (by decide)) (by decide)
            refine l9 (k + 1) i2 k u9 x5 x6 _ hi2 hit2 hu9 (by omega) (fr_tr hf (fr_mono (fun g hg => Or.inl hg) f3)) ⟨fr_At f3 (fun g hg => by omega) hR.1, hR.2.1, fun p hp => ⟨by have := (hR.2.2.1 p hp).1; omega, (hR.2.2.1 p hp).2⟩, by omega, fun j hj => ?_⟩
            by_cases hjk : j = k
            · subst hjk
              have hno : ∀ u8, (j, u8) ∉ A1.flatten ++ B1 := fun u8 h8 => by
                have := (hR.2.2.1 _ h8).1
                have : j < j := this
                omega
              have h0 : hb (A1.flatten ++ B1) j = 0 := by
                unfold hb
                rw [if_neg (hno 0), if_neg (hno 1)]
              refine ⟨?_, ?_, ⟨i, by omega, ?_⟩, fun u8 h8 => absurd h8 (hno u8)⟩
              · rw [h0]
                exact po_usI_at
              · rw [po_usI_ot (by decide), po_usI_ot (by decide), po_usI_at]
                exact hs6
              · rw [po_usI_ot (by decide), po_usI_at]
            · obtain ⟨j1, j2, ⟨a, j3, j5⟩, j4⟩ := hR.2.2.2.2 j (by omega)
              refine ⟨rd_ne hjk (rd_ot (by decide) (rd_ot (by decide) (rd_ot (by decide) j1))), ?_, ⟨a, j3, rd_ot (by decide) (rd_ne hjk (rd_ot (by decide) (rd_ot (by decide) j5)))⟩, fun u8 h8 => ?_⟩
              · rw [po_usI_ot (by decide), po_usI_ot (by decide), po_usI_ne hjk, po_usI_ot (by decide)]
                exact j2
              · rw [(f3 3006 (by omega)).2.1, j4 u8 h8]
                exact (rd_ot (by decide) (rd_ot (by decide) (rd_ne hjk (rd_ot (by decide) rfl)))).symm
          have l7 : ∀ (i2 u9 : Nat) (x5 x6 : Int32), i < i2 → i2 ≤ t → u9 < 2 → s1 x6 → ∀ (d k : Nat), k + d = N → Tt (fun K k9 => q_X13_read K k9 7 (nI N) (nI i2) x3 (nI i) x5 x6 (nI u9) (nI k) 0 y) Q := by
            intro i2 u9 x5 x6 hi2 hit2 hu9 hs6 d
            induction d with
            | zero =>
              intro k hk
              refine u_X13_read_7 ?_; unfold qm_X13_read_7
              exact w_leT (by omega) (by omega) (l8 i2 k u9 x5 x6 hi2 hit2 hu9 (by omega) hs6)
            | succ d ihd =>
              intro k hk
              refine u_X13_read_7 ?_; unfold qm_X13_read_7
              rw [nI_1]
              exact w_leF (by omega) (by omega) (w_rdI ml16 rfl (by omega) rfl (w_if (fun _ => l8 i2 k u9 x5 x6 hi2 hit2 hu9 (by omega) hs6) (fun _ => ihd (k + 1) (by omega))))
          have l5 : ∀ (i2 : Nat) (x5 t0 : Int32), i < i2 + 1 → i2 + 1 ≤ t → s1 t0 → Tt (fun K k9 => q_X13_read K k9 5 (nI N) (nI i2) x3 (nI i) x5 0 0 0 t0 y) Q := by
            intro i2 x5 t0 hi2 hit2 hs6
            refine u_X13_read_5 ?_; unfold qm_X13_read_5
            rw [nI_1]
            refine w_if (fun _ => ?_) (fun _ => ?_)
            · refine u_X13_read_6 ?_; unfold qm_X13_read_6
              exact l7 (i2 + 1) 1 x5 t0 hi2 hit2 (by omega) hs6 N 0 (by omega)
            · refine u_X13_read_6 ?_; unfold qm_X13_read_6
              exact l7 (i2 + 1) 0 x5 t0 hi2 hit2 (by omega) hs6 N 0 (by omega)
          have l4 : ∀ (i2 : Nat) (x5 : Int32), i < i2 + 1 → i2 + 1 ≤ t → Tt (fun K k9 => q_X13_read K k9 4 (nI N) (nI i2) x3 (nI i) x5 0 0 0 0 y) Q := by
            intro i2 x5 hi2 hit2
            refine u_X13_read_4 ?_; unfold qm_X13_read_4
            refine w_cs1 (tm_byteAt (by omega) ht (t11 hf)) (fun a y9 ⟨e, _⟩ => ?_)
            have e : y9 = y := e
            subst e
            exact w_if (fun _ => l5 i2 x5 1 hi2 hit2 (Or.inl rfl)) (fun _ => l5 i2 x5 (-1) hi2 hit2 (Or.inr rfl))
          have l3 : ∀ (i2 : Nat) (x5 : Int32), i < i2 → i2 ≤ t → Tt (fun K k9 => q_X13_read K k9 3 (nI N) (nI i2) x3 (nI i) x5 0 0 0 0 y) Q := by
            intro i2 x5 hi2 hit2
            refine u_X13_read_3 ?_; unfold qm_X13_read_3
            refine w_rdF (t11 hf) (w_eqN (by omega) (by omega) (fun _ => w_rdF (t11 hf) (w_some (ret t y (by omega) hf))) (fun hne => w_cs1 (tm_byteAt (by omega) ht (t11 hf)) (fun a y9 ⟨e, _⟩ => ?_)))
            have e : y9 = y := e
            subst e
            refine w_if (fun _ => l4 i2 x5 (by omega) (by omega)) (fun _ => w_cs1 (tm_byteAt (by omega) ht (t11 hf)) (fun a y9 ⟨e, _⟩ => ?_))
            have e : y9 = _ := e
            subst e
            exact w_if (fun _ => l4 i2 x5 (by omega) (by omega)) (fun _ => w_some (ret i2 _ (by omega) hf))
          refine u_X13_read_2 ?_; unfold qm_X13_read_2
          rw [nI_1, nI_1, nI_1]
          refine w_rdF (t11 hf) (w_eqN (by omega) (by omega) (fun _ => w_rdF (t11 hf) (w_some (ret t y (by omega) hf))) (fun hne => w_cs1 (tm_byteAt (by omega) ht (t11 hf)) (fun a1 y1 ⟨e1, _⟩ => ?_)))
          have e1 : y1 = y := e1
          subst e1
          refine w_if (fun _ => w_some (ret (i + 1) _ (by omega) hf)) (fun _ => w_cs1 (tm_byteAt (by omega) ht (t11 hf)) (fun a2 y2 ⟨e2, _⟩ => ?_))
          have e2 : y2 = _ := e2
          subst e2
          refine w_if (fun _ => w_cs1 (tm_byteAt (by omega) ht (t11 hf)) (fun a3 y3 ⟨e3, _⟩ => ?_)) (fun _ => w_some (ret (i + 1) _ (by omega) hf))
          have e3 : y3 = _ := e3
          subst e3
          refine w_cs1 (tm_byteAt (by omega) ht (t11 hf)) (fun a4 y4 ⟨e4, v4⟩ => ?_)
          have e4 : y4 = _ := e4
          have w4 : t ≤ i + 1 + 1 → a4 = -1 := v4
          subst e4
          refine w_if (fun _ => l3 (i + 1 + 1) _ (by omega) (by omega)) (fun h48 => w_cs1 (tm_byteAt (by omega) ht (t11 hf)) (fun a5 y5 ⟨e5, _⟩ => ?_))
          have e5 : y5 = _ := e5
          subst e5
          have hi3 : i + 1 + 1 < t := by
            rcases Nat.lt_or_ge (i + 1 + 1) t with h9 | h9
            · exact h9
            · exact absurd (by rw [w4 h9]; decide) h48
          refine w_if (fun _ => l3 (i + 1 + 1) _ (by omega) (by omega)) (fun _ => w_cs1 (tm_byteAt (by omega) ht (t11 hf)) (fun a6 y6 ⟨e6, _⟩ => ?_))
          have e6 : y6 = _ := e6
          subst e6
          exact l3 (i + 1 + 1 + 1) _ (by omega) (by omega)
        refine w_rdI ml10 rfl (by omega) rfl (w_if (fun _ => w_cs0 (tn_end pn3 hR.1 (by omega)) (fun y2 ⟨g1, g2⟩ => ?_)) (fun _ => w_if (fun _ => l2 _) (fun _ => w_if (fun _ => l2 _) (fun _ => w_some (ret i y (by omega) hf)))))
        have hf2 : fr frV z y2 := fr_tr hf (fr_mono (fun g hg => Or.inr (by omega)) g2)
        have hAl : (A1 ++ [B1]).length = A1.length + 1 := by rw [List.length_append]; rfl
        have e2 : y2.1 (3000 + 2) = nI (A1.length + 1) := by rw [g1.2.1, hAl]
        refine w_rdF e2 (w_eqN (b := 6) (by omega) (by omega) (fun _ => w_some (ret i y2 (by omega) hf2)) (fun h6 => ?_))
        rw [nI_1]
        exact ih (t - (i + 1)) (by omega) (i + 1) N (A1 ++ [B1]) [] y2 (by omega) (by omega) hf2 (endR g1 g2)
  refine e_X13_read ?_
  refine u_X13_read_0 ?_; unfold qm_X13_read_0
  refine w_cs0 (tn_clear pn3) (fun z1 ⟨g1, g2⟩ => main t 0 0 [] [] z1 (by omega) (by simp) (fr_mono (fun g hg => Or.inr (by omega)) g2) ⟨g1, List.nodup_nil, fun p hp => by simp at hp, by omega, fun k hk => by omega⟩)
theorem e_X13_diagram {z : ow_MS} {Q : (Int32 × ow_MS) → Prop} (H : Tt (fun K _ => qm_X13_diagram_0 K z) Q) : Te (fun K => qe_X13_diagram K z) Q := w_te0 H
theorem tp_diagram {X : (Nat → Nat → Int32) → Prop} {z : ow_MS} (h : gI X z) : Te (fun K => qe_X13_diagram K z) (fun r => gI X r.2) := by
  have h1 := gI_1 (c := 0) h
  refine e_X13_diagram ?_; unfold qm_X13_diagram_0
  refine w_wrF (w_free (w_ifT rfl (w_fail h1)) (fun f hf hfr => w_ifF (rn_neg1 (by omega)) (w_cs1 (tm_read h1) (fun a y ⟨g1, g2⟩ => w_wrF ?_))))
  have g1 : fr frV (usF z 1 0) y := g1
  have g2 : a = -1 → mNet y 3000 := g2
  have hI : gI X (usF y 11 0) := gI_t (t := 0) rfl (by omega) (gI_fr g1 (fun g hg => by unfold frV at hg; unfold per; omega) h1)
  refine w_if (fun ha => w_keep hI (frD_eq (g1 12 (by unfold frV; omega)).2.1 hfr) ?_) (fun _ => w_some hI)
  obtain ⟨A, sg, m1, m2, m3⟩ := g2 ha
  have f2 : fr (fun g => g = 11) y (usF y 11 0) := fr_F rfl
  exact ⟨A, sg, fr_At f2 (fun g hg => by omega) m1, m2, m3⟩
end
section
/-! 99zzz.braid -/
/-! braids of the reference: places, braid, product, inverse -/
theorem i32_a (y : Int32) : 0 - (y + 1) = -1 - y := by
  rw [Int32.zero_sub, Int32.neg_add, Int32.sub_eq_add_neg, Int32.sub_eq_add_neg, Int32.add_comm]
theorem i32_b (y : Int32) : 0 - (-1 - y) = y + 1 := by
  have h : -1 - y = 0 - (y + 1) := (i32_a y).symm
  rw [h, Int32.zero_sub, Int32.zero_sub, Int32.neg_neg]
/-- a letter on n strands -/
def ltr (n : Nat) (x : Int32) : Prop := ∃ a, a + 1 < n ∧ (x = nI (a + 1) ∨ x = -1 - nI a)
theorem ltr_neg {n : Nat} {x : Int32} (h : ltr n x) : ltr n (0 - x) := by
  obtain ⟨a, h1, h2⟩ := h
  refine ⟨a, h1, ?_⟩
  have e1 : nI (a + 1) = nI a + 1 := nI_succ a
  rcases h2 with h2 | h2
  · exact Or.inr (by rw [h2, e1, i32_a])
  · exact Or.inl (by rw [h2, e1, i32_b])
/-- a braid that is there -/
def hBr (z : ow_MS) (b n l : Nat) : Prop := 2 ≤ n ∧ n ≤ 5 ∧ l ≤ 16 ∧ z.2.1 96 b = nI n ∧ z.2.1 95 b = nI l ∧ ∀ i, i < l → ltr n (z.2.1 94 (16 * b + i))
theorem hBr_g {z : ow_MS} {b n l : Nat} (h : hBr z b n l) : gBr z b := ⟨n, l, h.2.1, by have := h.1; omega, h.2.2.2.1, fun _ => ⟨h.2.2.1, h.2.2.2.2.1, h.2.2.2.2.2⟩⟩
theorem gBr_h {z : ow_MS} {b : Nat} (h : gBr z b) : z.2.1 96 b = 0 ∨ ∃ n l, hBr z b n l := by
  obtain ⟨n, l, h1, h2, h3, h4⟩ := h
  rcases Nat.eq_zero_or_pos n with e | e
  · exact Or.inl (by rw [h3, e]; rfl)
  · obtain ⟨g1, g2, g3⟩ := h4 e
    exact Or.inr ⟨n, l, by omega, h1, g1, h3, g2, g3⟩
theorem hBr_eq {z z1 : ow_MS} {b n l : Nat} (h : hBr z b n l) (e6 : z1.2.1 96 b = z.2.1 96 b) (e5 : z1.2.1 95 b = z.2.1 95 b) (e4 : ∀ i, i < 16 → z1.2.1 94 (16 * b + i) = z.2.1 94 (16 * b + i)) : hBr z1 b n l := by
  obtain ⟨h1, h2, h3, h4, h5, h6⟩ := h
  exact ⟨h1, h2, h3, by rw [e6]; exact h4, by rw [e5]; exact h5, fun i hi => by rw [e4 i (by omega)]; exact h6 i hi⟩
section BR
variable {X : (Nat → Nat → Int32) → Prop} {z : ow_MS}
theorem gI_br {P : Nat → Prop} {z1 : ow_MS} (hf : fr P z z1) (hP : ∀ g, P g → 94 ≤ g ∧ g ≤ 96 ∨ ¬ per g) (hr : gBrs z1) (h : gI X z) : gI X z1 := by
  obtain ⟨h1, h2, h3, h4, h5, h6, h7⟩ := h
  have no : ∀ g, per g → ¬ (94 ≤ g ∧ g ≤ 96) → ¬ P g := fun g hg hne h9 => (hP g h9).elim hne (fun h8 => h8 hg)
  exact ⟨gTape_fr hf (no 11 (by decide) (by decide)) h1, gRows_fr hf (no 12 (by decide) (by decide)) h2, gList_fr hf (no 20 (by decide) (by decide)) (no 21 (by decide) (by decide)) (no 22 (by decide) (by decide)) h3, gSum_fr hf (no 35 (by decide) (by decide)) (no 39 (by decide) (by decide)) (no 36 (by decide) (by decide)) h4, gCash_fr hf (no 43 (by decide) (by decide)) (no 45 (by decide) (by decide)) (no 50 (by decide) (by decide)) (no 65 (by decide) (by decide)) (no 67 (by decide) (by decide)) h5, hr, gX_fr hf (fun g hg h9 => (hP g hg).elim (fun e => by omega) (fun h8 => h8 (by unfold per; omega))) h7⟩
theorem e_X13_hasBraid {x1 : Int32} {z : ow_MS} {Q : (Int32 × ow_MS) → Prop} (H : Tt (fun K _ => qm_X13_hasBraid_0 K x1 z) Q) : Te (fun K => qe_X13_hasBraid K x1 z) Q := w_te0 H
theorem w_hasB {O : Type} {x : Int32} {Q : O → Prop} {B : Int32 → ow_MS → Nat → Nat → Option O} (h : gBrs z) (H0 : Tt (B 0 z) Q) (H1 : ∀ b n l, b < 20 → x = nI b → hBr z b n l → Tt (B 1 z) Q) : Tt (fun K k => cs1 (qe_X13_hasBraid K x z) fun v z1 => B v z1 K k) Q := by
  have key : Te (fun K => qe_X13_hasBraid K x z) (fun r => r = (0, z) ∨ r = (1, z) ∧ ∃ b n l, b < 20 ∧ x = nI b ∧ hBr z b n l) := by
    refine e_X13_hasBraid ?_; unfold qm_X13_hasBraid_0
    refine w_if (fun _ => w_okZ (Or.inl rfl) (w_some (Or.inl rfl))) (fun h0 => w_if (fun _ => w_okZ (Or.inl rfl) (w_some (Or.inl rfl))) (fun h1 => ?_))
    obtain ⟨b, hb, rfl⟩ : ∃ b, b < 20 ∧ x = nI b := by
      rcases pk_ix x (n := 20) (by omega) with h9 | h9 | h9
      · exact absurd h9 h0
      · exact absurd h9 h1
      · exact h9
    refine w_rdI ml96 rfl (by omega) rfl (w_if (fun _ => w_okZ (Or.inl rfl) (w_some (Or.inl rfl))) (fun h9 => w_okZ (Or.inr rfl) (w_some (Or.inr ⟨rfl, ?_⟩))))
    rcases gBr_h (h b hb) with e | ⟨n, l, hh⟩
    · rw [e] at h9
      exact absurd (by decide) h9
    · exact ⟨b, n, l, hb, rfl, hh⟩
  refine w_cs1 key (fun a z1 e => ?_)
  rcases e with e | ⟨e, b, n, l, hb, hx, hh⟩
  · cases e
    exact H0
  · cases e
    exact H1 b n l hb hx hh
theorem u_X13_freeBraid_1 {x1 : Int32} {z : ow_MS} {Q : (Int32 × ow_MS) → Prop} (H : Tt (fun K k => qm_X13_freeBraid_1 K (q_X13_freeBraid K k) x1 z) Q) : Tt (fun K k => q_X13_freeBraid K k 1 x1 z) Q := w_un (fun _ _ => rfl) H
theorem u_X13_freeBraid_2 {x1 : Int32} {z : ow_MS} {Q : (Int32 × ow_MS) → Prop} (H : Tt (fun K k => qm_X13_freeBraid_2 K (q_X13_freeBraid K k) x1 z) Q) : Tt (fun K k => q_X13_freeBraid K k 2 x1 z) Q := w_un (fun _ _ => rfl) H
theorem e_X13_freeBraid {z : ow_MS} {Q : (Int32 × ow_MS) → Prop} (H : Tt (fun K k => q_X13_freeBraid K k 0 0 z) Q) : Te (fun K => qe_X13_freeBraid K z) Q := w_te H
theorem u_X13_freeBraid_0 {x1 : Int32} {z : ow_MS} {Q : (Int32 × ow_MS) → Prop} (H : Tt (fun K k => qm_X13_freeBraid_0 K (q_X13_freeBraid K k) x1 z) Q) : Tt (fun K k => q_X13_freeBraid K k 0 x1 z) Q := w_un (fun _ _ => rfl) H
theorem e_X13_dropBraid {x1 : Int32} {z : ow_MS} {Q : (Int32 × ow_MS) → Prop} (H : Tt (fun K _ => qm_X13_dropBraid_0 K x1 z) Q) : Te (fun K => qe_X13_dropBraid K x1 z) Q := w_te0 H
/-- a new braid at a free place -/
theorem gBrs_new {z1 : ow_MS} {c n l : Nat} (h : gBrs z) (hn : hBr z1 c n l) (e6 : ∀ d, d ≠ c → z1.2.1 96 d = z.2.1 96 d) (e5 : ∀ d, d ≠ c → z1.2.1 95 d = z.2.1 95 d) (e4 : ∀ d, d ≠ c → ∀ i, i < 16 → z1.2.1 94 (16 * d + i) = z.2.1 94 (16 * d + i)) : gBrs z1 := fun d hd => by
  by_cases hdc : d = c
  · rw [hdc]
    exact hBr_g hn
  · rcases gBr_h (h d hd) with e | ⟨n2, l2, hh2⟩
    · exact ⟨0, 0, by omega, by omega, (e6 d hdc).trans e, fun h9 => by omega⟩
    · exact hBr_g (hBr_eq hh2 (e6 d hdc) (e5 d hdc) (e4 d hdc))
/-- words are written at a place that is free still -/
theorem gBrs_wr {z1 : ow_MS} {c : Nat} (h : gBrs z) (hc : z.2.1 96 c = 0) (e6 : z1.2.1 96 = z.2.1 96) (e5 : z1.2.1 95 = z.2.1 95) (e4 : ∀ d, d ≠ c → ∀ i, i < 16 → z1.2.1 94 (16 * d + i) = z.2.1 94 (16 * d + i)) : gBrs z1 := fun d hd => by
  by_cases hdc : d = c
  · rw [hdc]
    exact ⟨0, 0, by omega, by omega, by rw [e6]; exact hc, fun h9 => by omega⟩
  · rcases gBr_h (h d hd) with e | ⟨n2, l2, hh2⟩
    · exact ⟨0, 0, by omega, by omega, by rw [e6]; exact e, fun h9 => by omega⟩
    · exact hBr_g (hBr_eq hh2 (by rw [e6]) (by rw [e5]) (e4 d hdc))
theorem u_X13_braid_1 {x1 : Int32} {x2 : Int32} {x3 : Int32} {x4 : Int32} {x5 : Int32} {x6 : Int32} {x7 : Int32} {t0 : Int32} {t1 : Int32} {z : ow_MS} {Q : (Int32 × ow_MS) → Prop} (H : Tt (fun K k => qm_X13_braid_1 K (q_X13_braid K k) x1 x2 x3 x4 x5 x6 x7 t0 t1 z) Q) : Tt (fun K k => q_X13_braid K k 1 x1 x2 x3 x4 x5 x6 x7 t0 t1 z) Q := w_un (fun _ _ => rfl) H
theorem e_X13_braid {x1 : Int32} {z : ow_MS} {Q : (Int32 × ow_MS) → Prop} (H : Tt (fun K k => q_X13_braid K k 0 x1 0 0 0 0 0 0 0 0 z) Q) : Te (fun K => qe_X13_braid K x1 z) Q := w_te H
theorem u_X13_braid_0 {x1 : Int32} {x2 : Int32} {x3 : Int32} {x4 : Int32} {x5 : Int32} {x6 : Int32} {x7 : Int32} {t0 : Int32} {t1 : Int32} {z : ow_MS} {Q : (Int32 × ow_MS) → Prop} (H : Tt (fun K k => qm_X13_braid_0 K (q_X13_braid K k) x1 x2 x3 x4 x5 x6 x7 t0 t1 z) Q) : Tt (fun K k => q_X13_braid K k 0 x1 x2 x3 x4 x5 x6 x7 t0 t1 z) Q := w_un (fun _ _ => rfl) H
theorem u_X13_braid_10 {x1 : Int32} {x2 : Int32} {x3 : Int32} {x4 : Int32} {x5 : Int32} {x6 : Int32} {x7 : Int32} {t0 : Int32} {t1 : Int32} {z : ow_MS} {Q : (Int32 × ow_MS) → Prop} (H : Tt (fun K k => qm_X13_braid_10 K (q_X13_braid K k) x1 x2 x3 x4 x5 x6 x7 t0 t1 z) Q) : Tt (fun K k => q_X13_braid K k 10 x1 x2 x3 x4 x5 x6 x7 t0 t1 z) Q := w_un (fun _ _ => rfl) H
theorem u_X13_braid_2 {x1 : Int32} {x2 : Int32} {x3 : Int32} {x4 : Int32} {x5 : Int32} {x6 : Int32} {x7 : Int32} {t0 : Int32} {t1 : Int32} {z : ow_MS} {Q : (Int32 × ow_MS) → Prop} (H : Tt (fun K k => qm_X13_braid_2 K (q_X13_braid K k) x1 x2 x3 x4 x5 x6 x7 t0 t1 z) Q) : Tt (fun K k => q_X13_braid K k 2 x1 x2 x3 x4 x5 x6 x7 t0 t1 z) Q := w_un (fun _ _ => rfl) H
theorem u_X13_braid_7 {x1 : Int32} {x2 : Int32} {x3 : Int32} {x4 : Int32} {x5 : Int32} {x6 : Int32} {x7 : Int32} {t0 : Int32} {t1 : Int32} {z : ow_MS} {Q : (Int32 × ow_MS) → Prop} (H : Tt (fun K k => qm_X13_braid_7 K (q_X13_braid K k) x1 x2 x3 x4 x5 x6 x7 t0 t1 z) Q) : Tt (fun K k => q_X13_braid K k 7 x1 x2 x3 x4 x5 x6 x7 t0 t1 z) Q := w_un (fun _ _ => rfl) H
theorem u_X13_braid_9 {x1 : Int32} {x2 : Int32} {x3 : Int32} {x4 : Int32} {x5 : Int32} {x6 : Int32} {x7 : Int32} {t0 : Int32} {t1 : Int32} {z : ow_MS} {Q : (Int32 × ow_MS) → Prop} (H : Tt (fun K k => qm_X13_braid_9 K (q_X13_braid K k) x1 x2 x3 x4 x5 x6 x7 t0 t1 z) Q) : Tt (fun K k => q_X13_braid K k 9 x1 x2 x3 x4 x5 x6 x7 t0 t1 z) Q := w_un (fun _ _ => rfl) H
theorem u_X13_braid_8 {x1 : Int32} {x2 : Int32} {x3 : Int32} {x4 : Int32} {x5 : Int32} {x6 : Int32} {x7 : Int32} {t0 : Int32} {t1 : Int32} {z : ow_MS} {Q : (Int32 × ow_MS) → Prop} (H : Tt (fun K k => qm_X13_braid_8 K (q_X13_braid K k) x1 x2 x3 x4 x5 x6 x7 t0 t1 z) Q) : Tt (fun K k => q_X13_braid K k 8 x1 x2 x3 x4 x5 x6 x7 t0 t1 z) Q := w_un (fun _ _ => rfl) H
theorem u_X13_braid_5 {x1 : Int32} {x2 : Int32} {x3 : Int32} {x4 : Int32} {x5 : Int32} {x6 : Int32} {x7 : Int32} {t0 : Int32} {t1 : Int32} {z : ow_MS} {Q : (Int32 × ow_MS) → Prop} (H : Tt (fun K k => qm_X13_braid_5 K (q_X13_braid K k) x1 x2 x3 x4 x5 x6 x7 t0 t1 z) Q) : Tt (fun K k => q_X13_braid K k 5 x1 x2 x3 x4 x5 x6 x7 t0 t1 z) Q := w_un (fun _ _ => rfl) H
theorem u_X13_braid_6 {x1 : Int32} {x2 : Int32} {x3 : Int32} {x4 : Int32} {x5 : Int32} {x6 : Int32} {x7 : Int32} {t0 : Int32} {t1 : Int32} {z : ow_MS} {Q : (Int32 × ow_MS) → Prop} (H : Tt (fun K k => qm_X13_braid_6 K (q_X13_braid K k) x1 x2 x3 x4 x5 x6 x7 t0 t1 z) Q) : Tt (fun K k => q_X13_braid K k 6 x1 x2 x3 x4 x5 x6 x7 t0 t1 z) Q := w_un (fun _ _ => rfl) H
theorem u_X13_braid_4 {x1 : Int32} {x2 : Int32} {x3 : Int32} {x4 : Int32} {x5 : Int32} {x6 : Int32} {x7 : Int32} {t0 : Int32} {t1 : Int32} {z : ow_MS} {Q : (Int32 × ow_MS) → Prop} (H : Tt (fun K k => qm_X13_braid_4 K (q_X13_braid K k) x1 x2 x3 x4 x5 x6 x7 t0 t1 z) Q) : Tt (fun K k => q_X13_braid K k 4 x1 x2 x3 x4 x5 x6 x7 t0 t1 z) Q := w_un (fun _ _ => rfl) H
theorem u_X13_braid_3 {x1 : Int32} {x2 : Int32} {x3 : Int32} {x4 : Int32} {x5 : Int32} {x6 : Int32} {x7 : Int32} {t0 : Int32} {t1 : Int32} {z : ow_MS} {Q : (Int32 × ow_MS) → Prop} (H : Tt (fun K k => qm_X13_braid_3 K (q_X13_braid K k) x1 x2 x3 x4 x5 x6 x7 t0 t1 z) Q) : Tt (fun K k => q_X13_braid K k 3 x1 x2 x3 x4 x5 x6 x7 t0 t1 z) Q := w_un (fun _ _ => rfl) H
theorem u_X13_product_1 {x1 : Int32} {x2 : Int32} {x3 : Int32} {x4 : Int32} {t0 : Int32} {t1 : Int32} {z : ow_MS} {Q : (Int32 × ow_MS) → Prop} (H : Tt (fun K k => qm_X13_product_1 K (q_X13_product K k) x1 x2 x3 x4 t0 t1 z) Q) : Tt (fun K k => q_X13_product K k 1 x1 x2 x3 x4 t0 t1 z) Q := w_un (fun _ _ => rfl) H
theorem e_X13_product {x1 : Int32} {x2 : Int32} {z : ow_MS} {Q : (Int32 × ow_MS) → Prop} (H : Tt (fun K k => q_X13_product K k 0 x1 x2 0 0 0 0 z) Q) : Te (fun K => qe_X13_product K x1 x2 z) Q := w_te H
theorem u_X13_product_0 {x1 : Int32} {x2 : Int32} {x3 : Int32} {x4 : Int32} {t0 : Int32} {t1 : Int32} {z : ow_MS} {Q : (Int32 × ow_MS) → Prop} (H : Tt (fun K k => qm_X13_product_0 K (q_X13_product K k) x1 x2 x3 x4 t0 t1 z) Q) : Tt (fun K k => q_X13_product K k 0 x1 x2 x3 x4 t0 t1 z) Q := w_un (fun _ _ => rfl) H
theorem u_X13_product_2 {x1 : Int32} {x2 : Int32} {x3 : Int32} {x4 : Int32} {t0 : Int32} {t1 : Int32} {z : ow_MS} {Q : (Int32 × ow_MS) → Prop} (H : Tt (fun K k => qm_X13_product_2 K (q_X13_product K k) x1 x2 x3 x4 t0 t1 z) Q) : Tt (fun K k => q_X13_product K k 2 x1 x2 x3 x4 t0 t1 z) Q := w_un (fun _ _ => rfl) H
theorem u_X13_product_3 {x1 : Int32} {x2 : Int32} {x3 : Int32} {x4 : Int32} {t0 : Int32} {t1 : Int32} {z : ow_MS} {Q : (Int32 × ow_MS) → Prop} (H : Tt (fun K k => qm_X13_product_3 K (q_X13_product K k) x1 x2 x3 x4 t0 t1 z) Q) : Tt (fun K k => q_X13_product K k 3 x1 x2 x3 x4 t0 t1 z) Q := w_un (fun _ _ => rfl) H
theorem e_X13_inverse {x1 : Int32} {z : ow_MS} {Q : (Int32 × ow_MS) → Prop} (H : Tt (fun K k => q_X13_inverse K k 0 x1 0 0 z) Q) : Te (fun K => qe_X13_inverse K x1 z) Q := w_te H
theorem u_X13_inverse_0 {x1 : Int32} {x2 : Int32} {x3 : Int32} {z : ow_MS} {Q : (Int32 × ow_MS) → Prop} (H : Tt (fun K k => qm_X13_inverse_0 K (q_X13_inverse K k) x1 x2 x3 z) Q) : Tt (fun K k => q_X13_inverse K k 0 x1 x2 x3 z) Q := w_un (fun _ _ => rfl) H
theorem u_X13_inverse_1 {x1 : Int32} {x2 : Int32} {x3 : Int32} {z : ow_MS} {Q : (Int32 × ow_MS) → Prop} (H : Tt (fun K k => qm_X13_inverse_1 K (q_X13_inverse K k) x1 x2 x3 z) Q) : Tt (fun K k => q_X13_inverse K k 1 x1 x2 x3 z) Q := w_un (fun _ _ => rfl) H
theorem u_X13_summand_1 {x1 : Int32} {z : ow_MS} {Q : (Int32 × ow_MS) → Prop} (H : Tt (fun K k => qm_X13_summand_1 K (q_X13_summand K k) x1 z) Q) : Tt (fun K k => q_X13_summand K k 1 x1 z) Q := w_un (fun _ _ => rfl) H
theorem e_X13_summand {x1 : Int32} {z : ow_MS} {Q : (Int32 × ow_MS) → Prop} (H : Tt (fun K k => q_X13_summand K k 0 x1 z) Q) : Te (fun K => qe_X13_summand K x1 z) Q := w_te H
theorem u_X13_summand_0 {x1 : Int32} {z : ow_MS} {Q : (Int32 × ow_MS) → Prop} (H : Tt (fun K k => qm_X13_summand_0 K (q_X13_summand K k) x1 z) Q) : Tt (fun K k => q_X13_summand K k 0 x1 z) Q := w_un (fun _ _ => rfl) H
end BR
end
section
/-! 99zzza.close -/
/-! run, close, closure of the reference -/
/-- where a strand is after i letters -/
def psn (w : Nat → Nat) (s : Nat) : Nat → Nat
  | 0 => s
  | i + 1 => sw2 (w i) (w i + 1) (psn w s i)
theorem psn_inj {w : Nat → Nat} {s t : Nat} : ∀ i, psn w s i = psn w t i → s = t
  | 0, h => h
  | i + 1, h => by
    have e : sw2 (w i) (w i + 1) (psn w s i) = sw2 (w i) (w i + 1) (psn w t i) := h
    have := congrArg (sw2 (w i) (w i + 1)) e
    rw [sw2_inv, sw2_inv] at this
    exact psn_inj i this
theorem psn_lt {w : Nat → Nat} {s n : Nat} (hs : s < n) : ∀ i, (∀ j, j < i → w j + 1 < n) → psn w s i < n
  | 0, _ => hs
  | i + 1, h => sw2_lt (by have := h i (by omega); omega) (h i (by omega)) (psn_lt hs i (fun j hj => h j (by omega)))
theorem psn_sur {w : Nat → Nat} {n : Nat} : ∀ i p, p < n → (∀ j, j < i → w j + 1 < n) → ∃ s, s < n ∧ psn w s i = p
  | 0, p, hp, _ => ⟨p, hp, rfl⟩
  | i + 1, p, hp, h => by
    have hw := h i (by omega)
    obtain ⟨s, hs, e⟩ := psn_sur i (sw2 (w i) (w i + 1) p) (sw2_lt (by omega) hw hp) (fun j hj => h j (by omega))
    refine ⟨s, hs, ?_⟩
    show sw2 (w i) (w i + 1) (psn w s i) = p
    rw [e, sw2_inv]
/-- which visit of letter i a strand makes -/
def ubn (w : Nat → Nat) (lp : Nat → Bool) (s i : Nat) : Nat := if decide (psn w s i = w i) = lp i then 0 else 1
def onL (w : Nat → Nat) (s i : Nat) : Prop := psn w s i = w i ∨ psn w s i = w i + 1
theorem ubn_lt {w : Nat → Nat} {lp : Nat → Bool} {s i : Nat} : ubn w lp s i < 2 := by
  unfold ubn
  by_cases h : decide (psn w s i = w i) = lp i
  · rw [if_pos h]; omega
  · rw [if_neg h]; omega
theorem ubn_ne {w : Nat → Nat} {lp : Nat → Bool} {s t i : Nat} (hst : s ≠ t) (h1 : onL w s i) (h2 : onL w t i) : ubn w lp s i ≠ ubn w lp t i := by
  have hne : psn w s i ≠ psn w t i := fun e => hst (psn_inj i e)
  unfold ubn
  rcases h1 with h1 | h1 <;> rcases h2 with h2 | h2
  · exact absurd (h1.trans h2.symm) hne
  · rw [h1, h2, decide_eq_true rfl, decide_eq_false (by omega)]
    cases lp i <;> decide
  · rw [h1, h2, decide_eq_true rfl, decide_eq_false (by omega)]
    cases lp i <;> decide
  · exact absurd (h1.trans h2.symm) hne
/-- all visits of l letters -/
def aL (l : Nat) : rn_L := [(List.range l).flatMap (fun x => [(x, 0), (x, 1)])]
theorem aL_len (l : Nat) : (aL l).flatten.length = 2 * l := by
  have : ∀ c, ((List.range c).flatMap (fun x => [(x, 0), (x, 1)])).length = 2 * c := by
    intro c
    induction c with
    | zero => rfl
    | succ c ih => rw [List.range_succ, List.flatMap_append, List.length_append, ih]; simp; omega
  unfold aL
  have e : [(List.range l).flatMap (fun x => [(x, 0), (x, 1)])].flatten = (List.range l).flatMap (fun x => [(x, 0), (x, 1)]) := by simp
  rw [e]
  exact this l
theorem aL_at {l : Nat} : ∀ {i u : Nat}, i < l → u < 2 → vAt (aL l) (2 * i + u) = (i, u) := by
  intro i u hi hu
  have key : ∀ c, i < c → ((List.range c).flatMap (fun x => [(x, 0), (x, 1)]))[2 * i + u]? = some (i, u) := by
    intro c
    have hl : ∀ c, ((List.range c).flatMap (fun x => [(x, 0), (x, 1)])).length = 2 * c := by
      intro c
      induction c with
      | zero => rfl
      | succ c ih => rw [List.range_succ, List.flatMap_append, List.length_append, ih]; simp; omega
    induction c with
    | zero => intro h; omega
    | succ c ih =>
      intro h
      rw [List.range_succ, List.flatMap_append]
      by_cases hic : i < c
      · rw [List.getElem?_append_left (by rw [hl]; omega)]
        exact ih hic
      · have : i = c := by omega
        subst this
        rw [List.getElem?_append_right (by rw [hl]; omega), hl, Nat.add_sub_cancel_left]
        have : u = 0 ∨ u = 1 := by omega
        rcases this with e | e <;> subst e <;> simp
  refine vAt_eq ?_
  unfold aL
  have e : [(List.range l).flatMap (fun x => [(x, 0), (x, 1)])].flatten = (List.range l).flatMap (fun x => [(x, 0), (x, 1)]) := by simp
  rw [e]
  exact key l hi
theorem aL_ok (l : Nat) : okF (aL l).flatten l := by
  have hlen := aL_len l
  have inj : ∀ j, j < (aL l).flatten.length → vAt (aL l) j = (j / 2, j % 2) := fun j hj => by
    have := aL_at (l := l) (i := j / 2) (u := j % 2) (by omega) (by omega)
    rw [show 2 * (j / 2) + j % 2 = j by omega] at this
    exact this
  refine ⟨?_, fun p => ?_⟩
  · rw [List.nodup_iff_pairwise_ne, List.pairwise_iff_getElem]
    intro i j hi hj hij e
    have e1 := inj i hi
    have e2 := inj j hj
    rw [vAt_eq (List.getElem?_eq_getElem hi)] at e1
    rw [vAt_eq (List.getElem?_eq_getElem hj)] at e2
    rw [e1, e2] at e
    have a1 := (Prod.mk.inj e).1
    have a2 := (Prod.mk.inj e).2
    omega
  · constructor
    · intro hp
      obtain ⟨j, hj, e⟩ := List.getElem_of_mem hp
      have e1 := inj j hj
      rw [vAt_eq (List.getElem?_eq_getElem hj), e] at e1
      rw [e1]
      exact ⟨by show j / 2 < l; omega, by show j % 2 < 2; omega⟩
    · intro ⟨h1, h2⟩
      have := vAt_of (A := aL l) (v := 2 * p.1 + p.2) (by omega)
      rw [aL_at h1 h2] at this
      exact List.mem_of_getElem? this
section CLO
variable {X : (Nat → Nat → Int32) → Prop} {z : ow_MS}
/-- the letters of a braid -/
theorem br_let {b n l : Nat} (h : hBr z b n l) : ∃ (w : Nat → Nat) (lp : Nat → Bool), ∀ i, i < l → w i + 1 < n ∧ z.2.1 94 (16 * b + i) = if lp i then nI (w i + 1) else -1 - nI (w i) := by
  have hc : ∀ i, ∃ (a : Nat) (c : Bool), i < l → a + 1 < n ∧ z.2.1 94 (16 * b + i) = if c then nI (a + 1) else -1 - nI a := by
    intro i
    by_cases hi : i < l
    · obtain ⟨a, h1, h2⟩ := h.2.2.2.2.2 i hi
      rcases h2 with h2 | h2
      · exact ⟨a, true, fun _ => ⟨h1, h2⟩⟩
      · exact ⟨a, false, fun _ => ⟨h1, h2⟩⟩
    · exact ⟨0, true, fun h9 => absurd h9 hi⟩
  refine ⟨fun i => (hc i).choose, fun i => (hc i).choose_spec.choose, fun i hi => (hc i).choose_spec.choose_spec hi⟩
theorem neg_lt {a : Nat} (ha : a < 100) : (-1 - nI a : Int32) < 0 := by
  have := pk_sneg (a := 0) (b := a + 1) (by omega) (by omega)
  rw [nI_succ] at this
  have e : nI 0 - (nI a + 1) = -1 - nI a := i32_a (nI a)
  rw [e] at this
  exact this
theorem u_X13_run_1 {x1 : Int32} {x2 : Int32} {x3 : Int32} {x4 : Int32} {x5 : Int32} {x6 : Int32} {t0 : Int32} {t1 : Int32} {t2 : Int32} {z : ow_MS} {Q : (Int32 × ow_MS) → Prop} (H : Tt (fun K k => qm_X13_run_1 K (q_X13_run K k) x1 x2 x3 x4 x5 x6 t0 t1 t2 z) Q) : Tt (fun K k => q_X13_run K k 1 x1 x2 x3 x4 x5 x6 t0 t1 t2 z) Q := w_un (fun _ _ => rfl) H
theorem u_X13_run_7 {x1 : Int32} {x2 : Int32} {x3 : Int32} {x4 : Int32} {x5 : Int32} {x6 : Int32} {t0 : Int32} {t1 : Int32} {t2 : Int32} {z : ow_MS} {Q : (Int32 × ow_MS) → Prop} (H : Tt (fun K k => qm_X13_run_7 K (q_X13_run K k) x1 x2 x3 x4 x5 x6 t0 t1 t2 z) Q) : Tt (fun K k => q_X13_run K k 7 x1 x2 x3 x4 x5 x6 t0 t1 t2 z) Q := w_un (fun _ _ => rfl) H
theorem u_X13_run_6 {x1 : Int32} {x2 : Int32} {x3 : Int32} {x4 : Int32} {x5 : Int32} {x6 : Int32} {t0 : Int32} {t1 : Int32} {t2 : Int32} {z : ow_MS} {Q : (Int32 × ow_MS) → Prop} (H : Tt (fun K k => qm_X13_run_6 K (q_X13_run K k) x1 x2 x3 x4 x5 x6 t0 t1 t2 z) Q) : Tt (fun K k => q_X13_run K k 6 x1 x2 x3 x4 x5 x6 t0 t1 t2 z) Q := w_un (fun _ _ => rfl) H
theorem u_X13_run_5 {x1 : Int32} {x2 : Int32} {x3 : Int32} {x4 : Int32} {x5 : Int32} {x6 : Int32} {t0 : Int32} {t1 : Int32} {t2 : Int32} {z : ow_MS} {Q : (Int32 × ow_MS) → Prop} (H : Tt (fun K k => qm_X13_run_5 K (q_X13_run K k) x1 x2 x3 x4 x5 x6 t0 t1 t2 z) Q) : Tt (fun K k => q_X13_run K k 5 x1 x2 x3 x4 x5 x6 t0 t1 t2 z) Q := w_un (fun _ _ => rfl) H
theorem u_X13_run_4 {x1 : Int32} {x2 : Int32} {x3 : Int32} {x4 : Int32} {x5 : Int32} {x6 : Int32} {t0 : Int32} {t1 : Int32} {t2 : Int32} {z : ow_MS} {Q : (Int32 × ow_MS) → Prop} (H : Tt (fun K k => qm_X13_run_4 K (q_X13_run K k) x1 x2 x3 x4 x5 x6 t0 t1 t2 z) Q) : Tt (fun K k => q_X13_run K k 4 x1 x2 x3 x4 x5 x6 t0 t1 t2 z) Q := w_un (fun _ _ => rfl) H
theorem u_X13_run_3 {x1 : Int32} {x2 : Int32} {x3 : Int32} {x4 : Int32} {x5 : Int32} {x6 : Int32} {t0 : Int32} {t1 : Int32} {t2 : Int32} {z : ow_MS} {Q : (Int32 × ow_MS) → Prop} (H : Tt (fun K k => qm_X13_run_3 K (q_X13_run K k) x1 x2 x3 x4 x5 x6 t0 t1 t2 z) Q) : Tt (fun K k => q_X13_run K k 3 x1 x2 x3 x4 x5 x6 t0 t1 t2 z) Q := w_un (fun _ _ => rfl) H
theorem u_X13_run_2 {x1 : Int32} {x2 : Int32} {x3 : Int32} {x4 : Int32} {x5 : Int32} {x6 : Int32} {t0 : Int32} {t1 : Int32} {t2 : Int32} {z : ow_MS} {Q : (Int32 × ow_MS) → Prop} (H : Tt (fun K k => qm_X13_run_2 K (q_X13_run K k) x1 x2 x3 x4 x5 x6 t0 t1 t2 z) Q) : Tt (fun K k => q_X13_run K k 2 x1 x2 x3 x4 x5 x6 t0 t1 t2 z) Q := w_un (fun _ _ => rfl) H
theorem e_X13_run {x1 : Int32} {x2 : Int32} {z : ow_MS} {Q : (Int32 × ow_MS) → Prop} (H : Tt (fun K k => q_X13_run K k 0 x1 x2 0 0 0 0 0 0 0 z) Q) : Te (fun K => qe_X13_run K x1 x2 z) Q := w_te H
theorem u_X13_run_0 {x1 : Int32} {x2 : Int32} {x3 : Int32} {x4 : Int32} {x5 : Int32} {x6 : Int32} {t0 : Int32} {t1 : Int32} {t2 : Int32} {z : ow_MS} {Q : (Int32 × ow_MS) → Prop} (H : Tt (fun K k => qm_X13_run_0 K (q_X13_run K k) x1 x2 x3 x4 x5 x6 t0 t1 t2 z) Q) : Tt (fun K k => q_X13_run K k 0 x1 x2 x3 x4 x5 x6 t0 t1 t2 z) Q := w_un (fun _ _ => rfl) H
theorem tp_run {b n l s q : Nat} {w : Nat → Nat} {lp : Nat → Bool} {P : Nat → Prop} (hb : b < 20) (hB : hBr z b n l) (hw : ∀ i, i < l → w i + 1 < n ∧ z.2.1 94 (16 * b + i) = if lp i then nI (w i + 1) else -1 - nI (w i)) (hs : s < n) (hP : ∀ j, P j → j < 2 * l) (hno : ∀ i, i < l → onL w s i → ¬ P (2 * i + ubn w lp s i)) (hbm : bm z 3000 (aL l) P q) (hsg : ∀ j, P j → s1 (z.2.1 3006 (j / 2))) : Te (fun K => qe_X13_run K (nI b) (nI s) z) (fun r => r.1 = nI (psn w s l) ∧ fr (fun g => 3001 ≤ g ∧ g ≤ 3006) z r.2 ∧ bm r.2 3000 (aL l) (fun j => P j ∨ ∃ i, i < l ∧ onL w s i ∧ j = 2 * i + ubn w lp s i) q ∧ ∀ j, (P j ∨ ∃ i, i < l ∧ onL w s i ∧ j = 2 * i + ubn w lp s i) → s1 (r.2.2.1 3006 (j / 2))) := by
  obtain ⟨p1, p2, p3, p4, p5, p6⟩ := hB
  have hlen := aL_len l
  let Q : Int32 × ow_MS → Prop := fun r => r.1 = nI (psn w s l) ∧ fr (fun g => 3001 ≤ g ∧ g ≤ 3006) z r.2 ∧ bm r.2 3000 (aL l) (fun j => P j ∨ ∃ i, i < l ∧ onL w s i ∧ j = 2 * i + ubn w lp s i) q ∧ ∀ j, (P j ∨ ∃ i, i < l ∧ onL w s i ∧ j = 2 * i + ubn w lp s i) → s1 (r.2.2.1 3006 (j / 2))
  have key : ∀ (d k : Nat) (y : ow_MS), k + d = l → fr (fun g => 3001 ≤ g ∧ g ≤ 3006) z y → bm y 3000 (aL l) (fun j => P j ∨ ∃ i, i < k ∧ onL w s i ∧ j = 2 * i + ubn w lp s i) q → (∀ j, (P j ∨ ∃ i, i < k ∧ onL w s i ∧ j = 2 * i + ubn w lp s i) → s1 (y.2.1 3006 (j / 2))) → Tt (fun K i9 => q_X13_run K i9 1 (nI b) (nI s) (nI (psn w s k)) (nI k) 0 0 0 0 0 y) Q := by
    intro d
    induction d with
    | zero =>
      intro k y hk hf hbm hsg
      have hkl : k = l := by omega
      rw [hkl] at hbm hsg ⊢
      refine u_X13_run_1 ?_; unfold qm_X13_run_1
      exact w_rdI ml95 rfl (by omega) (x := nI l) (by rw [(hf 95 (by omega)).2.1]; exact p5) (w_leT (by omega) (Nat.le_refl _) (w_some ⟨rfl, hf, hbm, hsg⟩))
    | succ d ih =>
      intro k y hk hf hbm hsg
      have hkl : k < l := by omega
      obtain ⟨w1, w2⟩ := hw k hkl
      have hps := psn_lt (w := w) hs k (fun j hj => (hw j (by omega)).1)
      obtain ⟨x, hx⟩ : ∃ x, x = z.2.1 94 (16 * b + k) := ⟨_, rfl⟩
      have ex : y.2.1 94 (16 * b + k) = x := by rw [(hf 94 (by omega)).2.1, hx]
      rw [← hx] at w2
      have eab : (if 0 ≤ x then x else 0 - x) - 1 = nI (w k) := by
        cases hl : lp k with
        | true =>
          rw [hl] at w2
          have w2 : x = nI (w k + 1) := w2
          rw [w2, if_pos (nI_pos' (by omega))]
          exact nI_pred _
        | false =>
          rw [hl] at w2
          have w2 : x = -1 - nI (w k) := w2
          rw [w2, if_neg (Int32.not_le.mpr (neg_lt (by omega))), i32_b]
          have := nI_pred (w k)
          rw [nI_succ] at this
          exact this
      have xpos : x ≤ 0 ↔ lp k = false := by
        cases hl : lp k with
        | true =>
          rw [hl] at w2
          have w2 : x = nI (w k + 1) := w2
          rw [w2]
          exact ⟨fun h9 => absurd h9 (nI_nle (by omega) (by omega)), fun h9 => by cases h9⟩
        | false =>
          rw [hl] at w2
          have w2 : x = -1 - nI (w k) := w2
          rw [w2]
          exact ⟨fun _ => rfl, fun _ => Int32.le_of_lt (neg_lt (by omega))⟩
      have c7 : ∀ (x5 x6 : Int32) (y2 : ow_MS), fr (fun g => 3001 ≤ g ∧ g ≤ 3006) z y2 → bm y2 3000 (aL l) (fun j => P j ∨ ∃ i, i < k + 1 ∧ onL w s i ∧ j = 2 * i + ubn w lp s i) q → (∀ j, (P j ∨ ∃ i, i < k + 1 ∧ onL w s i ∧ j = 2 * i + ubn w lp s i) → s1 (y2.2.1 3006 (j / 2))) → Tt (fun K i9 => q_X13_run K i9 7 (nI b) (nI s) (nI (psn w s (k + 1))) (nI k) x5 x6 0 0 0 y2) Q := by
        intro x5 x6 y2 hf2 hb2 hs2
        refine u_X13_run_7 ?_; unfold qm_X13_run_7
        rw [nI_1]
        exact ih (k + 1) y2 (by omega) hf2 hb2 hs2
      -- the strand takes part in the letter
      have c2 : onL w s k → Tt (fun K i9 => q_X13_run K i9 2 (nI b) (nI s) (nI (psn w s k)) (nI k) x (nI (w k)) 0 0 0 y) Q := by
        intro hon
        have hub := ubn_lt (w := w) (lp := lp) (s := s) (i := k)
        have eqi : ∀ j, ((P j ∨ ∃ i, i < k ∧ onL w s i ∧ j = 2 * i + ubn w lp s i) ∨ j = 2 * k + ubn w lp s k) ↔ (P j ∨ ∃ i, i < k + 1 ∧ onL w s i ∧ j = 2 * i + ubn w lp s i) := by
          intro j
          constructor
          · rintro ((h9 | ⟨i, h1, h2, h3⟩) | h9)
            · exact Or.inl h9
            · exact Or.inr ⟨i, by omega, h2, h3⟩
            · exact Or.inr ⟨k, by omega, hon, h9⟩
          · rintro (h9 | ⟨i, h1, h2, h3⟩)
            · exact Or.inl (Or.inl h9)
            · by_cases hik : i = k
              · rw [hik] at h3
                exact Or.inr h3
              · exact Or.inl (Or.inr ⟨i, by omega, h2, h3⟩)
        have c6 : ∀ (t0 : Int32) (y2 : ow_MS), s1 t0 → fr (fun g => 3001 ≤ g ∧ g ≤ 3006) z y2 → y2.2.1 3006 = y.2.1 3006 → bm y2 3000 (aL l) (fun j => P j ∨ ∃ i, i < k + 1 ∧ onL w s i ∧ j = 2 * i + ubn w lp s i) q → Tt (fun K i9 => q_X13_run K i9 6 (nI b) (nI s) (nI (psn w s k)) (nI k) x (nI (w k)) t0 (nI k) 0 y2) Q := by
          intro t0 y2 ht0 hf2 e6 hb2
          refine u_X13_run_6 ?_; unfold qm_X13_run_6
          refine w_wrI (pl6 pn3) rfl (by omega) ?_
          have ep : 2 * nI (w k) + 1 - nI (psn w s k) = nI (psn w s (k + 1)) := by
            rw [rn_mul2, nI_1, pk_sub (by rcases hon with h9 | h9 <;> omega)]
            congr 1
            show _ = sw2 (w k) (w k + 1) (psn w s k)
            unfold sw2
            rcases hon with h9 | h9
            · rw [if_pos h9]; omega
            · rw [if_neg (by omega), if_pos h9]; omega
          rw [ep]
          refine c7 _ _ _ (fr_I2 hf2 (by omega)) (bm_fr (F := fun g => g = 3006) (fr_I rfl) (fun g hg => by omega) hb2) (fun j hj => ?_)
          show s1 ((usI y2 3006 k t0).2.1 3006 (j / 2))
          by_cases hjk : j / 2 = k
          · rw [hjk, po_usI_at]
            exact ht0
          · rw [po_usI_ne hjk, e6]
            refine hsg j (((eqi j).mpr hj).resolve_right (fun h9 => hjk (by omega)))
        have c5 : ∀ (t0 : Int32), t0 = nI (ubn w lp s k) → Tt (fun K i9 => q_X13_run K i9 5 (nI b) (nI s) (nI (psn w s k)) (nI k) x (nI (w k)) t0 (nI k) 0 y) Q := by
          intro t0 ht0
          have hv := aL_at (l := l) hkl hub
          refine u_X13_run_5 ?_; unfold qm_X13_run_5
          refine w_cs0 (bm_add (i := 2 * k + ubn w lp s k) pn3 (by omega) (fun j hj => ?_) (fun hj => ?_) (by unfold crs; rw [hv]) (by unfold uns; rw [hv]; exact ht0) hbm) (fun y2 ⟨g1, g2⟩ => ?_)
          · rcases hj with hj | ⟨i, h1, h2, h3⟩
            · have := hP j hj
              omega
            · have := ubn_lt (w := w) (lp := lp) (s := s) (i := i)
              omega
          · rcases hj with hj | ⟨i, h1, h2, h3⟩
            · exact hno k hkl hon hj
            · have := ubn_lt (w := w) (lp := lp) (s := s) (i := i)
              omega
          · have hf2 : fr (fun g => 3001 ≤ g ∧ g ≤ 3006) z y2 := fr_tr hf (fr_mono (fun g hg => by omega) g2)
            have e6 : y2.2.1 3006 = y.2.1 3006 := (g2 3006 (by omega)).2.1
            have hb2 := bm_eq g1 eqi
            exact w_if (fun _ => c6 _ y2 (Or.inr rfl) hf2 e6 hb2) (fun _ => c6 _ y2 (Or.inl rfl) hf2 e6 hb2)
        have c3 : ∀ (eqb : Bool), decide (psn w s k = w k) = eqb → Tt (fun K i9 => q_X13_run K i9 3 (nI b) (nI s) (nI (psn w s k)) (nI k) x (nI (w k)) (bZ eqb) (nI k) 0 y) Q := by
          intro eqb heq
          have eu : ubn w lp s k = if eqb = lp k then 0 else 1 := by
            unfold ubn
            rw [heq]
          have c4 : ∀ (pb : Bool), lp k = pb → Tt (fun K i9 => q_X13_run K i9 4 (nI b) (nI s) (nI (psn w s k)) (nI k) x (nI (w k)) (bZ pb) (bZ eqb) (nI k) y) Q := by
            intro pb hpb
            rw [hpb] at eu
            refine u_X13_run_4 ?_; unfold qm_X13_run_4
            refine w_if (fun h9 => c5 0 ?_) (fun h9 => c5 1 ?_)
            · have : eqb = pb := by
                cases eqb <;> cases pb <;> first | rfl | exact absurd h9 (by decide)
              rw [eu, if_pos this]
              rfl
            · have : eqb ≠ pb := fun e => h9 (by rw [e])
              rw [eu, if_neg this]
              rfl
          refine u_X13_run_3 ?_; unfold qm_X13_run_3
          refine w_if (fun h9 => c4 false (xpos.mp h9)) (fun h9 => c4 true ?_)
          cases hl : lp k with
          | true => rfl
          | false => exact absurd (xpos.mpr hl) h9
        refine u_X13_run_2 ?_; unfold qm_X13_run_2
        exact w_eqN (by omega) (by omega) (fun h9 => c3 true (decide_eq_true h9)) (fun h9 => c3 false (decide_eq_false h9))
      refine u_X13_run_1 ?_; unfold qm_X13_run_1
      rw [show (16 : Int32) * nI b = nI (16 * b) from pk_mul 16 b, nI_add]
      refine w_rdI ml95 rfl (by omega) (x := nI l) (by rw [(hf 95 (by omega)).2.1]; exact p5) (w_leF (by omega) (by omega) (w_rdI ml94 rfl (by omega) ex ?_))
      rw [eab, nI_1]
      refine w_eqN (by omega) (by omega) (fun h9 => c2 (Or.inl h9)) (fun h9 => w_eqN (by omega) (by omega) (fun h8 => c2 (Or.inr h8)) (fun h8 => ?_))
      have hnon : ¬ onL w s k := fun h7 => h7.elim h9 h8
      have ep : psn w s (k + 1) = psn w s k := by
        show sw2 (w k) (w k + 1) (psn w s k) = _
        unfold sw2
        rw [if_neg h9, if_neg h8]
      have eqi : ∀ j, (P j ∨ ∃ i, i < k ∧ onL w s i ∧ j = 2 * i + ubn w lp s i) ↔ (P j ∨ ∃ i, i < k + 1 ∧ onL w s i ∧ j = 2 * i + ubn w lp s i) := by
        intro j
        constructor
        · rintro (h7 | ⟨i, h1, h2, h3⟩)
          · exact Or.inl h7
          · exact Or.inr ⟨i, by omega, h2, h3⟩
        · rintro (h7 | ⟨i, h1, h2, h3⟩)
          · exact Or.inl h7
          · by_cases hik : i = k
            · rw [hik] at h2
              exact absurd h2 hnon
            · exact Or.inr ⟨i, by omega, h2, h3⟩
      have := c7 x (nI (w k)) y hf (bm_eq hbm eqi) (fun j hj => hsg j ((eqi j).mpr hj))
      rw [ep] at this
      exact this
  refine e_X13_run ?_
  refine u_X13_run_0 ?_; unfold qm_X13_run_0
  refine key l 0 z (by omega) fr_rf (bm_eq hbm (fun j => ⟨Or.inl, fun h9 => h9.elim id (fun ⟨i, h8, _⟩ => by omega)⟩)) (fun j hj => hj.elim (hsg j) (fun ⟨i, h8, _⟩ => by omega))
end CLO
end
section
/-! 99zzzb.closure -/
/-! close, closure -/
section CLO2
variable {X : (Nat → Nat → Int32) → Prop} {z : ow_MS}
/-- the visits of the strands in D -/
def pD (w : Nat → Nat) (lp : Nat → Bool) (n l : Nat) (D : Nat → Prop) (j : Nat) : Prop := ∃ s i, s < n ∧ D s ∧ i < l ∧ onL w s i ∧ j = 2 * i + ubn w lp s i
def fD (z : ow_MS) (n : Nat) (D : Nat → Prop) : Prop := ∀ s, s < n → (z.2.1 120 s = 1 ∧ D s) ∨ (z.2.1 120 s = 0 ∧ ¬ D s)
abbrev frK (g : Nat) : Prop := g = 120 ∨ 3001 ≤ g ∧ g ≤ 3006
theorem hBr_fr {P : Nat → Prop} {z z1 : ow_MS} {b n l : Nat} (hf : fr P z z1) (h0 : ¬ P 94) (h1 : ¬ P 95) (h2 : ¬ P 96) (h : hBr z b n l) : hBr z1 b n l := hBr_eq h (by rw [(hf 96 h2).2.1]) (by rw [(hf 95 h1).2.1]) (fun i _ => by rw [(hf 94 h0).2.1])
theorem u_X13_close_2 {x1 : Int32} {x2 : Int32} {x3 : Int32} {z : ow_MS} {Q : ow_MS → Prop} (H : Tt (fun K k => qm_X13_close_2 K (q_X13_close K k) x1 x2 x3 z) Q) : Tt (fun K k => q_X13_close K k 2 x1 x2 x3 z) Q := w_un (fun _ _ => rfl) H
theorem u_X13_close_4 {x1 : Int32} {x2 : Int32} {x3 : Int32} {z : ow_MS} {Q : ow_MS → Prop} (H : Tt (fun K k => qm_X13_close_4 K (q_X13_close K k) x1 x2 x3 z) Q) : Tt (fun K k => q_X13_close K k 4 x1 x2 x3 z) Q := w_un (fun _ _ => rfl) H
theorem u_X13_close_3 {x1 : Int32} {x2 : Int32} {x3 : Int32} {z : ow_MS} {Q : ow_MS → Prop} (H : Tt (fun K k => qm_X13_close_3 K (q_X13_close K k) x1 x2 x3 z) Q) : Tt (fun K k => q_X13_close K k 3 x1 x2 x3 z) Q := w_un (fun _ _ => rfl) H
theorem u_X13_close_1 {x1 : Int32} {x2 : Int32} {x3 : Int32} {z : ow_MS} {Q : ow_MS → Prop} (H : Tt (fun K k => qm_X13_close_1 K (q_X13_close K k) x1 x2 x3 z) Q) : Tt (fun K k => q_X13_close K k 1 x1 x2 x3 z) Q := w_un (fun _ _ => rfl) H
theorem e_X13_close {x1 : Int32} {z : ow_MS} {Q : ow_MS → Prop} (H : Tt (fun K k => q_X13_close K k 0 x1 0 0 z) Q) : Te (fun K => qe_X13_close K x1 z) Q := w_te H
theorem u_X13_close_0 {x1 : Int32} {x2 : Int32} {x3 : Int32} {z : ow_MS} {Q : ow_MS → Prop} (H : Tt (fun K k => qm_X13_close_0 K (q_X13_close K k) x1 x2 x3 z) Q) : Tt (fun K k => q_X13_close K k 0 x1 x2 x3 z) Q := w_un (fun _ _ => rfl) H
theorem tp_close {b n l : Nat} (hb : b < 20) (hB : hBr z b n l) : Te (fun K => qe_X13_close K (nI b) z) (fun z1 => (∃ q, q ≤ n ∧ bmE z1 3000 (aL l) (fun j => j < 2 * l) q) ∧ (∀ j, j < 2 * l → s1 (z1.2.1 3006 (j / 2))) ∧ fr frK z z1) := by
  obtain ⟨w, lp, hw⟩ := br_let hB
  have p1 := hB.1
  have p2 := hB.2.1
  have p3 := hB.2.2.1
  have hwn : ∀ i, i < l → w i + 1 < n := fun i hi => (hw i hi).1
  have hub := fun (s i : Nat) => ubn_lt (w := w) (lp := lp) (s := s) (i := i)
  let Q : ow_MS → Prop := fun z1 => (∃ q, q ≤ n ∧ bmE z1 3000 (aL l) (fun j => j < 2 * l) q) ∧ (∀ j, j < 2 * l → s1 (z1.2.1 3006 (j / 2))) ∧ fr frK z z1
  have pDlt : ∀ {D : Nat → Prop} {j : Nat}, pD w lp n l D j → j < 2 * l := by
    rintro D j ⟨s, i, h1, h2, h3, h4, h5⟩
    have := hub s i
    omega
  have bY : ∀ {y : ow_MS}, fr frK z y → hBr y b n l := fun hf => hBr_fr hf (by unfold frK; omega) (by unfold frK; omega) (by unfold frK; omega) hB
  have wY : ∀ {y : ow_MS}, fr frK z y → ∀ i, i < l → w i + 1 < n ∧ y.2.1 94 (16 * b + i) = if lp i then nI (w i + 1) else -1 - nI (w i) := fun hf i hi => ⟨(hw i hi).1, by rw [(hf 94 (by unfold frK; omega)).2.1]; exact (hw i hi).2⟩
  have l2 : ∀ (k j q : Nat) (D : Nat → Prop) (y : ow_MS), j + k = n → q ≤ j → fr frK z y → fD y n D → (∀ s, s < n → (D s ↔ D (psn w s l))) → (∀ s, s < j → D s) → bmE y 3000 (aL l) (pD w lp n l D) q → (∀ j, pD w lp n l D j → s1 (y.2.1 3006 (j / 2))) → Tt (fun K i => q_X13_close K i 2 (nI b) (nI j) 0 y) Q := by
    intro k
    induction k with
    | zero =>
      intro j q D y hj hq hf hfd hcl hall hbm hsg
      have all : ∀ j, pD w lp n l D j ↔ j < 2 * l := by
        intro j9
        constructor
        · exact pDlt
        · intro h9
          -- the two strands at letter j / 2
          have hi : j9 / 2 < l := by omega
          have hwi := hwn _ hi
          obtain ⟨s0, a0, e0⟩ := psn_sur (w := w) (n := n) (j9 / 2) (w (j9 / 2)) (by omega) (fun i hi9 => hwn i (by omega))
          obtain ⟨s1, a1, e1⟩ := psn_sur (w := w) (n := n) (j9 / 2) (w (j9 / 2) + 1) hwi (fun i hi9 => hwn i (by omega))
          have hne : s0 ≠ s1 := fun e => by rw [e, e1] at e0; omega
          have o0 : onL w s0 (j9 / 2) := Or.inl e0
          have o1 : onL w s1 (j9 / 2) := Or.inr e1
          have hd := ubn_ne (lp := lp) hne o0 o1
          have u0 := hub s0 (j9 / 2)
          have u1 := hub s1 (j9 / 2)
          by_cases hu : j9 % 2 = ubn w lp s0 (j9 / 2)
          · exact ⟨s0, j9 / 2, a0, hall s0 (by omega), hi, o0, by omega⟩
          · exact ⟨s1, j9 / 2, a1, hall s1 (by omega), hi, o1, by omega⟩
      refine u_X13_close_2 ?_; unfold qm_X13_close_2
      exact w_rdI ml96 rfl (by omega) (bY hf).2.2.2.1 (w_leT (by omega) (by omega) (w_some ⟨⟨q, by omega, bmE_eq hbm all⟩, fun j9 h9 => hsg j9 ((all j9).mpr h9), hf⟩))
    | succ k ih =>
      intro j q D y hj hq hf hfd hcl hall hbm hsg
      have hjn : j < n := by omega
      have itlt : ∀ i, itf (fun s => psn w s l) i j < n := by
        intro i
        induction i with
        | zero => exact hjn
        | succ i ih9 => exact psn_lt ih9 l (fun i9 hi9 => hwn i9 hi9)
      have c4 : ∀ (q2 : Nat) (D2 : Nat → Prop) (y2 : ow_MS), q2 ≤ j + 1 → fr frK z y2 → fD y2 n D2 → (∀ s, s < n → (D2 s ↔ D2 (psn w s l))) → (∀ s, s < j + 1 → D2 s) → bmE y2 3000 (aL l) (pD w lp n l D2) q2 → (∀ j, pD w lp n l D2 j → s1 (y2.2.1 3006 (j / 2))) → Tt (fun K i => q_X13_close K i 4 (nI b) (nI j) 0 y2) Q := by
        intro q2 D2 y2 hq2 hf2 hfd2 hcl2 hall2 hbm2 hsg2
        refine u_X13_close_4 ?_; unfold qm_X13_close_4
        rw [nI_1]
        exact ih (j + 1) q2 D2 y2 (by omega) hq2 hf2 hfd2 hcl2 hall2 hbm2 hsg2
      -- round one ring of strands
      have l3 : ¬ D j → ∀ (d t : Nat) (y : ow_MS), t + d = n → (∀ i i2, i < i2 → i2 ≤ t → itf (fun s => psn w s l) i j ≠ itf (fun s => psn w s l) i2 j) → (∀ i, i ≤ t → ¬ D (itf (fun s => psn w s l) i j)) → fr frK z y → fD y n (fun s => D s ∨ ∃ i, i < t ∧ s = itf (fun s => psn w s l) i j) → bm y 3000 (aL l) (pD w lp n l (fun s => D s ∨ ∃ i, i < t ∧ s = itf (fun s => psn w s l) i j)) q → (∀ j9, pD w lp n l (fun s => D s ∨ ∃ i, i < t ∧ s = itf (fun s => psn w s l) i j) j9 → s1 (y.2.1 3006 (j9 / 2))) → Tt (fun K i => q_X13_close K i 3 (nI b) (nI j) (nI (itf (fun s => psn w s l) t j)) y) Q := by
        intro hDj d
        induction d with
        | zero =>
          intro t y ht hdi hfre hf hfd hbm hsg
          exfalso
          have nd : ((List.range (t + 1)).map (fun i => itf (fun s => psn w s l) i j)).Nodup := nodup_map List.nodup_range (fun a c ha hc e => by
            have ha := List.mem_range.mp ha
            have hc := List.mem_range.mp hc
            rcases Nat.lt_trichotomy a c with h9 | h9 | h9
            · exact absurd e (hdi a c h9 (by omega))
            · exact h9
            · exact absurd e.symm (hdi c a h9 (by omega)))
          have := nodup_le _ (List.range n) nd (fun a ha => by
            obtain ⟨i, -, e⟩ := List.mem_map.mp ha
            rw [← e]
            exact List.mem_range.mpr (itlt i))
          rw [List.length_map, List.length_range, List.length_range] at this
          omega
        | succ d ihd =>
          intro t y ht hdi hfre hf hfd hbm hsg
          obtain ⟨a, ha⟩ : ∃ a, a = itf (fun s => psn w s l) t j := ⟨_, rfl⟩
          have han : a < n := by rw [ha]; exact itlt t
          have hnotin : ¬ (D a ∨ ∃ i, i < t ∧ a = itf (fun s => psn w s l) i j) := by
            rintro (h9 | ⟨i, h1, h2⟩)
            · rw [ha] at h9
              exact hfre t (Nat.le_refl _) h9
            · rw [ha] at h2
              exact hdi i t h1 (Nat.le_refl _) h2.symm
          have f1 : fr (fun g => g = 120) y (usI y 120 a (vp_nar .boolean 1)) := fr_I rfl
          have hf1 : fr frK z (usI y 120 a (vp_nar .boolean 1)) := fr_tr hf (fr_mono (fun g hg => Or.inl hg) f1)
          have hno : ∀ i, i < l → onL w a i → ¬ pD w lp n l (fun s => D s ∨ ∃ i, i < t ∧ s = itf (fun s => psn w s l) i j) (2 * i + ubn w lp a i) := by
            rintro i hi hon ⟨s, i2, h1, h2, h3, h4, h5⟩
            have u1 := hub a i
            have u2 := hub s i2
            have hii : i2 = i := by omega
            subst hii
            have hsa : s ≠ a := fun e => hnotin (by rw [← e]; exact h2)
            exact ubn_ne (lp := lp) hsa h4 hon (by omega)
          rw [← ha]
          refine u_X13_close_3 ?_; unfold qm_X13_close_3
          refine w_wrZ ml120 rfl (by omega) (w_cs1 (tp_run hb (bY hf1) (wY hf1) han (fun j9 h9 => pDlt h9) hno (bm_fr f1 (fun g hg => by omega) hbm) (fun j9 h9 => by rw [po_usI_ot (by decide)]; exact hsg j9 h9)) (fun v y2 ⟨r1, r2, r3, r4⟩ => ?_))
          have r1 : v = nI (psn w a l) := r1
          have r2 : fr (fun g => 3001 ≤ g ∧ g ≤ 3006) (usI y 120 a (vp_nar .boolean 1)) y2 := r2
          have hf2 : fr frK z y2 := fr_tr hf1 (fr_mono (fun g hg => Or.inr hg) r2)
          have e1 : psn w a l = itf (fun s => psn w s l) (t + 1) j := by rw [ha]; rfl
          have hal := itlt (t + 1)
          -- the strands that are done now
          have eqD : ∀ s, ((D s ∨ ∃ i, i < t ∧ s = itf (fun s => psn w s l) i j) ∨ s = a) ↔ (D s ∨ ∃ i, i < t + 1 ∧ s = itf (fun s => psn w s l) i j) := by
            intro s
            constructor
            · rintro ((h9 | ⟨i, h1, h2⟩) | h9)
              · exact Or.inl h9
              · exact Or.inr ⟨i, by omega, h2⟩
              · exact Or.inr ⟨t, by omega, by rw [h9, ha]⟩
            · rintro (h9 | ⟨i, h1, h2⟩)
              · exact Or.inl (Or.inl h9)
              · by_cases hit : i = t
                · rw [hit, ← ha] at h2
                  exact Or.inr h2
                · exact Or.inl (Or.inr ⟨i, by omega, h2⟩)
          have eqP : ∀ j9, (pD w lp n l (fun s => D s ∨ ∃ i, i < t ∧ s = itf (fun s => psn w s l) i j) j9 ∨ ∃ i, i < l ∧ onL w a i ∧ j9 = 2 * i + ubn w lp a i) ↔ pD w lp n l (fun s => D s ∨ ∃ i, i < t + 1 ∧ s = itf (fun s => psn w s l) i j) j9 := by
            intro j9
            constructor
            · rintro (⟨s, i, h1, h2, h3⟩ | ⟨i, h1, h2, h3⟩)
              · exact ⟨s, i, h1, (eqD s).mp (Or.inl h2), h3⟩
              · exact ⟨a, i, han, (eqD a).mp (Or.inr rfl), h1, h2, h3⟩
            · rintro ⟨s, i, h1, h2, h3, h4, h5⟩
              rcases (eqD s).mpr h2 with h9 | h9
              · exact Or.inl ⟨s, i, h1, h9, h3, h4, h5⟩
              · rw [h9] at h4 h5
                exact Or.inr ⟨i, h3, h4, h5⟩
          have hfd2 : fD y2 n (fun s => D s ∨ ∃ i, i < t + 1 ∧ s = itf (fun s => psn w s l) i j) := by
            intro s hs
            rw [(r2 120 (by omega)).2.1]
            by_cases hsa : s = a
            · exact Or.inl ⟨by rw [hsa]; exact po_usI_at, (eqD s).mp (Or.inr hsa)⟩
            · rw [po_usI_ne hsa]
              rcases hfd s hs with ⟨g1, g2⟩ | ⟨g1, g2⟩
              · exact Or.inl ⟨g1, (eqD s).mp (Or.inl g2)⟩
              · exact Or.inr ⟨g1, fun h9 => ((eqD s).mpr h9).elim g2 hsa⟩
          have hb2 := bm_eq r3 eqP
          have hs2 : ∀ j9, pD w lp n l (fun s => D s ∨ ∃ i, i < t + 1 ∧ s = itf (fun s => psn w s l) i j) j9 → s1 (y2.2.1 3006 (j9 / 2)) := fun j9 h9 => r4 j9 ((eqP j9).mpr h9)
          rw [r1, e1]
          refine w_eqN (by omega) (by omega) (fun hret => w_cs0 (bm_end pn3 (by omega) hb2) (fun y3 ⟨k1, k2⟩ => ?_)) (fun hret => ihd (t + 1) y2 (by omega) (fun i i2 h1 h2 => ?_) (fun i hi => ?_) hf2 hfd2 hb2 hs2)
          · refine c4 (q + 1) _ y3 (by omega) (fr_tr hf2 (fr_mono (fun g hg => Or.inr (by omega)) k2)) (fun s hs => by rw [(k2 120 (by omega)).2.1]; exact hfd2 s hs) (fun s hs => ?_) (fun s hs => ?_) k1 (fun j9 h9 => by rw [(k2 3006 (by omega)).2.1]; exact hs2 j9 h9)
            · constructor
              · rintro (h9 | ⟨i, h1, h2⟩)
                · exact Or.inl ((hcl s hs).mp h9)
                · by_cases hit : i = t
                  · refine Or.inr ⟨0, by omega, ?_⟩
                    rw [h2, hit]
                    exact hret
                  · exact Or.inr ⟨i + 1, by omega, by rw [h2]; rfl⟩
              · rintro (h9 | ⟨i, h1, h2⟩)
                · exact Or.inl ((hcl s hs).mpr h9)
                · rcases Nat.eq_zero_or_pos i with e0 | e0
                  · refine Or.inr ⟨t, by omega, psn_inj (w := w) l ?_⟩
                    rw [h2, e0]
                    exact hret.symm
                  · obtain ⟨i1, rfl⟩ : ∃ i1, i = i1 + 1 := ⟨i - 1, by omega⟩
                    exact Or.inr ⟨i1, by omega, psn_inj (w := w) l h2⟩
            · by_cases hsj : s = j
              · exact Or.inr ⟨0, by omega, hsj⟩
              · exact Or.inl (hall s (by omega))
          · by_cases hi2 : i2 = t + 1
            · rw [hi2]
              intro e
              rcases Nat.eq_zero_or_pos i with e0 | e0
              · rw [e0] at e
                exact hret e.symm
              · obtain ⟨i1, rfl⟩ : ∃ i1, i = i1 + 1 := ⟨i - 1, by omega⟩
                have e9 := psn_inj (w := w) (s := itf (fun s => psn w s l) i1 j) (t := itf (fun s => psn w s l) t j) l e
                exact hdi i1 t (by omega) (Nat.le_refl _) e9
            · exact hdi i i2 h1 (by omega)
          · by_cases hit : i = t + 1
            · rw [hit]
              intro h9
              have := (hcl a han).mpr (by rw [e1]; exact h9)
              exact hnotin (Or.inl this)
            · exact hfre i (by omega)
      refine u_X13_close_2 ?_; unfold qm_X13_close_2
      refine w_rdI ml96 rfl (by omega) (bY hf).2.2.2.1 (w_leF (by omega) (by omega) (w_rdI ml120 rfl (by omega) rfl ?_))
      rcases hfd j hjn with ⟨g1, g2⟩ | ⟨g1, g2⟩
      · refine w_ifF (by rw [g1]; decide) (c4 q D y (by omega) hf hfd hcl (fun s hs => ?_) hbm hsg)
        by_cases hsj : s = j
        · rw [hsj]; exact g2
        · exact hall s (by omega)
      · have eq0 : ∀ s, D s ↔ (D s ∨ ∃ i, i < 0 ∧ s = itf (fun s => psn w s l) i j) := fun s => ⟨Or.inl, fun h9 => h9.elim id (fun ⟨i, h8, _⟩ => by omega)⟩
        have eqP0 : ∀ j9, pD w lp n l D j9 ↔ pD w lp n l (fun s => D s ∨ ∃ i, i < 0 ∧ s = itf (fun s => psn w s l) i j) j9 := fun j9 => ⟨fun ⟨s, i, h1, h2, h3⟩ => ⟨s, i, h1, (eq0 s).mp h2, h3⟩, fun ⟨s, i, h1, h2, h3⟩ => ⟨s, i, h1, (eq0 s).mpr h2, h3⟩⟩
        refine w_ifT g1 (l3 g2 n 0 y (by omega) (fun i i2 h1 h2 => by omega) (fun i hi => ?_) hf (fun s hs => ?_) (bm_eq hbm.b eqP0) (fun j9 h9 => hsg j9 ((eqP0 j9).mpr h9)))
        · have : i = 0 := by omega
          rw [this]
          exact g2
        · rcases hfd s hs with ⟨k1, k2⟩ | ⟨k1, k2⟩
          · exact Or.inl ⟨k1, Or.inl k2⟩
          · exact Or.inr ⟨k1, fun h9 => k2 ((eq0 s).mpr h9)⟩
  have l1 : ∀ (k j : Nat) (y : ow_MS), j + k = 5 → fr frK z y → bmE y 3000 (aL l) (fun _ => False) 0 → (∀ s, s < j → y.2.1 120 s = 0) → Tt (fun K i => q_X13_close K i 1 (nI b) (nI j) 0 y) Q := by
    intro k
    induction k with
    | zero =>
      intro j y hj hf hbm h0
      refine u_X13_close_1 ?_; unfold qm_X13_close_1
      refine w_leT (a := 5) (by omega) (by omega) (l2 n 0 0 (fun _ => False) y (by omega) (Nat.le_refl _) hf (fun s hs => Or.inr ⟨h0 s (by omega), fun h9 => h9⟩) (fun s _ => Iff.rfl) (fun s hs => by omega) (bmE_eq hbm (fun j9 => ⟨fun h9 => h9.elim, fun ⟨s, i, h1, h2, h3⟩ => h2⟩)) (fun j9 ⟨s, i, h1, h2, h3⟩ => h2.elim))
    | succ k ih =>
      intro j y hj hf hbm h0
      refine u_X13_close_1 ?_; unfold qm_X13_close_1
      rw [nI_1]
      refine w_leF (a := 5) (by omega) (by omega) (w_wrZ ml120 rfl (by omega) (ih (j + 1) _ (by omega) (fr_I2 hf (Or.inl rfl)) (bmE_fr (F := fun g => g = 120) (fr_I rfl) (fun g hg => by omega) hbm) (fun s hs => ?_)))
      by_cases hsj : s = j
      · rw [hsj]
        exact po_usI_at
      · exact rd_ne hsj (h0 s (by omega))
  refine e_X13_close ?_
  refine u_X13_close_0 ?_; unfold qm_X13_close_0
  exact w_cs0 (bm_clear (A := aL l) pn3) (fun y ⟨g1, g2⟩ => l1 5 0 y (by omega) (fr_mono (fun g hg => Or.inr (by omega)) g2) g1 (fun s hs => by omega))
theorem close_net {z1 : ow_MS} {l q n : Nat} (hl : l ≤ 12) (hn : n ≤ 5) (hq : q ≤ n) (hb : bmE z1 3000 (aL l) (fun j => j < 2 * l) q) (hs : ∀ j, j < 2 * l → s1 (z1.2.1 3006 (j / 2))) : mNet z1 3000 := by
  have hlen := aL_len l
  have wk := okF_wk (by omega) (aL_ok l)
  have hP : ∀ j, j < 2 * l → j < (aL l).flatten.length := fun j hj => by omega
  have hc : ∀ j, j < 2 * l → mtf (aL l) j < 2 * l := fun j hj => by
    have := mtf_lt (wkF_ok wk) (hP j hj)
    omega
  refine bmE_net wk (by omega) (by omega) hP hc (fun j hj => ?_) hb
  have hv := aL_at (l := l) (i := j / 2) (u := j % 2) (by omega) (by omega)
  rw [show 2 * (j / 2) + j % 2 = j by omega] at hv
  show s1 (z1.2.1 3006 (crs (aL l) j))
  unfold crs
  rw [hv]
  exact hs j hj
theorem e_X13_closure {x1 : Int32} {z : ow_MS} {Q : (Int32 × ow_MS) → Prop} (H : Tt (fun K _ => qm_X13_closure_0 K x1 z) Q) : Te (fun K => qe_X13_closure K x1 z) Q := w_te0 H
end CLO2
end
section
/-! 99zzzc.parted -/
/-! summands: isParted, waitsFor -/
def zer (r : Nat → Int32) (V : Nat) : Nat := cE r 0 V
theorem zer_le {r : Nat → Int32} {u : Nat} : ∀ V, zer (upd r u 1) V ≤ zer r V
  | 0 => Nat.le_refl _
  | V + 1 => by
    have := zer_le (r := r) (u := u) V
    unfold zer at this ⊢
    show cE (upd r u 1) 0 V + (if upd r u 1 V = 0 then 1 else 0) ≤ cE r 0 V + if r V = 0 then 1 else 0
    by_cases h : V = u
    · rw [h, pk_us, if_neg (by decide)]
      rw [h] at this
      omega
    · rw [pk_un h]
      omega
theorem zer_lt {r : Nat → Int32} {u : Nat} (hr : r u = 0) : ∀ V, u < V → zer (upd r u 1) V < zer r V
  | 0, h => by omega
  | V + 1, h => by
    unfold zer
    show cE (upd r u 1) 0 V + (if upd r u 1 V = 0 then 1 else 0) < cE r 0 V + if r V = 0 then 1 else 0
    by_cases hv : V = u
    · have := zer_le (r := r) (u := u) V
      unfold zer at this
      rw [hv, pk_us, if_neg (by decide), hr, if_pos rfl]
      rw [hv] at this
      omega
    · have := zer_lt hr V (by omega)
      unfold zer at this
      rw [pk_un hv]
      omega
section SUM
variable {X : (Nat → Nat → Int32) → Prop} {z : ow_MS} {A : rn_L} {sg : Nat → Bool}
/-- what stands in reached while component c is looked at -/
def rEa (y : ow_MS) (A : rn_L) (c g h : Nat) : Prop := ∀ v, v < A.flatten.length → (y.2.1 38 v = 0 ∨ y.2.1 38 v = 1) ∧ (rn_c A v = c → (y.2.1 38 v = 1 ↔ g < v ∧ v ≤ h))
theorem u_X13_isParted_5 {x2 : Int32} {x3 : Int32} {x4 : Int32} {x5 : Int32} {x6 : Int32} {x7 : Int32} {x8 : Int32} {r1 : Nat} {t0 : Int32} {t1 : Int32} {z : ow_MS} {Q : (Int32 × ow_MS) → Prop} (H : Tt (fun K k => qm_X13_isParted_5 K (q_X13_isParted K k) x2 x3 x4 x5 x6 x7 x8 r1 t0 t1 z) Q) : Tt (fun K k => q_X13_isParted K k 5 x2 x3 x4 x5 x6 x7 x8 r1 t0 t1 z) Q := w_un (fun _ _ => rfl) H
theorem u_X13_isParted_4 {x2 : Int32} {x3 : Int32} {x4 : Int32} {x5 : Int32} {x6 : Int32} {x7 : Int32} {x8 : Int32} {r1 : Nat} {t0 : Int32} {t1 : Int32} {z : ow_MS} {Q : (Int32 × ow_MS) → Prop} (H : Tt (fun K k => qm_X13_isParted_4 K (q_X13_isParted K k) x2 x3 x4 x5 x6 x7 x8 r1 t0 t1 z) Q) : Tt (fun K k => q_X13_isParted K k 4 x2 x3 x4 x5 x6 x7 x8 r1 t0 t1 z) Q := w_un (fun _ _ => rfl) H
theorem u_X13_isParted_7 {x2 : Int32} {x3 : Int32} {x4 : Int32} {x5 : Int32} {x6 : Int32} {x7 : Int32} {x8 : Int32} {r1 : Nat} {t0 : Int32} {t1 : Int32} {z : ow_MS} {Q : (Int32 × ow_MS) → Prop} (H : Tt (fun K k => qm_X13_isParted_7 K (q_X13_isParted K k) x2 x3 x4 x5 x6 x7 x8 r1 t0 t1 z) Q) : Tt (fun K k => q_X13_isParted K k 7 x2 x3 x4 x5 x6 x7 x8 r1 t0 t1 z) Q := w_un (fun _ _ => rfl) H
theorem u_X13_isParted_6 {x2 : Int32} {x3 : Int32} {x4 : Int32} {x5 : Int32} {x6 : Int32} {x7 : Int32} {x8 : Int32} {r1 : Nat} {t0 : Int32} {t1 : Int32} {z : ow_MS} {Q : (Int32 × ow_MS) → Prop} (H : Tt (fun K k => qm_X13_isParted_6 K (q_X13_isParted K k) x2 x3 x4 x5 x6 x7 x8 r1 t0 t1 z) Q) : Tt (fun K k => q_X13_isParted K k 6 x2 x3 x4 x5 x6 x7 x8 r1 t0 t1 z) Q := w_un (fun _ _ => rfl) H
theorem u_X13_isParted_1 {x2 : Int32} {x3 : Int32} {x4 : Int32} {x5 : Int32} {x6 : Int32} {x7 : Int32} {x8 : Int32} {r1 : Nat} {t0 : Int32} {t1 : Int32} {z : ow_MS} {Q : (Int32 × ow_MS) → Prop} (H : Tt (fun K k => qm_X13_isParted_1 K (q_X13_isParted K k) x2 x3 x4 x5 x6 x7 x8 r1 t0 t1 z) Q) : Tt (fun K k => q_X13_isParted K k 1 x2 x3 x4 x5 x6 x7 x8 r1 t0 t1 z) Q := w_un (fun _ _ => rfl) H
theorem u_X13_isParted_3 {x2 : Int32} {x3 : Int32} {x4 : Int32} {x5 : Int32} {x6 : Int32} {x7 : Int32} {x8 : Int32} {r1 : Nat} {t0 : Int32} {t1 : Int32} {z : ow_MS} {Q : (Int32 × ow_MS) → Prop} (H : Tt (fun K k => qm_X13_isParted_3 K (q_X13_isParted K k) x2 x3 x4 x5 x6 x7 x8 r1 t0 t1 z) Q) : Tt (fun K k => q_X13_isParted K k 3 x2 x3 x4 x5 x6 x7 x8 r1 t0 t1 z) Q := w_un (fun _ _ => rfl) H
theorem u_X13_isParted_2 {x2 : Int32} {x3 : Int32} {x4 : Int32} {x5 : Int32} {x6 : Int32} {x7 : Int32} {x8 : Int32} {r1 : Nat} {t0 : Int32} {t1 : Int32} {z : ow_MS} {Q : (Int32 × ow_MS) → Prop} (H : Tt (fun K k => qm_X13_isParted_2 K (q_X13_isParted K k) x2 x3 x4 x5 x6 x7 x8 r1 t0 t1 z) Q) : Tt (fun K k => q_X13_isParted K k 2 x2 x3 x4 x5 x6 x7 x8 r1 t0 t1 z) Q := w_un (fun _ _ => rfl) H
theorem e_X13_isParted {r1 : Nat} {x2 : Int32} {x3 : Int32} {x4 : Int32} {z : ow_MS} {Q : (Int32 × ow_MS) → Prop} (H : Tt (fun K k => q_X13_isParted K k 0 x2 x3 x4 0 0 0 0 r1 0 0 z) Q) : Te (fun K => qe_X13_isParted K r1 x2 x3 x4 z) Q := w_te H
theorem u_X13_isParted_0 {x2 : Int32} {x3 : Int32} {x4 : Int32} {x5 : Int32} {x6 : Int32} {x7 : Int32} {x8 : Int32} {r1 : Nat} {t0 : Int32} {t1 : Int32} {z : ow_MS} {Q : (Int32 × ow_MS) → Prop} (H : Tt (fun K k => qm_X13_isParted_0 K (q_X13_isParted K k) x2 x3 x4 x5 x6 x7 x8 r1 t0 t1 z) Q) : Tt (fun K k => q_X13_isParted K k 0 x2 x3 x4 x5 x6 x7 x8 r1 t0 t1 z) Q := w_un (fun _ _ => rfl) H
theorem tp_parted {c g h : Nat} (hO : oNet z 1000 A sg) (hc : c < A.length) (hg1 : rn_b A c ≤ g) (hgh : g < h) (hh : h < rn_b A (c + 1)) : Te (fun K => qe_X13_isParted K 1000 (nI c) (nI g) (nI h) z) (fun r => fr (fun i => i = 38) z r.2 ∧ (r.1 = 0 ∨ r.1 = 1) ∧ (r.1 = 1 → rEa r.2 A c g h ∧ ∀ v, v < A.flatten.length → r.2.2.1 38 v = 1 → r.2.2.1 38 (mtf A v) = 1)) := by
  have hl := hO.len
  have hC := hO.2.2.2
  have hd := wkF_ok hO.wk
  have hbl := rn_b_le A (c + 1)
  obtain ⟨V, hV⟩ : ∃ V, V = A.flatten.length := ⟨_, rfl⟩
  have oY : ∀ {y : ow_MS}, fr (fun i => i = 38) z y → oNet y 1000 A sg := fun hf => oNet_fr hf (fun i hi => by omega) hO
  let Q : Int32 × ow_MS → Prop := fun r => fr (fun i => i = 38) z r.2 ∧ (r.1 = 0 ∨ r.1 = 1) ∧ (r.1 = 1 → rEa r.2 A c g h ∧ ∀ v, v < A.flatten.length → r.2.2.1 38 v = 1 → r.2.2.1 38 (mtf A v) = 1)
  have pass : ∀ (Z0 : Nat), (∀ (y : ow_MS), fr (fun i => i = 38) z y → rEa y A c g h → zer (y.2.1 38) V < Z0 → Tt (fun K i => q_X13_isParted K i 4 (nI c) (nI g) (nI h) 1 0 0 0 1000 0 0 y) Q) → ∀ (d v : Nat) (x5 : Int32) (y : ow_MS), v + d = V → fr (fun i => i = 38) z y → rEa y A c g h → (x5 = 0 ∧ zer (y.2.1 38) V ≤ Z0 ∧ (∀ v', v' < v → y.2.1 38 v' = 1 → y.2.1 38 (mtf A v') = 1) ∨ x5 = 1 ∧ zer (y.2.1 38) V < Z0) → Tt (fun K i => q_X13_isParted K i 5 (nI c) (nI g) (nI h) x5 (nI v) 0 0 1000 0 0 y) Q := by
    intro Z0 hag d
    induction d with
    | zero =>
      intro v x5 y hv hf hE hx
      have o2 := oY hf
      refine u_X13_isParted_5 ?_; unfold qm_X13_isParted_5
      refine w_rdF o2.1.V (w_leT (by omega) (by omega) ?_)
      rcases hx with ⟨e, h1, h2⟩ | ⟨e, h1⟩
      · subst e
        refine u_X13_isParted_4 ?_; unfold qm_X13_isParted_4
        refine w_ifT rfl (w_okZ (Or.inr rfl) (w_some ⟨hf, Or.inr rfl, fun _ => ⟨hE, fun v' hv' h9 => h2 v' (by omega) h9⟩⟩))
      · subst e
        exact hag y hf hE h1
    | succ d ih =>
      intro v x5 y hv hf hE hx
      have o2 := oY hf
      have hvl : v < A.flatten.length := by omega
      have hml := mtf_lt hd hvl
      have c7 : ∀ (x9 : Int32) (y2 : ow_MS), fr (fun i => i = 38) z y2 → rEa y2 A c g h → (x9 = 0 ∧ zer (y2.2.1 38) V ≤ Z0 ∧ (∀ v', v' < v + 1 → y2.2.1 38 v' = 1 → y2.2.1 38 (mtf A v') = 1) ∨ x9 = 1 ∧ zer (y2.2.1 38) V < Z0) → Tt (fun K i => q_X13_isParted K i 7 (nI c) (nI g) (nI h) x9 (nI v) 0 0 1000 0 0 y2) Q := by
        intro x9 y2 hf2 hE2 hx2
        refine u_X13_isParted_7 ?_; unfold qm_X13_isParted_7
        rw [nI_1]
        exact ih (v + 1) x9 y2 (by omega) hf2 hE2 hx2
      -- nothing to do at v
      have stay : (y.2.1 38 v = 1 → y.2.1 38 (mtf A v) = 1) → Tt (fun K i => q_X13_isParted K i 7 (nI c) (nI g) (nI h) x5 (nI v) 0 0 1000 0 0 y) Q := by
        intro hst
        refine c7 x5 y hf hE (hx.imp (fun ⟨e, h1, h2⟩ => ⟨e, h1, fun v' hv' h9 => ?_⟩) id)
        by_cases hvv : v' = v
        · rw [hvv] at h9 ⊢
          exact hst h9
        · exact h2 v' (by omega) h9
      refine u_X13_isParted_5 ?_; unfold qm_X13_isParted_5
      refine w_rdF o2.1.V (w_leF (by omega) (by omega) (w_rdI ml38 rfl (by omega) rfl (w_if (fun h0 => stay (fun h9 => by rw [h0] at h9; exact absurd h9 (by decide))) (fun h0 => w_rdI (pl7 pn1) rfl (by omega) (lk_m hd o2.1 hvl) (w_rdI ml38 rfl (by omega) rfl (w_if (fun hm0 => ?_) (fun hm0 => stay (fun _ => ((hE _ hml).1.resolve_left hm0)))))))))
      obtain ⟨k1, k2, k3⟩ := rn_c_in A (mtf A v) hml
      obtain ⟨k, hk⟩ : ∃ k, k = rn_c A (mtf A v) := ⟨_, rfl⟩
      rw [← hk] at k1 k2 k3
      have hbk := rn_b_le A (k + 1)
      refine w_rdI (pl7 pn1) rfl (by omega) (lk_m hd o2.1 hvl) (w_rdI (pl8 pn1) rfl (by omega) ((lk_c o2.1 hml).trans (by rw [← hk])) (w_eqN (by omega) (by omega) (fun _ => w_okZ (Or.inl rfl) (w_some ⟨hf, Or.inl rfl, fun h9 => absurd h9 (show ¬ ((0 : Int32) = 1) by decide)⟩)) (fun hkc => w_rdI (pl3 pn1) rfl (by omega) (lk_b o2.1 (by omega)) ?_)))
      -- the whole component k
      have fill : ∀ (d u : Nat) (y2 : ow_MS), u + d = rn_b A (k + 1) → rn_b A k ≤ u → fr (fun i => i = 38) z y2 → rEa y2 A c g h → (zer (y2.2.1 38) V ≤ zer (y.2.1 38) V ∧ (mtf A v < u → zer (y2.2.1 38) V < zer (y.2.1 38) V) ∧ (u ≤ mtf A v → y2.2.1 38 (mtf A v) = 0)) → Tt (fun K i => q_X13_isParted K i 6 (nI c) (nI g) (nI h) x5 (nI v) (nI k) (nI u) 1000 0 0 y2) Q := by
        intro d
        induction d with
        | zero =>
          intro u y2 hu hlo hf2 hE2 ⟨z1, z2, z3⟩
          have o3 := oY hf2
          refine u_X13_isParted_6 ?_; unfold qm_X13_isParted_6
          rw [nI_1]
          refine w_rdI (pl3 pn1) rfl (by omega) (lk_b o3.1 (by omega)) (w_leT (by omega) (by omega) (c7 1 y2 hf2 hE2 (Or.inr ⟨rfl, ?_⟩)))
          have := z2 (by omega)
          rcases hx with ⟨_, h1, _⟩ | ⟨_, h1⟩ <;> omega
        | succ d ihf =>
          intro u y2 hu hlo hf2 hE2 ⟨z1, z2, z3⟩
          have o3 := oY hf2
          have hul : u < A.flatten.length := by omega
          have huc : rn_c A u = k := rn_c_of A k u hlo (by omega)
          refine u_X13_isParted_6 ?_; unfold qm_X13_isParted_6
          rw [nI_1, nI_1]
          refine w_rdI (pl3 pn1) rfl (by omega) (lk_b o3.1 (by omega)) (w_leF (by omega) (by omega) (w_wrZ ml38 rfl (by omega) (ihf (u + 1) _ (by omega) (by omega) (fr_I2 hf2 rfl) (fun v' hv' => ?_) ?_)))
          · obtain ⟨e1, e2⟩ := hE2 v' hv'
            by_cases hvu : v' = u
            · rw [hvu]
              refine ⟨Or.inr po_usI_at, fun e9 => ?_⟩
              exact absurd (huc.symm.trans e9) (fun e8 => hkc e8)
            · rw [po_usI_ne hvu]
              exact ⟨e1, e2⟩
          · have er : (usI y2 38 u (vp_nar .boolean 1)).2.1 38 = upd (y2.2.1 38) u 1 := po_usI_row
            rw [er]
            have hle := zer_le (r := y2.2.1 38) (u := u) V
            refine ⟨by omega, fun h9 => ?_, fun h9 => ?_⟩
            · by_cases hum : u = mtf A v
              · have := zer_lt (r := y2.2.1 38) (u := u) (by rw [hum]; exact z3 (by omega)) V (by omega)
                omega
              · have := z2 (by omega)
                omega
            · rw [pk_un (by omega)]
              exact z3 (by omega)
      exact fill (rn_b A (k + 1) - rn_b A k) (rn_b A k) y (by omega) (Nat.le_refl _) hf hE ⟨Nat.le_refl _, fun h9 => by omega, fun _ => hm0⟩
  have wh : ∀ (u : Nat) (y : ow_MS), zer (y.2.1 38) V ≤ u → fr (fun i => i = 38) z y → rEa y A c g h → Tt (fun K i => q_X13_isParted K i 4 (nI c) (nI g) (nI h) 1 0 0 0 1000 0 0 y) Q := by
    intro u
    induction u with
    | zero =>
      intro y hu hf hE
      refine u_X13_isParted_4 ?_; unfold qm_X13_isParted_4
      exact w_ifF (by decide) (pass 0 (fun y2 _ _ h9 => by omega) V 0 0 y (by omega) hf hE (Or.inl ⟨rfl, hu, fun v' hv' => by omega⟩))
    | succ u ih =>
      intro y hu hf hE
      refine u_X13_isParted_4 ?_; unfold qm_X13_isParted_4
      exact w_ifF (by decide) (pass (u + 1) (fun y2 f2 e2 h9 => ih y2 (by omega) f2 e2) V 0 0 y (by omega) hf hE (Or.inl ⟨rfl, hu, fun v' hv' => by omega⟩))
  have ini : ∀ (d v : Nat) (y : ow_MS), v + d = V → fr (fun i => i = 38) z y → (∀ v', v' < v → (y.2.1 38 v' = 0 ∨ y.2.1 38 v' = 1) ∧ (y.2.1 38 v' = 1 ↔ g < v' ∧ v' ≤ h)) → Tt (fun K i => q_X13_isParted K i 1 (nI c) (nI g) (nI h) (nI v) 0 0 0 1000 0 0 y) Q := by
    intro d
    induction d with
    | zero =>
      intro v y hv hf hr
      refine u_X13_isParted_1 ?_; unfold qm_X13_isParted_1
      exact w_rdF (oY hf).1.V (w_leT (by omega) (by omega) (wh _ y (Nat.le_refl _) hf (fun v' hv' => ⟨(hr v' (by omega)).1, fun _ => (hr v' (by omega)).2⟩)))
    | succ d ih =>
      intro v y hv hf hr
      have c3 : ∀ (b : Bool), (b = true ↔ g < v ∧ v ≤ h) → Tt (fun K i => q_X13_isParted K i 3 (nI c) (nI g) (nI h) (nI v) 0 0 0 1000 (bZ b) (nI v) y) Q := by
        intro b hb
        refine u_X13_isParted_3 ?_; unfold qm_X13_isParted_3
        rw [nI_1]
        refine w_wrZ ml38 rfl (by omega) (ih (v + 1) _ (by omega) (fr_I2 hf rfl) (fun v' hv' => ?_))
        by_cases hvv : v' = v
        · rw [hvv, po_usI_at]
          cases b with
          | true => exact ⟨Or.inr rfl, fun _ => hb.mp rfl, fun _ => rfl⟩
          | false => exact ⟨Or.inl rfl, fun h9 => absurd h9 (by decide), fun h9 => absurd (hb.mpr h9) (by decide)⟩
        · rw [po_usI_ne hvv]
          exact hr v' (by omega)
      have c2 : ¬ (g < v ∧ v ≤ h) → Tt (fun K i => q_X13_isParted K i 2 (nI c) (nI g) (nI h) (nI v) 0 0 0 1000 (nI v) 0 y) Q := by
        intro hno
        refine u_X13_isParted_2 ?_; unfold qm_X13_isParted_2
        exact c3 false ⟨fun h9 => absurd h9 (by decide), fun h9 => absurd h9 hno⟩
      refine u_X13_isParted_1 ?_; unfold qm_X13_isParted_1
      exact w_rdF (oY hf).1.V (w_leF (by omega) (by omega) (w_le (by omega) (by omega) (fun h9 => c2 (by omega)) (fun h9 => w_lt (by omega) (by omega) (fun h8 => c2 (by omega)) (fun h8 => c3 true ⟨fun _ => ⟨h9, h8⟩, fun _ => rfl⟩))))
  refine e_X13_isParted ?_
  refine u_X13_isParted_0 ?_; unfold qm_X13_isParted_0
  exact ini V 0 z (by omega) fr_rf (fun v' hv' => by omega)
theorem cE_filter {r : Nat → Int32} {x : Int32} : ∀ V, ((List.range V).filter (fun v => decide (r v = x))).length = cE r x V
  | 0 => rfl
  | V + 1 => by
    rw [List.range_succ, List.filter_append, List.length_append, cE_filter V]
    show _ = cE r x V + if r V = x then 1 else 0
    by_cases h : r V = x <;> simp [h]
theorem e_X13_waitsFor {r1 : Nat} {x2 : Int32} {x3 : Int32} {z : ow_MS} {Q : ow_MS → Prop} (H : Tt (fun K k => q_X13_waitsFor K k 0 x2 x3 0 0 0 r1 z) Q) : Te (fun K => qe_X13_waitsFor K r1 x2 x3 z) Q := w_te H
theorem u_X13_waitsFor_0 {x2 : Int32} {x3 : Int32} {x4 : Int32} {x5 : Int32} {x6 : Int32} {r1 : Nat} {z : ow_MS} {Q : ow_MS → Prop} (H : Tt (fun K k => qm_X13_waitsFor_0 K (q_X13_waitsFor K k) x2 x3 x4 x5 x6 r1 z) Q) : Tt (fun K k => q_X13_waitsFor K k 0 x2 x3 x4 x5 x6 r1 z) Q := w_un (fun _ _ => rfl) H
theorem u_X13_waitsFor_1 {x2 : Int32} {x3 : Int32} {x4 : Int32} {x5 : Int32} {x6 : Int32} {r1 : Nat} {z : ow_MS} {Q : ow_MS → Prop} (H : Tt (fun K k => qm_X13_waitsFor_1 K (q_X13_waitsFor K k) x2 x3 x4 x5 x6 r1 z) Q) : Tt (fun K k => q_X13_waitsFor K k 1 x2 x3 x4 x5 x6 r1 z) Q := w_un (fun _ _ => rfl) H
theorem u_X13_waitsFor_4 {x2 : Int32} {x3 : Int32} {x4 : Int32} {x5 : Int32} {x6 : Int32} {r1 : Nat} {z : ow_MS} {Q : ow_MS → Prop} (H : Tt (fun K k => qm_X13_waitsFor_4 K (q_X13_waitsFor K k) x2 x3 x4 x5 x6 r1 z) Q) : Tt (fun K k => q_X13_waitsFor K k 4 x2 x3 x4 x5 x6 r1 z) Q := w_un (fun _ _ => rfl) H
theorem u_X13_waitsFor_2 {x2 : Int32} {x3 : Int32} {x4 : Int32} {x5 : Int32} {x6 : Int32} {r1 : Nat} {z : ow_MS} {Q : ow_MS → Prop} (H : Tt (fun K k => qm_X13_waitsFor_2 K (q_X13_waitsFor K k) x2 x3 x4 x5 x6 r1 z) Q) : Tt (fun K k => q_X13_waitsFor K k 2 x2 x3 x4 x5 x6 r1 z) Q := w_un (fun _ _ => rfl) H
theorem u_X13_waitsFor_3 {x2 : Int32} {x3 : Int32} {x4 : Int32} {x5 : Int32} {x6 : Int32} {r1 : Nat} {z : ow_MS} {Q : ow_MS → Prop} (H : Tt (fun K k => qm_X13_waitsFor_3 K (q_X13_waitsFor K k) x2 x3 x4 x5 x6 r1 z) Q) : Tt (fun K k => q_X13_waitsFor K k 3 x2 x3 x4 x5 x6 r1 z) Q := w_un (fun _ _ => rfl) H
theorem tp_waits {n at9 : Nat} {b : Bool} (hn : mw_net n) (hn3 : n ≠ 3000) (ha : at9 < 16) (hO : oNet z n A sg) (hcl : ∀ v, v < A.flatten.length → z.2.1 38 v = bZ b → z.2.1 38 (mtf A v) = bZ b) : Te (fun K => qe_X13_waitsFor K n (bZ b) (nI at9) z) (fun z1 => (∃ A' sg' c, vRow z1 37 (32 * at9) A' sg' ∧ okF A'.flatten c ∧ 2 * c = cE (z.2.1 38) (bZ b) A.flatten.length) ∧ fr (fun g => 2 ≤ g ∧ g ≤ 9 ∨ g = 37 ∨ 3001 ≤ g ∧ g ≤ 3013) z z1 ∧ ∀ i, i < 32 * at9 ∨ 32 * at9 + 32 ≤ i → z1.2.1 37 i = z.2.1 37 i) := by
  have hmn := net_mod hn
  have hl := hO.len
  have hC := hO.2.2.2
  have hd := wkF_ok hO.wk
  let Q : ow_MS → Prop := fun z1 => (∃ A' sg' c, vRow z1 37 (32 * at9) A' sg' ∧ okF A'.flatten c ∧ 2 * c = cE (z.2.1 38) (bZ b) A.flatten.length) ∧ fr (fun g => 2 ≤ g ∧ g ≤ 9 ∨ g = 37 ∨ 3001 ≤ g ∧ g ≤ 3013) z z1 ∧ ∀ i, i < 32 * at9 ∨ 32 * at9 + 32 ≤ i → z1.2.1 37 i = z.2.1 37 i
  refine e_X13_waitsFor ?_
  refine u_X13_waitsFor_0 ?_; unfold qm_X13_waitsFor_0
  refine w_cs0 (bm_clear (A := A) pn3) (fun z3 ⟨b3, f3⟩ => w_cs0 (tn_signs pn3 hn (fun e => hn3 e.symm)) (fun z4 ⟨f4, s4⟩ => ?_))
  let I : ow_MS → Prop := fun y => fr (fun g => 3001 ≤ g ∧ g ≤ 3006) z y ∧ ∀ x, x < 40 → y.2.1 3006 x = z.2.1 (n + 6) x
  have oI : ∀ {y : ow_MS}, I y → oNet y n A sg := fun hI => oNet_fr hI.1 (fun g hg => by omega) hO
  have stI : ∀ {P : Nat → Prop} {y y2 : ow_MS}, I y → fr P y y2 → (∀ g, P g → 3001 ≤ g ∧ g ≤ 3005) → I y2 := fun hI hf hP => ⟨fr_tr hI.1 (fr_mono (fun g hg => by have := hP g hg; omega) hf), fun x hx => by rw [(hf 3006 (fun h9 => by have := hP _ h9; omega)).2.1]; exact hI.2 x hx⟩
  have e38 : ∀ {y : ow_MS}, I y → y.2.1 38 = z.2.1 38 := fun hI => (hI.1 38 (by omega)).2.1
  have out : ∀ (k c q : Nat) (y : ow_MS), c + k = A.length → q ≤ c → I y → bmE y 3000 A (fun j => j < rn_b A c ∧ z.2.1 38 j = bZ b) q → Tt (fun K i => q_X13_waitsFor K i 1 (bZ b) (nI at9) (nI c) 0 0 n y) Q := by
    intro k
    induction k with
    | zero =>
      intro c q y hc hq hI hb
      have hce : c = A.length := by omega
      rw [hce, rn_b_len] at hb
      have hP : ∀ j, (j < A.flatten.length ∧ z.2.1 38 j = bZ b) → mtf A j < A.flatten.length ∧ z.2.1 38 (mtf A j) = bZ b := fun j hj => ⟨mtf_lt hd hj.1, hcl j hj.1 hj.2⟩
      have hs : ∀ j, (j < A.flatten.length ∧ z.2.1 38 j = bZ b) → s1 (y.2.1 (3000 + 6) (crs A j)) := fun j hj => by
        obtain ⟨x1, x2, x3⟩ := hO.cx hj.1
        show s1 (y.2.1 3006 (crs A j))
        rw [hI.2 _ (by omega)]
        exact s1_if x3
      have hN : mNet y 3000 := bmE_net hO.wk hl (by omega) (fun j hj => hj.1) hP hs hb
      obtain ⟨A1, sg1, n1, n2, n3, n4, n5⟩ := hN
      obtain ⟨C, m1, m2, m3, m4⟩ := hb
      have hlenC : C.flatten.length = cE (z.2.1 38) (bZ b) A.flatten.length := by
        rw [← cE_filter]
        refine nodup_eq m3 (nodup_filter List.nodup_range) (fun j => ?_)
        rw [m4 j, List.mem_filter, List.mem_range, decide_eq_true_iff]
      have hlen1 : A1.flatten.length = C.flatten.length := by
        have e1 := n1.1
        have e2 := m2.1
        rw [e2, List.append_nil, List.append_nil, fl_map, List.length_map] at e1
        have hb1 : C.flatten.length ≤ A.flatten.length := by
          rw [hlenC]
          exact cE_le _
        exact ((nI_eq (by omega) (by omega)).mp e1).symm
      refine u_X13_waitsFor_1 ?_; unfold qm_X13_waitsFor_1
      rw [show (32 : Int32) * nI at9 = nI (32 * at9) from pk_mul 32 at9]
      refine w_rdF (lk_C (oI hI).1) (w_leT (by omega) (by omega) (w_cs0 (tr_pack pn3 (by omega) ml37 (by omega) (by omega) (by omega) (by omega) n3 n1 n2) (fun y2 hy2 => w_some ?_)))
      obtain ⟨m, P, k1, k2, k3, k4, -, -⟩ := hy2
      obtain ⟨A', sg', c', e, ok, l1, l2⟩ := pkR_ok (sg := sg1) n3 k1
      rw [e] at k2
      refine ⟨⟨A', sg', c', ⟨k2, ⟨c', ok, by omega⟩, by omega⟩, ok, by omega⟩, fr_tr (fr_mono (fun g hg => by omega) hI.1) (fr_mono (fun g hg => by unfold frQ at hg; omega) k3), fun i hi => ?_⟩
      rw [k4 i hi, (hI.1 37 (by omega)).2.1]
    | succ k ih =>
      intro c q y hc hq hI hb
      have m1 := rn_b_mono A c
      have m2 := rn_b_le A (c + 1)
      have c4 : ∀ (x5 x6 : Int32) (q2 : Nat) (y2 : ow_MS), q2 ≤ c + 1 → I y2 → bmE y2 3000 A (fun j => j < rn_b A (c + 1) ∧ z.2.1 38 j = bZ b) q2 → Tt (fun K i => q_X13_waitsFor K i 4 (bZ b) (nI at9) (nI c) x5 x6 n y2) Q := by
        intro x5 x6 q2 y2 hq2 hI2 hb2
        refine u_X13_waitsFor_4 ?_; unfold qm_X13_waitsFor_4
        rw [nI_1]
        exact ih (c + 1) q2 y2 (by omega) hq2 hI2 hb2
      have inn : ∀ (d i k9 : Nat) (y : ow_MS), i + d = rn_b A (c + 1) → rn_b A c ≤ i → k9 ≤ i → I y → bm y 3000 A (fun j => j < i ∧ z.2.1 38 j = bZ b) q → (k9 = 0 → bmE y 3000 A (fun j => j < i ∧ z.2.1 38 j = bZ b) q) → Tt (fun K i9 => q_X13_waitsFor K i9 2 (bZ b) (nI at9) (nI c) (nI k9) (nI i) n y) Q := by
        intro d
        induction d with
        | zero =>
          intro i k9 y hi hlo hk9 hI hb hb0
          have hie : i = rn_b A (c + 1) := by omega
          rw [hie] at hb hb0 ⊢
          refine u_X13_waitsFor_2 ?_; unfold qm_X13_waitsFor_2
          rw [nI_1]
          refine w_rdI (pl3 hn) rfl (by omega) (lk_b (oI hI).1 (by omega)) (w_leT (by omega) (Nat.le_refl _) (w_le (b := 0) (by omega) (by omega) (fun h0 => c4 _ _ q y (by omega) hI (hb0 (by omega))) (fun h0 => w_cs0 (bm_end pn3 (by omega) hb) (fun y2 ⟨g1, g2⟩ => c4 _ _ (q + 1) y2 (by omega) (stI hI g2 (fun g hg => by omega)) g1))))
        | succ d ihd =>
          intro i k9 y hi hlo hk9 hI hb hb0
          have hil : i < A.flatten.length := by omega
          refine u_X13_waitsFor_2 ?_; unfold qm_X13_waitsFor_2
          rw [nI_1, nI_1]
          refine w_rdI (pl3 hn) rfl (by omega) (lk_b (oI hI).1 (by omega)) (w_leF (by omega) (by omega) (w_rdI ml38 rfl (by omega) (by rw [e38 hI]) (w_if (fun h9 => w_rdI (pl4 hn) rfl (by omega) (lk_cu (oI hI).1 hil).1 (w_rdI (pl5 hn) rfl (by omega) (lk_cu (oI hI).1 hil).2 (w_cs0 (bm_add (i := i) pn3 (by omega) (fun j hj => by omega) (fun hj => by omega) rfl rfl hb) (fun y2 ⟨g1, g2⟩ => ?_)))) (fun h9 => ?_))))
          · refine u_X13_waitsFor_3 ?_; unfold qm_X13_waitsFor_3
            rw [nI_1]
            refine ihd (i + 1) (k9 + 1) y2 (by omega) (by omega) (by omega) (stI hI g2 (fun g hg => by omega)) (bm_eq g1 (fun j => ⟨fun h8 => ?_, fun h8 => ?_⟩)) (fun e => by omega)
            · rcases h8 with h8 | h8
              · exact ⟨by omega, h8.2⟩
              · rw [h8]
                exact ⟨by omega, h9⟩
            · by_cases hji : j = i
              · exact Or.inr hji
              · exact Or.inl ⟨by omega, h8.2⟩
          · refine u_X13_waitsFor_3 ?_; unfold qm_X13_waitsFor_3
            rw [nI_1]
            have eqj : ∀ j, (j < i ∧ z.2.1 38 j = bZ b) ↔ (j < i + 1 ∧ z.2.1 38 j = bZ b) := fun j => ⟨fun h8 => ⟨by omega, h8.2⟩, fun h8 => ⟨by
              by_cases hji : j = i
              · rw [hji] at h8
                exact absurd h8.2 h9
              · omega, h8.2⟩⟩
            exact ihd (i + 1) k9 y (by omega) (by omega) (by omega) hI (bm_eq hb eqj) (fun e => bmE_eq (hb0 e) eqj)
      refine u_X13_waitsFor_1 ?_; unfold qm_X13_waitsFor_1
      exact w_rdF (lk_C (oI hI).1) (w_leF (by omega) (by omega) (w_rdI (pl3 hn) rfl (by omega) (lk_b (oI hI).1 (by omega)) (inn (rn_b A (c + 1) - rn_b A c) (rn_b A c) 0 y (by omega) (Nat.le_refl _) (by omega) hI hb.b (fun _ => hb))))
  refine out A.length 0 0 z4 (by omega) (Nat.le_refl _) ⟨fr_tr (fr_mono (fun g hg => by omega) f3) (fr_mono (fun g hg => by omega) f4), fun x hx => ?_⟩ (bmE_eq (bmE_fr f4 (fun g hg => by omega) b3) (fun j => ⟨fun h9 => h9.elim, fun h9 => by rw [rn_b0] at h9; omega⟩))
  rw [show z4.2.1 3006 x = z3.2.1 (n + 6) x from s4 x hx, (f3 (n + 6) (by omega)).2.1]
end SUM
end
