section
/-! 99zzy.read -/
/-! read, diagram -/
def hb (F : List (Nat × Nat)) (k : Nat) : Nat := (if (k, 0) ∈ F then 1 else 0) + if (k, 1) ∈ F then 2 else 0
theorem hb_lt {F : List (Nat × Nat)} {k : Nat} : hb F k < 4 := by
  unfold hb
  by_cases h1 : (k, 0) ∈ F <;> by_cases h2 : (k, 1) ∈ F <;> simp [h1, h2]
theorem hb_and {F : List (Nat × Nat)} {k u : Nat} (hu : u < 2) : (nI (hb F k) &&& (1 + nI u) = 0) ↔ (k, u) ∉ F := by
  have h0 : u = 0 ∨ u = 1 := by omega
  unfold hb
  rcases h0 with h0 | h0 <;> subst h0 <;> by_cases h1 : (k, 0) ∈ F <;> by_cases h2 : (k, 1) ∈ F <;> simp only [h1, h2, if_true, if_false, not_true, not_false_iff] <;> decide
theorem hb_or {F : List (Nat × Nat)} {k u : Nat} (hu : u < 2) (hn : (k, u) ∉ F) : nI (hb F k) ||| (1 + nI u) = nI (hb (F ++ [(k, u)]) k) := by
  have h0 : u = 0 ∨ u = 1 := by omega
  unfold hb
  rcases h0 with h0 | h0 <;> subst h0 <;> by_cases h1 : (k, 0) ∈ F <;> by_cases h2 : (k, 1) ∈ F <;> simp only [List.mem_append, List.mem_singleton, Prod.mk.injEq, true_and, h1, h2, if_true, if_false, or_true, or_false, true_or, false_or, Nat.zero_ne_one, Nat.one_ne_zero] <;> first | decide | exact absurd h1 hn | exact absurd h2 hn
theorem hb_ot {F : List (Nat × Nat)} {k j u : Nat} (h : j ≠ k) : hb (F ++ [(k, u)]) j = hb F j := by
  have e : ∀ w, ((j, w) ∈ F ++ [(k, u)]) ↔ (j, w) ∈ F := fun w => by
    rw [List.mem_append, List.mem_singleton]
    exact ⟨fun h9 => h9.elim id (fun h8 => absurd (Prod.mk.inj h8).1 h), Or.inl⟩
  unfold hb
  simp only [e]
theorem hb_3 {F : List (Nat × Nat)} {k : Nat} (h : hb F k = 3) : (k, 0) ∈ F ∧ (k, 1) ∈ F := by
  unfold hb at h
  by_cases h1 : (k, 0) ∈ F <;> by_cases h2 : (k, 1) ∈ F <;> simp [h1, h2] at h ⊢
theorem e_X13_byteAt {x1 : Int32} {z : ow_MS} {Q : (Int32 × ow_MS) → Prop} (H : Tt (fun K _ => qm_X13_byteAt_0 K x1 z) Q) : Te (fun K => qe_X13_byteAt K x1 z) Q := w_te0 H
theorem tm_byteAt {z : ow_MS} {i t : Nat} (hi : i < 1000) (ht : t ≤ 400) (h11 : z.1 11 = nI t) : Te (fun K => qe_X13_byteAt K (nI i) z) (fun r => r.2 = z ∧ (t ≤ i → r.1 = -1)) := by
  refine e_X13_byteAt ?_; unfold qm_X13_byteAt_0
  exact w_rdF h11 (w_le (by omega) (by omega) (fun _ => w_some ⟨rfl, fun _ => rfl⟩) (fun h9 => w_rdI ml10 rfl (by omega) rfl (w_some ⟨rfl, fun h8 => by omega⟩)))
/-- a list of at most twelve crossings' visits -/
theorem rd_len {F : List (Nat × Nat)} {N : Nat} (hn : F.Nodup) (hF : ∀ p : Nat × Nat, p ∈ F → p.1 < N ∧ p.2 < 2) : F.length ≤ 2 * N := by
  have h1 : okF ((List.range N).flatMap (fun x => [(x, 0), (x, 1)])) N := by
    have nd : ∀ c, ((List.range c).flatMap (fun x => [(x, 0), (x, 1)])).Nodup := by
      intro c
      induction c with
      | zero => exact List.nodup_nil
      | succ c ih =>
        rw [List.range_succ, List.flatMap_append, List.nodup_append]
        refine ⟨ih, by simp, fun a ha b hb e => ?_⟩
        rw [List.mem_flatMap] at ha
        obtain ⟨x, hx, ha⟩ := ha
        have hx := List.mem_range.mp hx
        have h1 : a.1 = x := by
          simp at ha
          rcases ha with ha | ha <;> rw [ha]
        have h2 : b.1 = c := by
          simp at hb
          rcases hb with hb | hb <;> rw [hb]
        rw [e] at h1
        omega
    refine ⟨nd N, fun p => ?_⟩
    rw [List.mem_flatMap]
    constructor
    · intro ⟨x, hx, hp⟩
      have hx := List.mem_range.mp hx
      simp at hp
      rcases hp with hp | hp <;> rw [hp] <;> exact ⟨hx, by simp⟩
    · intro ⟨h1, h2⟩
      refine ⟨p.1, List.mem_range.mpr h1, ?_⟩
      obtain ⟨x, u⟩ := p
      have : u = 0 ∨ u = 1 := by have : u < 2 := h2; omega
      rcases this with e | e <;> simp [e]
  have := nodup_le F _ hn (fun p hp => (h1.2 p).mpr (hF p hp))
  rw [okF_len h1] at this
  exact this
/-- what read keeps while it reads -/
def rD (z : ow_MS) (A1 : rn_L) (B1 : List (Nat × Nat)) (N t : Nat) : Prop := rn_At z 3000 A1 B1 ∧ (A1.flatten ++ B1).Nodup ∧ (∀ p : Nat × Nat, p ∈ A1.flatten ++ B1 → p.1 < N ∧ p.2 < 2) ∧ N ≤ 12 ∧ ∀ k, k < N → z.2.1 19 k = nI (hb (A1.flatten ++ B1) k) ∧ s1 (z.2.1 17 k) ∧ (∃ a, a < t ∧ z.2.1 18 k = nI a) ∧ (∀ u, (k, u) ∈ A1.flatten ++ B1 → z.2.1 3006 k = z.2.1 17 k)
abbrev frV (g : Nat) : Prop := 16 ≤ g ∧ g ≤ 19 ∨ 3001 ≤ g ∧ g ≤ 3016
theorem u_X13_read_10 {x1 : Int32} {x2 : Int32} {x3 : Int32} {x4 : Int32} {x5 : Int32} {x6 : Int32} {x7 : Int32} {x8 : Int32} {t0 : Int32} {z : ow_MS} {Q : (Int32 × ow_MS) → Prop} (H : Tt (fun K k => qm_X13_read_10 K (q_X13_read K k) x1 x2 x3 x4 x5 x6 x7 x8 t0 z) Q) : Tt (fun K k => q_X13_read K k 10 x1 x2 x3 x4 x5 x6 x7 x8 t0 z) Q := w_un (fun _ _ => rfl) H
theorem u_X13_read_11 {x1 : Int32} {x2 : Int32} {x3 : Int32} {x4 : Int32} {x5 : Int32} {x6 : Int32} {x7 : Int32} {x8 : Int32} {t0 : Int32} {z : ow_MS} {Q : (Int32 × ow_MS) → Prop} (H : Tt (fun K k => qm_X13_read_11 K (q_X13_read K k) x1 x2 x3 x4 x5 x6 x7 x8 t0 z) Q) : Tt (fun K k => q_X13_read K k 11 x1 x2 x3 x4 x5 x6 x7 x8 t0 z) Q := w_un (fun _ _ => rfl) H
theorem u_X13_read_1 {x1 : Int32} {x2 : Int32} {x3 : Int32} {x4 : Int32} {x5 : Int32} {x6 : Int32} {x7 : Int32} {x8 : Int32} {t0 : Int32} {z : ow_MS} {Q : (Int32 × ow_MS) → Prop} (H : Tt (fun K k => qm_X13_read_1 K (q_X13_read K k) x1 x2 x3 x4 x5 x6 x7 x8 t0 z) Q) : Tt (fun K k => q_X13_read K k 1 x1 x2 x3 x4 x5 x6 x7 x8 t0 z) Q := w_un (fun _ _ => rfl) H
theorem u_X13_read_9 {x1 : Int32} {x2 : Int32} {x3 : Int32} {x4 : Int32} {x5 : Int32} {x6 : Int32} {x7 : Int32} {x8 : Int32} {t0 : Int32} {z : ow_MS} {Q : (Int32 × ow_MS) → Prop} (H : Tt (fun K k => qm_X13_read_9 K (q_X13_read K k) x1 x2 x3 x4 x5 x6 x7 x8 t0 z) Q) : Tt (fun K k => q_X13_read K k 9 x1 x2 x3 x4 x5 x6 x7 x8 t0 z) Q := w_un (fun _ _ => rfl) H
theorem u_X13_read_8 {x1 : Int32} {x2 : Int32} {x3 : Int32} {x4 : Int32} {x5 : Int32} {x6 : Int32} {x7 : Int32} {x8 : Int32} {t0 : Int32} {z : ow_MS} {Q : (Int32 × ow_MS) → Prop} (H : Tt (fun K k => qm_X13_read_8 K (q_X13_read K k) x1 x2 x3 x4 x5 x6 x7 x8 t0 z) Q) : Tt (fun K k => q_X13_read K k 8 x1 x2 x3 x4 x5 x6 x7 x8 t0 z) Q := w_un (fun _ _ => rfl) H
theorem u_X13_read_7 {x1 : Int32} {x2 : Int32} {x3 : Int32} {x4 : Int32} {x5 : Int32} {x6 : Int32} {x7 : Int32} {x8 : Int32} {t0 : Int32} {z : ow_MS} {Q : (Int32 × ow_MS) → Prop} (H : Tt (fun K k => qm_X13_read_7 K (q_X13_read K k) x1 x2 x3 x4 x5 x6 x7 x8 t0 z) Q) : Tt (fun K k => q_X13_read K k 7 x1 x2 x3 x4 x5 x6 x7 x8 t0 z) Q := w_un (fun _ _ => rfl) H
theorem u_X13_read_5 {x1 : Int32} {x2 : Int32} {x3 : Int32} {x4 : Int32} {x5 : Int32} {x6 : Int32} {x7 : Int32} {x8 : Int32} {t0 : Int32} {z : ow_MS} {Q : (Int32 × ow_MS) → Prop} (H : Tt (fun K k => qm_X13_read_5 K (q_X13_read K k) x1 x2 x3 x4 x5 x6 x7 x8 t0 z) Q) : Tt (fun K k => q_X13_read K k 5 x1 x2 x3 x4 x5 x6 x7 x8 t0 z) Q := w_un (fun _ _ => rfl) H
theorem u_X13_read_6 {x1 : Int32} {x2 : Int32} {x3 : Int32} {x4 : Int32} {x5 : Int32} {x6 : Int32} {x7 : Int32} {x8 : Int32} {t0 : Int32} {z : ow_MS} {Q : (Int32 × ow_MS) → Prop} (H : Tt (fun K k => qm_X13_read_6 K (q_X13_read K k) x1 x2 x3 x4 x5 x6 x7 x8 t0 z) Q) : Tt (fun K k => q_X13_read K k 6 x1 x2 x3 x4 x5 x6 x7 x8 t0 z) Q := w_un (fun _ _ => rfl) H
theorem u_X13_read_4 {x1 : Int32} {x2 : Int32} {x3 : Int32} {x4 : Int32} {x5 : Int32} {x6 : Int32} {x7 : Int32} {x8 : Int32} {t0 : Int32} {z : ow_MS} {Q : (Int32 × ow_MS) → Prop} (H : Tt (fun K k => qm_X13_read_4 K (q_X13_read K k) x1 x2 x3 x4 x5 x6 x7 x8 t0 z) Q) : Tt (fun K k => q_X13_read K k 4 x1 x2 x3 x4 x5 x6 x7 x8 t0 z) Q := w_un (fun _ _ => rfl) H
theorem u_X13_read_3 {x1 : Int32} {x2 : Int32} {x3 : Int32} {x4 : Int32} {x5 : Int32} {x6 : Int32} {x7 : Int32} {x8 : Int32} {t0 : Int32} {z : ow_MS} {Q : (Int32 × ow_MS) → Prop} (H : Tt (fun K k => qm_X13_read_3 K (q_X13_read K k) x1 x2 x3 x4 x5 x6 x7 x8 t0 z) Q) : Tt (fun K k => q_X13_read K k 3 x1 x2 x3 x4 x5 x6 x7 x8 t0 z) Q := w_un (fun _ _ => rfl) H
theorem u_X13_read_2 {x1 : Int32} {x2 : Int32} {x3 : Int32} {x4 : Int32} {x5 : Int32} {x6 : Int32} {x7 : Int32} {x8 : Int32} {t0 : Int32} {z : ow_MS} {Q : (Int32 × ow_MS) → Prop} (H : Tt (fun K k => qm_X13_read_2 K (q_X13_read K k) x1 x2 x3 x4 x5 x6 x7 x8 t0 z) Q) : Tt (fun K k => q_X13_read K k 2 x1 x2 x3 x4 x5 x6 x7 x8 t0 z) Q := w_un (fun _ _ => rfl) H
theorem e_X13_read {z : ow_MS} {Q : (Int32 × ow_MS) → Prop} (H : Tt (fun K k => q_X13_read K k 0 0 0 0 0 0 0 0 0 0 z) Q) : Te (fun K => qe_X13_read K z) Q := w_te H
theorem u_X13_read_0 {x1 : Int32} {x2 : Int32} {x3 : Int32} {x4 : Int32} {x5 : Int32} {x6 : Int32} {x7 : Int32} {x8 : Int32} {t0 : Int32} {z : ow_MS} {Q : (Int32 × ow_MS) → Prop} (H : Tt (fun K k => qm_X13_read_0 K (q_X13_read K k) x1 x2 x3 x4 x5 x6 x7 x8 t0 z) Q) : Tt (fun K k => q_X13_read K k 0 x1 x2 x3 x4 x5 x6 x7 x8 t0 z) Q := w_un (fun _ _ => rfl) H
theorem tm_read {X : (Nat → Nat → Int32) → Prop} {z : ow_MS} (h : gI X z) : Te (fun K => qe_X13_read K z) (fun r => fr frV z r.2 ∧ (r.1 = -1 → mNet r.2 3000)) := by
  obtain ⟨t, ht, h11⟩ := h.1
  let Q : Int32 × ow_MS → Prop := fun r => fr frV z r.2 ∧ (r.1 = -1 → mNet r.2 3000) 
  have t11 : ∀ {y : ow_MS}, fr frV z y → y.1 11 = nI t := fun hf => by rw [(hf 11 (by unfold frV; omega)).1]; exact h11
  have ret : ∀ (a : Nat) (y : ow_MS), a < 1000 → fr frV z y → Q (nI a, y) := fun a y ha hf => ⟨hf, fun e => absurd e (rn_neg1 (by omega))⟩
  -- the end: are all crossings met twice
  have l10 : ∀ (x2 : Int32) (A1 : rn_L) (N : Nat), A1.length ≤ 6 → ∀ (k j l : Nat) (y : ow_MS), j + k = N → fr frV z y → rD y A1 [] N t → (l = t + 1 ∧ (∀ i, i < j → hb (A1.flatten ++ []) i = 3) ∨ l ≤ t) → Tt (fun K i => q_X13_read K i 10 (nI N) x2 (nI l) (nI j) 0 0 0 0 0 y) Q := by
    intro x2 A1 N hA6 k
    induction k with
    | zero =>
      intro j l y hj hf hR hl
      obtain ⟨r1, r2, r3, r4, r5⟩ := hR
      refine u_X13_read_10 ?_; unfold qm_X13_read_10
      refine w_leT (by omega) (by omega) (w_rdF (t11 hf) (w_lt (by omega) (by omega) (fun h9 => ?_) (fun h9 => w_some (ret l y (by omega) hf))))
      have hall : ∀ i, i < N → hb (A1.flatten ++ []) i = 3 := fun i hi => by
        rcases hl with ⟨-, hl⟩ | hl
        · exact hl i (by omega)
        · omega
      rw [List.append_nil] at r2 r3 hall
      have wk : wkF A1.flatten := by
        refine ⟨r2, fun p hp => ?_⟩
        obtain ⟨p1, p2⟩ := r3 p hp
        refine ⟨by omega, p2, ?_⟩
        obtain ⟨m0, m1⟩ := hb_3 (hall p.1 p1)
        have : 1 - p.2 = 0 ∨ 1 - p.2 = 1 := by omega
        rcases this with e | e <;> rw [e]
        · exact m0
        · exact m1
      have hlen := rd_len r2 r3
      refine w_cs0 (tn_link pn3 (by omega) (by omega) (wkF_ok wk).1 r1) (fun y1 ⟨g1, g2, g3⟩ => w_cs1 (tn_plane pn3 (by omega) (by omega) (wkF_ok wk) ⟨g2, g3⟩) (fun a y2 ⟨_, k2, k3, _, _⟩ => ?_))
      have k2 : fr (fun g => 3000 + 12 ≤ g ∧ g ≤ 3000 + 16) y1 y2 := k2
      have k3 : rn_lk y2 3000 A1 := k3
      have hf2 : fr frV z y2 := fr_tr hf (fr_tr (fr_mono (fun g hg => Or.inr (by have := hg.1; have := hg.2; omega)) g1) (fr_mono (fun g hg => Or.inr (by omega)) k2))
      refine w_if (fun _ => w_rdF (t11 hf2) (w_some (ret t y2 (by omega) hf2))) (fun _ => w_some ⟨hf2, fun _ => ⟨A1, fun x => decide (y2.2.1 3006 x = -1), k3.1, fun p hp => ?_, wk, by omega, hA6⟩⟩)
      refine s1_sg ?_
      have e6 : y2.2.1 3006 = y.2.1 3006 := by rw [(k2 3006 (by omega)).2.1, (g1 3006 (fun h8 => by have := h8.1; omega)).2.1]
      obtain ⟨q1, q2, q3, q4⟩ := r5 p.1 (r3 p hp).1
      show s1 (y2.2.1 3006 p.1)
      rw [e6, q4 p.2 (by rw [List.append_nil]; exact hp)]
      exact q2
    | succ k ih =>
      intro j l y hj hf hR hl
      obtain ⟨q1, q2, ⟨a, qa, q3⟩, q4⟩ := hR.2.2.2.2 j (by omega)
      have r4 := hR.2.2.2.1
      have hbl := hb_lt (F := A1.flatten ++ []) (k := j)
      refine u_X13_read_10 ?_; unfold qm_X13_read_10
      refine w_leF (by omega) (by omega) (w_rdI ml19 rfl (by omega) q1 (w_eqN (b := 3) (by omega) (by omega) (fun h9 => ?_) (fun h9 => w_rdI ml18 rfl (by omega) q3 ?_)))
      · refine u_X13_read_11 ?_; unfold qm_X13_read_11
        rw [nI_1]
        refine ih (j + 1) l y (by omega) hf hR (hl.imp (fun ⟨e1, e2⟩ => ⟨e1, fun i hi => ?_⟩) id)
        by_cases hij : i = j
        · rw [hij]; exact h9
        · exact e2 i (by omega)
      · by_cases hal : a < l
        · rw [if_pos (nI_lt hal (by omega))]
          refine u_X13_read_11 ?_; unfold qm_X13_read_11
          rw [nI_1]
          exact ih (j + 1) a y (by omega) hf hR (Or.inr (by omega))
        · rw [if_neg (nI_nlt (by omega) (by omega))]
          refine u_X13_read_11 ?_; unfold qm_X13_read_11
          rw [nI_1]
          exact ih (j + 1) l y (by omega) hf hR (Or.inr (by omega))
  have main : ∀ (u i N : Nat) (A1 : rn_L) (B1 : List (Nat × Nat)) (y : ow_MS), i + u = t → A1.length ≤ 5 → fr frV z y → rD y A1 B1 N t → Tt (fun K k => q_X13_read K k 1 (nI N) (nI i) 0 0 0 0 0 0 0 y) Q := by
    intro u
    induction u using Nat.strongRecOn with
    | ind u ih =>
      intro i N A1 B1 y hi hA5 hf hR
      have hlen := rd_len hR.2.1 hR.2.2.1
      have r4 := hR.2.2.2.1
      -- a component is closed
      have endR : ∀ {y2 : ow_MS}, rn_At y2 3000 (A1 ++ [B1]) [] → fr (fun g => g = 3000 + 2 ∨ g = 3000 + 3) y y2 → rD y2 (A1 ++ [B1]) [] N t := by
        intro y2 h1 h2
        have e : (A1 ++ [B1]).flatten ++ [] = A1.flatten ++ B1 := by rw [List.flatten_append]; simp
        unfold rD
        rw [e, (h2 19 (by omega)).2.1, (h2 17 (by omega)).2.1, (h2 18 (by omega)).2.1, (h2 3006 (by omega)).2.1]
        exact ⟨h1, hR.2⟩
      refine u_X13_read_1 ?_; unfold qm_X13_read_1
      refine w_rdF (t11 hf) (w_le (by omega) (by omega) (fun hti => w_cs0 (tn_end pn3 hR.1 (by omega)) (fun y2 ⟨g1, g2⟩ => ?_)) (fun hit => ?_))
      · have hf2 : fr frV z y2 := fr_tr hf (fr_mono (fun g hg => Or.inr (by omega)) g2)
        refine w_rdF (t11 hf2) ?_
        rw [nI_1]
        exact l10 _ (A1 ++ [B1]) N (by rw [List.length_append]; show A1.length + 1 ≤ 6; omega) N 0 (t + 1) y2 (by omega) hf2 (endR g1 g2) (Or.inl ⟨rfl, fun i hi => by omega⟩)
      · -- a visit
        have l2 : ∀ (x3 : Int32), Tt (fun K k => q_X13_read K k 2 (nI N) (nI i) x3 0 0 0 0 0 0 y) Q := by
          intro x3
          have l9 : ∀ (N2 i2 k u9 : Nat) (x5 x6 : Int32) (y2 : ow_MS), i < i2 → i2 ≤ t → u9 < 2 → k < N2 → fr frV z y2 → rD y2 A1 B1 N2 t → Tt (fun K k9 => q_X13_read K k9 9 (nI N2) (nI i2) x3 (nI i) x5 x6 (nI u9) (nI k) 0 y2) Q := by
            intro N2 i2 k u9 x5 x6 y2 hi2 hit2 hu9 hkN hf2 hR2
            obtain ⟨q1, q2, q3, q4⟩ := hR2.2.2.2.2 k hkN
            have r42 := hR2.2.2.2.1
            have hlen2 := rd_len hR2.2.1 hR2.2.2.1
            refine u_X13_read_9 ?_; unfold qm_X13_read_9
            refine w_rdI ml19 rfl (by omega) q1 (w_if (fun hand => w_rdI ml17 rfl (by omega) rfl (w_if (fun hsg => w_rdI ml19 rfl (by omega) q1 (w_wrI ml19 rfl (by omega) (w_wrI (pl6 pn3) rfl (by omega) ?_))) (fun _ => w_some (ret i y2 (by omega) hf2)))) (fun _ => w_some (ret i y2 (by omega) hf2)))
            have hnot := (hb_and hu9).mp hand
            rw [hb_or hu9 hnot]
            obtain ⟨y3, hy3⟩ : ∃ y3, y3 = usI (usI y2 19 k (nI (hb (A1.flatten ++ B1 ++ [(k, u9)]) k))) 3006 k x6 := ⟨_, rfl⟩
            have f3 : fr (fun g => g = 19 ∨ g = 3006) y2 y3 := by rw [hy3]; exact fr_I2 (fr_I (Or.inl rfl)) (Or.inr rfl)
            rw [← hy3]
            refine w_cs0 (tn_add pn3 (fr_At f3 (fun g hg => by omega) hR2.1) (by omega)) (fun y4 ⟨g1, g2⟩ => ?_)
            have hf4 : fr frV z y4 := fr_tr hf2 (fr_tr (fr_mono (fun g hg => by unfold frV; omega) f3) (fr_mono (fun g hg => Or.inr (by omega)) g2))
            refine ih (t - i2) (by omega) i2 N2 A1 (B1 ++ [(k, u9)]) y4 (by omega) hA5 hf4 ?_
            have e : A1.flatten ++ (B1 ++ [(k, u9)]) = A1.flatten ++ B1 ++ [(k, u9)] := (List.append_assoc _ _ _).symm
            unfold rD
            rw [e, (g2 19 (by omega)).2.1, (g2 17 (by omega)).2.1, (g2 18 (by omega)).2.1, (g2 3006 (by omega)).2.1]
            refine ⟨g1, ?_, fun p hp => ?_, r42, fun j hj => ?_⟩
            · rw [List.nodup_append]
              refine ⟨hR2.2.1, by simp, fun a ha b hb9 e9 => hnot ?_⟩
              have : b = (k, u9) := by simpa using hb9
              rw [← this, ← e9]
              exact ha
            · rw [List.mem_append, List.mem_singleton] at hp
              rcases hp with hp | hp
              · exact hR2.2.2.1 p hp
              · rw [hp]
                exact ⟨hkN, hu9⟩
            · obtain ⟨j1, j2, j3, j4⟩ := hR2.2.2.2.2 j hj
              rw [hy3]
              by_cases hjk : j = k
              · subst hjk
                refine ⟨rd_ot (by decide) po_usI_at, ?_, ?_, fun u8 _ => ?_⟩
                · rw [po_usI_ot (by decide), po_usI_ot (by decide)]; exact j2
                · rw [po_usI_ot (by decide), po_usI_ot (by decide)]; exact j3
                · rw [po_usI_at, po_usI_ot (by decide), po_usI_ot (by decide)]
                  exact hsg.symm
              · refine ⟨rd_ot (by decide) (rd_ne hjk (by rw [hb_ot hjk]; exact j1)), ?_, ?_, fun u8 hu8 => ?_⟩
                · rw [po_usI_ot (by decide), po_usI_ot (by decide)]; exact j2
                · rw [po_usI_ot (by decide), po_usI_ot (by decide)]; exact j3
                · rw [po_usI_ne hjk, po_usI_ot (by decide), po_usI_ot (h := 3006) (by decide), po_usI_ot (by decide)]
                  refine j4 u8 ?_
                  rw [List.mem_append, List.mem_singleton] at hu8
                  exact hu8.resolve_right (fun h8 => hjk (Prod.mk.inj h8).1)
          have l8 : ∀ (i2 k u9 : Nat) (x5 x6 : Int32), i < i2 → i2 ≤ t → u9 < 2 → k ≤ N → s1 x6 → Tt (fun K k9 => q_X13_read K k9 8 (nI N) (nI i2) x3 (nI i) x5 x6 (nI u9) (nI k) 0 y) Q := by
            intro i2 k u9 x5 x6 hi2 hit2 hu9 hkN hs6
            refine u_X13_read_8 ?_; unfold qm_X13_read_8
            refine w_eqN (by omega) (by omega) (fun hke => w_eqN (b := 12) (by omega) (by omega) (fun _ => w_some (ret i y (by omega) hf)) (fun hN12 => w_wrI ml16 rfl (by omega) (w_wrI ml17 rfl (by omega) (w_wrI ml18 rfl (by omega) (w_wrI ml19 rfl (by omega) ?_))))) (fun hke => l9 N i2 k u9 x5 x6 y hi2 hit2 hu9 (by omega) hf hR)
            subst hke
            rw [nI_1]
            have f3 : fr (fun g => 16 ≤ g ∧ g ≤ 19) y (usI (usI (usI (usI y 16 k x5) 17 k x6) 18 k (nI i)) 19 k 0) := fr_I2 (fr_I2 (fr_I2 (fr_I (by decide)) (by decide)) (by decide)) (by decide)
            refine l9 (k + 1) i2 k u9 x5 x6 _ hi2 hit2 hu9 (by omega) (fr_tr hf (fr_mono (fun g hg => Or.inl hg) f3)) ⟨fr_At f3 (fun g hg => by omega) hR.1, hR.2.1, fun p hp => ⟨by have := (hR.2.2.1 p hp).1; omega, (hR.2.2.1 p hp).2⟩, by omega, fun j hj => ?_⟩
            by_cases hjk : j = k
            · subst hjk
              have hno : ∀ u8, (j, u8) ∉ A1.flatten ++ B1 := fun u8 h8 => by
                have := (hR.2.2.1 _ h8).1
                have : j < j := this
                omega
              have h0 : hb (A1.flatten ++ B1) j = 0 := by
                unfold hb
                rw [if_neg (hno 0), if_neg (hno 1)]
              refine ⟨?_, ?_, ⟨i, by omega, ?_⟩, fun u8 h8 => absurd h8 (hno u8)⟩
              · rw [h0]
                exact po_usI_at
              · rw [po_usI_ot (by decide), po_usI_ot (by decide), po_usI_at]
                exact hs6
              · rw [po_usI_ot (by decide), po_usI_at]
            · obtain ⟨j1, j2, ⟨a, j3, j5⟩, j4⟩ := hR.2.2.2.2 j (by omega)
              refine ⟨rd_ne hjk (rd_ot (by decide) (rd_ot (by decide) (rd_ot (by decide) j1))), ?_, ⟨a, j3, rd_ot (by decide) (rd_ne hjk (rd_ot (by decide) (rd_ot (by decide) j5)))⟩, fun u8 h8 => ?_⟩
              · rw [po_usI_ot (by decide), po_usI_ot (by decide), po_usI_ne hjk, po_usI_ot (by decide)]
                exact j2
              · rw [(f3 3006 (by omega)).2.1, j4 u8 h8]
                exact (rd_ot (by decide) (rd_ot (by decide) (rd_ne hjk (rd_ot (by decide) rfl)))).symm
          have l7 : ∀ (i2 u9 : Nat) (x5 x6 : Int32), i < i2 → i2 ≤ t → u9 < 2 → s1 x6 → ∀ (d k : Nat), k + d = N → Tt (fun K k9 => q_X13_read K k9 7 (nI N) (nI i2) x3 (nI i) x5 x6 (nI u9) (nI k) 0 y) Q := by
            intro i2 u9 x5 x6 hi2 hit2 hu9 hs6 d
            induction d with
            | zero =>
              intro k hk
              refine u_X13_read_7 ?_; unfold qm_X13_read_7
              exact w_leT (by omega) (by omega) (l8 i2 k u9 x5 x6 hi2 hit2 hu9 (by omega) hs6)
            | succ d ihd =>
              intro k hk
              refine u_X13_read_7 ?_; unfold qm_X13_read_7
              rw [nI_1]
              exact w_leF (by omega) (by omega) (w_rdI ml16 rfl (by omega) rfl (w_if (fun _ => l8 i2 k u9 x5 x6 hi2 hit2 hu9 (by omega) hs6) (fun _ => ihd (k + 1) (by omega))))
          have l5 : ∀ (i2 : Nat) (x5 t0 : Int32), i < i2 + 1 → i2 + 1 ≤ t → s1 t0 → Tt (fun K k9 => q_X13_read K k9 5 (nI N) (nI i2) x3 (nI i) x5 0 0 0 t0 y) Q := by
            intro i2 x5 t0 hi2 hit2 hs6
            refine u_X13_read_5 ?_; unfold qm_X13_read_5
            rw [nI_1]
            refine w_if (fun _ => ?_) (fun _ => ?_)
            · refine u_X13_read_6 ?_; unfold qm_X13_read_6
              exact l7 (i2 + 1) 1 x5 t0 hi2 hit2 (by omega) hs6 N 0 (by omega)
            · refine u_X13_read_6 ?_; unfold qm_X13_read_6
              exact l7 (i2 + 1) 0 x5 t0 hi2 hit2 (by omega) hs6 N 0 (by omega)
          have l4 : ∀ (i2 : Nat) (x5 : Int32), i < i2 + 1 → i2 + 1 ≤ t → Tt (fun K k9 => q_X13_read K k9 4 (nI N) (nI i2) x3 (nI i) x5 0 0 0 0 y) Q := by
            intro i2 x5 hi2 hit2
            refine u_X13_read_4 ?_; unfold qm_X13_read_4
            refine w_cs1 (tm_byteAt (by omega) ht (t11 hf)) (fun a y9 ⟨e, _⟩ => ?_)
            have e : y9 = y := e
            subst e
            exact w_if (fun _ => l5 i2 x5 1 hi2 hit2 (Or.inl rfl)) (fun _ => l5 i2 x5 (-1) hi2 hit2 (Or.inr rfl))
          have l3 : ∀ (i2 : Nat) (x5 : Int32), i < i2 → i2 ≤ t → Tt (fun K k9 => q_X13_read K k9 3 (nI N) (nI i2) x3 (nI i) x5 0 0 0 0 y) Q := by
            intro i2 x5 hi2 hit2
            refine u_X13_read_3 ?_; unfold qm_X13_read_3
            refine w_rdF (t11 hf) (w_eqN (by omega) (by omega) (fun _ => w_rdF (t11 hf) (w_some (ret t y (by omega) hf))) (fun hne => w_cs1 (tm_byteAt (by omega) ht (t11 hf)) (fun a y9 ⟨e, _⟩ => ?_)))
            have e : y9 = y := e
            subst e
            refine w_if (fun _ => l4 i2 x5 (by omega) (by omega)) (fun _ => w_cs1 (tm_byteAt (by omega) ht (t11 hf)) (fun a y9 ⟨e, _⟩ => ?_))
            have e : y9 = _ := e
            subst e
            exact w_if (fun _ => l4 i2 x5 (by omega) (by omega)) (fun _ => w_some (ret i2 _ (by omega) hf))
          refine u_X13_read_2 ?_; unfold qm_X13_read_2
          rw [nI_1, nI_1, nI_1]
          refine w_rdF (t11 hf) (w_eqN (by omega) (by omega) (fun _ => w_rdF (t11 hf) (w_some (ret t y (by omega) hf))) (fun hne => w_cs1 (tm_byteAt (by omega) ht (t11 hf)) (fun a1 y1 ⟨e1, _⟩ => ?_)))
          have e1 : y1 = y := e1
          subst e1
          refine w_if (fun _ => w_some (ret (i + 1) _ (by omega) hf)) (fun _ => w_cs1 (tm_byteAt (by omega) ht (t11 hf)) (fun a2 y2 ⟨e2, _⟩ => ?_))
          have e2 : y2 = _ := e2
          subst e2
          refine w_if (fun _ => w_cs1 (tm_byteAt (by omega) ht (t11 hf)) (fun a3 y3 ⟨e3, _⟩ => ?_)) (fun _ => w_some (ret (i + 1) _ (by omega) hf))
          have e3 : y3 = _ := e3
          subst e3
          refine w_cs1 (tm_byteAt (by omega) ht (t11 hf)) (fun a4 y4 ⟨e4, v4⟩ => ?_)
          have e4 : y4 = _ := e4
          have w4 : t ≤ i + 1 + 1 → a4 = -1 := v4
          subst e4
          refine w_if (fun _ => l3 (i + 1 + 1) _ (by omega) (by omega)) (fun h48 => w_cs1 (tm_byteAt (by omega) ht (t11 hf)) (fun a5 y5 ⟨e5, _⟩ => ?_))
          have e5 : y5 = _ := e5
          subst e5
          have hi3 : i + 1 + 1 < t := by
            rcases Nat.lt_or_ge (i + 1 + 1) t with h9 | h9
            · exact h9
            · exact absurd (by rw [w4 h9]; decide) h48
          refine w_if (fun _ => l3 (i + 1 + 1) _ (by omega) (by omega)) (fun _ => w_cs1 (tm_byteAt (by omega) ht (t11 hf)) (fun a6 y6 ⟨e6, _⟩ => ?_))
          have e6 : y6 = _ := e6
          subst e6
          exact l3 (i + 1 + 1 + 1) _ (by omega) (by omega)
        refine w_rdI ml10 rfl (by omega) rfl (w_if (fun _ => w_cs0 (tn_end pn3 hR.1 (by omega)) (fun y2 ⟨g1, g2⟩ => ?_)) (fun _ => w_if (fun _ => l2 _) (fun _ => w_if (fun _ => l2 _) (fun _ => w_some (ret i y (by omega) hf)))))
        have hf2 : fr frV z y2 := fr_tr hf (fr_mono (fun g hg => Or.inr (by omega)) g2)
        have hAl : (A1 ++ [B1]).length = A1.length + 1 := by rw [List.length_append]; rfl
        have e2 : y2.1 (3000 + 2) = nI (A1.length + 1) := by rw [g1.2.1, hAl]
        refine w_rdF e2 (w_eqN (b := 6) (by omega) (by omega) (fun _ => w_some (ret i y2 (by omega) hf2)) (fun h6 => ?_))
        rw [nI_1]
        exact ih (t - (i + 1)) (by omega) (i + 1) N (A1 ++ [B1]) [] y2 (by omega) (by omega) hf2 (endR g1 g2)
  refine e_X13_read ?_
  refine u_X13_read_0 ?_; unfold qm_X13_read_0
  refine w_cs0 (tn_clear pn3) (fun z1 ⟨g1, g2⟩ => main t 0 0 [] [] z1 (by omega) (by simp) (fr_mono (fun g hg => Or.inr (by omega)) g2) ⟨g1, List.nodup_nil, fun p hp => by simp at hp, by omega, fun k hk => by omega⟩)
theorem e_X13_diagram {z : ow_MS} {Q : (Int32 × ow_MS) → Prop} (H : Tt (fun K _ => qm_X13_diagram_0 K z) Q) : Te (fun K => qe_X13_diagram K z) Q := w_te0 H
theorem tp_diagram {X : (Nat → Nat → Int32) → Prop} {z : ow_MS} (h : gI X z) : Te (fun K => qe_X13_diagram K z) (fun r => gI X r.2) := by
  have h1 := gI_1 (c := 0) h
  refine e_X13_diagram ?_; unfold qm_X13_diagram_0
  refine w_wrF (w_free (w_ifT rfl (w_fail h1)) (fun f hf hfr => w_ifF (rn_neg1 (by omega)) (w_cs1 (tm_read h1) (fun a y ⟨g1, g2⟩ => w_wrF ?_))))
  have g1 : fr frV (usF z 1 0) y := g1
  have g2 : a = -1 → mNet y 3000 := g2
  have hI : gI X (usF y 11 0) := gI_t (t := 0) rfl (by omega) (gI_fr g1 (fun g hg => by unfold frV at hg; unfold per; omega) h1)
  refine w_if (fun ha => w_keep hI (frD_eq (g1 12 (by unfold frV; omega)).2.1 hfr) ?_) (fun _ => w_some hI)
  obtain ⟨A, sg, m1, m2, m3⟩ := g2 ha
  have f2 : fr (fun g => g = 11) y (usF y 11 0) := fr_F rfl
  exact ⟨A, sg, fr_At f2 (fun g hg => by omega) m1, m2, m3⟩
end
section
/-! 99zzz.braid -/
/-! braids of the reference: places, braid, product, inverse -/
theorem i32_a (y : Int32) : 0 - (y + 1) = -1 - y := by
  rw [Int32.zero_sub, Int32.neg_add, Int32.sub_eq_add_neg, Int32.sub_eq_add_neg, Int32.add_comm]
theorem i32_b (y : Int32) : 0 - (-1 - y) = y + 1 := by
  have h : -1 - y = 0 - (y + 1) := (i32_a y).symm
  rw [h, Int32.zero_sub, Int32.zero_sub, Int32.neg_neg]
/-- a letter on n strands -/
def ltr (n : Nat) (x : Int32) : Prop := ∃ a, a + 1 < n ∧ (x = nI (a + 1) ∨ x = -1 - nI a)
theorem ltr_neg {n : Nat} {x : Int32} (h : ltr n x) : ltr n (0 - x) := by
  obtain ⟨a, h1, h2⟩ := h
  refine ⟨a, h1, ?_⟩
  have e1 : nI (a + 1) = nI a + 1 := nI_succ a
  rcases h2 with h2 | h2
  · exact Or.inr (by rw [h2, e1, i32_a])
  · exact Or.inl (by rw [h2, e1, i32_b])
/-- a braid that is there -/
def hBr (z : ow_MS) (b n l : Nat) : Prop := 2 ≤ n ∧ n ≤ 5 ∧ l ≤ 16 ∧ z.2.1 96 b = nI n ∧ z.2.1 95 b = nI l ∧ ∀ i, i < l → ltr n (z.2.1 94 (16 * b + i))
theorem hBr_g {z : ow_MS} {b n l : Nat} (h : hBr z b n l) : gBr z b := ⟨n, l, h.2.1, by have := h.1; omega, h.2.2.2.1, fun _ => ⟨h.2.2.1, h.2.2.2.2.1, h.2.2.2.2.2⟩⟩
theorem gBr_h {z : ow_MS} {b : Nat} (h : gBr z b) : z.2.1 96 b = 0 ∨ ∃ n l, hBr z b n l := by
  obtain ⟨n, l, h1, h2, h3, h4⟩ := h
  rcases Nat.eq_zero_or_pos n with e | e
  · exact Or.inl (by rw [h3, e]; rfl)
  · obtain ⟨g1, g2, g3⟩ := h4 e
    exact Or.inr ⟨n, l, by omega, h1, g1, h3, g2, g3⟩
theorem hBr_eq {z z1 : ow_MS} {b n l : Nat} (h : hBr z b n l) (e6 : z1.2.1 96 b = z.2.1 96 b) (e5 : z1.2.1 95 b = z.2.1 95 b) (e4 : ∀ i, i < 16 → z1.2.1 94 (16 * b + i) = z.2.1 94 (16 * b + i)) : hBr z1 b n l := by
  obtain ⟨h1, h2, h3, h4, h5, h6⟩ := h
  exact ⟨h1, h2, h3, by rw [e6]; exact h4, by rw [e5]; exact h5, fun i hi => by rw [e4 i (by omega)]; exact h6 i hi⟩
section BR
variable {X : (Nat → Nat → Int32) → Prop} {z : ow_MS}
theorem gI_br {P : Nat → Prop} {z1 : ow_MS} (hf : fr P z z1) (hP : ∀ g, P g → 94 ≤ g ∧ g ≤ 96 ∨ ¬ per g) (hr : gBrs z1) (h : gI X z) : gI X z1 := by
  obtain ⟨h1, h2, h3, h4, h5, h6, h7⟩ := h
  have no : ∀ g, per g → ¬ (94 ≤ g ∧ g ≤ 96) → ¬ P g := fun g hg hne h9 => (hP g h9).elim hne (fun h8 => h8 hg)
  exact ⟨gTape_fr hf (no 11 (by decide) (by decide)) h1, gRows_fr hf (no 12 (by decide) (by decide)) h2, gList_fr hf (no 20 (by decide) (by decide)) (no 21 (by decide) (by decide)) (no 22 (by decide) (by decide)) h3, gSum_fr hf (no 35 (by decide) (by decide)) (no 39 (by decide) (by decide)) (no 36 (by decide) (by decide)) h4, gCash_fr hf (no 43 (by decide) (by decide)) (no 45 (by decide) (by decide)) (no 50 (by decide) (by decide)) (no 65 (by decide) (by decide)) (no 67 (by decide) (by decide)) h5, hr, gX_fr hf (fun g hg h9 => (hP g hg).elim (fun e => by omega) (fun h8 => h8 (by unfold per; omega))) h7⟩
theorem e_X13_hasBraid {x1 : Int32} {z : ow_MS} {Q : (Int32 × ow_MS) → Prop} (H : Tt (fun K _ => qm_X13_hasBraid_0 K x1 z) Q) : Te (fun K => qe_X13_hasBraid K x1 z) Q := w_te0 H
theorem w_hasB {O : Type} {x : Int32} {Q : O → Prop} {B : Int32 → ow_MS → Nat → Nat → Option O} (h : gBrs z) (H0 : Tt (B 0 z) Q) (H1 : ∀ b n l, b < 20 → x = nI b → hBr z b n l → Tt (B 1 z) Q) : Tt (fun K k => cs1 (qe_X13_hasBraid K x z) fun v z1 => B v z1 K k) Q := by
  have key : Te (fun K => qe_X13_hasBraid K x z) (fun r => r = (0, z) ∨ r = (1, z) ∧ ∃ b n l, b < 20 ∧ x = nI b ∧ hBr z b n l) := by
    refine e_X13_hasBraid ?_; unfold qm_X13_hasBraid_0
    refine w_if (fun _ => w_okZ (Or.inl rfl) (w_some (Or.inl rfl))) (fun h0 => w_if (fun _ => w_okZ (Or.inl rfl) (w_some (Or.inl rfl))) (fun h1 => ?_))
    obtain ⟨b, hb, rfl⟩ : ∃ b, b < 20 ∧ x = nI b := by
      rcases pk_ix x (n := 20) (by omega) with h9 | h9 | h9
      · exact absurd h9 h0
      · exact absurd h9 h1
      · exact h9
    refine w_rdI ml96 rfl (by omega) rfl (w_if (fun _ => w_okZ (Or.inl rfl) (w_some (Or.inl rfl))) (fun h9 => w_okZ (Or.inr rfl) (w_some (Or.inr ⟨rfl, ?_⟩))))
    rcases gBr_h (h b hb) with e | ⟨n, l, hh⟩
    · rw [e] at h9
      exact absurd (by decide) h9
    · exact ⟨b, n, l, hb, rfl, hh⟩
  refine w_cs1 key (fun a z1 e => ?_)
  rcases e with e | ⟨e, b, n, l, hb, hx, hh⟩
  · cases e
    exact H0
  · cases e
    exact H1 b n l hb hx hh
theorem u_X13_freeBraid_1 {x1 : Int32} {z : ow_MS} {Q : (Int32 × ow_MS) → Prop} (H : Tt (fun K k => qm_X13_freeBraid_1 K (q_X13_freeBraid K k) x1 z) Q) : Tt (fun K k => q_X13_freeBraid K k 1 x1 z) Q := w_un (fun _ _ => rfl) H
theorem u_X13_freeBraid_2 {x1 : Int32} {z : ow_MS} {Q : (Int32 × ow_MS) → Prop} (H : Tt (fun K k => qm_X13_freeBraid_2 K (q_X13_freeBraid K k) x1 z) Q) : Tt (fun K k => q_X13_freeBraid K k 2 x1 z) Q := w_un (fun _ _ => rfl) H
theorem e_X13_freeBraid {z : ow_MS} {Q : (Int32 × ow_MS) → Prop} (H : Tt (fun K k => q_X13_freeBraid K k 0 0 z) Q) : Te (fun K => qe_X13_freeBraid K z) Q := w_te H
theorem u_X13_freeBraid_0 {x1 : Int32} {z : ow_MS} {Q : (Int32 × ow_MS) → Prop} (H : Tt (fun K k => qm_X13_freeBraid_0 K (q_X13_freeBraid K k) x1 z) Q) : Tt (fun K k => q_X13_freeBraid K k 0 x1 z) Q := w_un (fun _ _ => rfl) H
theorem e_X13_dropBraid {x1 : Int32} {z : ow_MS} {Q : (Int32 × ow_MS) → Prop} (H : Tt (fun K _ => qm_X13_dropBraid_0 K x1 z) Q) : Te (fun K => qe_X13_dropBraid K x1 z) Q := w_te0 H
/-- a new braid at a free place -/
theorem gBrs_new {z1 : ow_MS} {c n l : Nat} (h : gBrs z) (hn : hBr z1 c n l) (e6 : ∀ d, d ≠ c → z1.2.1 96 d = z.2.1 96 d) (e5 : ∀ d, d ≠ c → z1.2.1 95 d = z.2.1 95 d) (e4 : ∀ d, d ≠ c → ∀ i, i < 16 → z1.2.1 94 (16 * d + i) = z.2.1 94 (16 * d + i)) : gBrs z1 := fun d hd => by
  by_cases hdc : d = c
  · rw [hdc]
    exact hBr_g hn
  · rcases gBr_h (h d hd) with e | ⟨n2, l2, hh2⟩
    · exact ⟨0, 0, by omega, by omega, (e6 d hdc).trans e, fun h9 => by omega⟩
    · exact hBr_g (hBr_eq hh2 (e6 d hdc) (e5 d hdc) (e4 d hdc))
/-- words are written at a place that is free still -/
theorem gBrs_wr {z1 : ow_MS} {c : Nat} (h : gBrs z) (hc : z.2.1 96 c = 0) (e6 : z1.2.1 96 = z.2.1 96) (e5 : z1.2.1 95 = z.2.1 95) (e4 : ∀ d, d ≠ c → ∀ i, i < 16 → z1.2.1 94 (16 * d + i) = z.2.1 94 (16 * d + i)) : gBrs z1 := fun d hd => by
  by_cases hdc : d = c
  · rw [hdc]
    exact ⟨0, 0, by omega, by omega, by rw [e6]; exact hc, fun h9 => by omega⟩
  · rcases gBr_h (h d hd) with e | ⟨n2, l2, hh2⟩
    · exact ⟨0, 0, by omega, by omega, by rw [e6]; exact e, fun h9 => by omega⟩
    · exact hBr_g (hBr_eq hh2 (by rw [e6]) (by rw [e5]) (e4 d hdc))
theorem u_X13_braid_1 {x1 : Int32} {x2 : Int32} {x3 : Int32} {x4 : Int32} {x5 : Int32} {x6 : Int32} {x7 : Int32} {t0 : Int32} {t1 : Int32} {z : ow_MS} {Q : (Int32 × ow_MS) → Prop} (H : Tt (fun K k => qm_X13_braid_1 K (q_X13_braid K k) x1 x2 x3 x4 x5 x6 x7 t0 t1 z) Q) : Tt (fun K k => q_X13_braid K k 1 x1 x2 x3 x4 x5 x6 x7 t0 t1 z) Q := w_un (fun _ _ => rfl) H
theorem e_X13_braid {x1 : Int32} {z : ow_MS} {Q : (Int32 × ow_MS) → Prop} (H : Tt (fun K k => q_X13_braid K k 0 x1 0 0 0 0 0 0 0 0 z) Q) : Te (fun K => qe_X13_braid K x1 z) Q := w_te H
theorem u_X13_braid_0 {x1 : Int32} {x2 : Int32} {x3 : Int32} {x4 : Int32} {x5 : Int32} {x6 : Int32} {x7 : Int32} {t0 : Int32} {t1 : Int32} {z : ow_MS} {Q : (Int32 × ow_MS) → Prop} (H : Tt (fun K k => qm_X13_braid_0 K (q_X13_braid K k) x1 x2 x3 x4 x5 x6 x7 t0 t1 z) Q) : Tt (fun K k => q_X13_braid K k 0 x1 x2 x3 x4 x5 x6 x7 t0 t1 z) Q := w_un (fun _ _ => rfl) H
theorem u_X13_braid_10 {x1 : Int32} {x2 : Int32} {x3 : Int32} {x4 : Int32} {x5 : Int32} {x6 : Int32} {x7 : Int32} {t0 : Int32} {t1 : Int32} {z : ow_MS} {Q : (Int32 × ow_MS) → Prop} (H : Tt (fun K k => qm_X13_braid_10 K (q_X13_braid K k) x1 x2 x3 x4 x5 x6 x7 t0 t1 z) Q) : Tt (fun K k => q_X13_braid K k 10 x1 x2 x3 x4 x5 x6 x7 t0 t1 z) Q := w_un (fun _ _ => rfl) H
theorem u_X13_braid_2 {x1 : Int32} {x2 : Int32} {x3 : Int32} {x4 : Int32} {x5 : Int32} {x6 : Int32} {x7 : Int32} {t0 : Int32} {t1 : Int32} {z : ow_MS} {Q : (Int32 × ow_MS) → Prop} (H : Tt (fun K k => qm_X13_braid_2 K (q_X13_braid K k) x1 x2 x3 x4 x5 x6 x7 t0 t1 z) Q) : Tt (fun K k => q_X13_braid K k 2 x1 x2 x3 x4 x5 x6 x7 t0 t1 z) Q := w_un (fun _ _ => rfl) H
theorem u_X13_braid_7 {x1 : Int32} {x2 : Int32} {x3 : Int32} {x4 : Int32} {x5 : Int32} {x6 : Int32} {x7 : Int32} {t0 : Int32} {t1 : Int32} {z : ow_MS} {Q : (Int32 × ow_MS) → Prop} (H : Tt (fun K k => qm_X13_braid_7 K (q_X13_braid K k) x1 x2 x3 x4 x5 x6 x7 t0 t1 z) Q) : Tt (fun K k => q_X13_braid K k 7 x1 x2 x3 x4 x5 x6 x7 t0 t1 z) Q := w_un (fun _ _ => rfl) H
theorem u_X13_braid_9 {x1 : Int32} {x2 : Int32} {x3 : Int32} {x4 : Int32} {x5 : Int32} {x6 : Int32} {x7 : Int32} {t0 : Int32} {t1 : Int32} {z : ow_MS} {Q : (Int32 × ow_MS) → Prop} (H : Tt (fun K k => qm_X13_braid_9 K (q_X13_braid K k) x1 x2 x3 x4 x5 x6 x7 t0 t1 z) Q) : Tt (fun K k => q_X13_braid K k 9 x1 x2 x3 x4 x5 x6 x7 t0 t1 z) Q := w_un (fun _ _ => rfl) H
theorem u_X13_braid_8 {x1 : Int32} {x2 : Int32} {x3 : Int32} {x4 : Int32} {x5 : Int32} {x6 : Int32} {x7 : Int32} {t0 : Int32} {t1 : Int32} {z : ow_MS} {Q : (Int32 × ow_MS) → Prop} (H : Tt (fun K k => qm_X13_braid_8 K (q_X13_braid K k) x1 x2 x3 x4 x5 x6 x7 t0 t1 z) Q) : Tt (fun K k => q_X13_braid K k 8 x1 x2 x3 x4 x5 x6 x7 t0 t1 z) Q := w_un (fun _ _ => rfl) H
theorem u_X13_braid_5 {x1 : Int32} {x2 : Int32} {x3 : Int32} {x4 : Int32} {x5 : Int32} {x6 : Int32} {x7 : Int32} {t0 : Int32} {t1 : Int32} {z : ow_MS} {Q : (Int32 × ow_MS) → Prop} (H : Tt (fun K k => qm_X13_braid_5 K (q_X13_braid K k) x1 x2 x3 x4 x5 x6 x7 t0 t1 z) Q) : Tt (fun K k => q_X13_braid K k 5 x1 x2 x3 x4 x5 x6 x7 t0 t1 z) Q := w_un (fun _ _ => rfl) H
theorem u_X13_braid_6 {x1 : Int32} {x2 : Int32} {x3 : Int32} {x4 : Int32} {x5 : Int32} {x6 : Int32} {x7 : Int32} {t0 : Int32} {t1 : Int32} {z : ow_MS} {Q : (Int32 × ow_MS) → Prop} (H : Tt (fun K k => qm_X13_braid_6 K (q_X13_braid K k) x1 x2 x3 x4 x5 x6 x7 t0 t1 z) Q) : Tt (fun K k => q_X13_braid K k 6 x1 x2 x3 x4 x5 x6 x7 t0 t1 z) Q := w_un (fun _ _ => rfl) H
theorem u_X13_braid_4 {x1 : Int32} {x2 : Int32} {x3 : Int32} {x4 : Int32} {x5 : Int32} {x6 : Int32} {x7 : Int32} {t0 : Int32} {t1 : Int32} {z : ow_MS} {Q : (Int32 × ow_MS) → Prop} (H : Tt (fun K k => qm_X13_braid_4 K (q_X13_braid K k) x1 x2 x3 x4 x5 x6 x7 t0 t1 z) Q) : Tt (fun K k => q_X13_braid K k 4 x1 x2 x3 x4 x5 x6 x7 t0 t1 z) Q := w_un (fun _ _ => rfl) H
theorem u_X13_braid_3 {x1 : Int32} {x2 : Int32} {x3 : Int32} {x4 : Int32} {x5 : Int32} {x6 : Int32} {x7 : Int32} {t0 : Int32} {t1 : Int32} {z : ow_MS} {Q : (Int32 × ow_MS) → Prop} (H : Tt (fun K k => qm_X13_braid_3 K (q_X13_braid K k) x1 x2 x3 x4 x5 x6 x7 t0 t1 z) Q) : Tt (fun K k => q_X13_braid K k 3 x1 x2 x3 x4 x5 x6 x7 t0 t1 z) Q := w_un (fun _ _ => rfl) H
theorem u_X13_product_1 {x1 : Int32} {x2 : Int32} {x3 : Int32} {x4 : Int32} {t0 : Int32} {t1 : Int32} {z : ow_MS} {Q : (Int32 × ow_MS) → Prop} (H : Tt (fun K k => qm_X13_product_1 K (q_X13_product K k) x1 x2 x3 x4 t0 t1 z) Q) : Tt (fun K k => q_X13_product K k 1 x1 x2 x3 x4 t0 t1 z) Q := w_un (fun _ _ => rfl) H
theorem e_X13_product {x1 : Int32} {x2 : Int32} {z : ow_MS} {Q : (Int32 × ow_MS) → Prop} (H : Tt (fun K k => q_X13_product K k 0 x1 x2 0 0 0 0 z) Q) : Te (fun K => qe_X13_product K x1 x2 z) Q := w_te H
theorem u_X13_product_0 {x1 : Int32} {x2 : Int32} {x3 : Int32} {x4 : Int32} {t0 : Int32} {t1 : Int32} {z : ow_MS} {Q : (Int32 × ow_MS) → Prop} (H : Tt (fun K k => qm_X13_product_0 K (q_X13_product K k) x1 x2 x3 x4 t0 t1 z) Q) : Tt (fun K k => q_X13_product K k 0 x1 x2 x3 x4 t0 t1 z) Q := w_un (fun _ _ => rfl) H
theorem u_X13_product_2 {x1 : Int32} {x2 : Int32} {x3 : Int32} {x4 : Int32} {t0 : Int32} {t1 : Int32} {z : ow_MS} {Q : (Int32 × ow_MS) → Prop} (H : Tt (fun K k => qm_X13_product_2 K (q_X13_product K k) x1 x2 x3 x4 t0 t1 z) Q) : Tt (fun K k => q_X13_product K k 2 x1 x2 x3 x4 t0 t1 z) Q := w_un (fun _ _ => rfl) H
theorem u_X13_product_3 {x1 : Int32} {x2 : Int32} {x3 : Int32} {x4 : Int32} {t0 : Int32} {t1 : Int32} {z : ow_MS} {Q : (Int32 × ow_MS) → Prop} (H : Tt (fun K k => qm_X13_product_3 K (q_X13_product K k) x1 x2 x3 x4 t0 t1 z) Q) : Tt (fun K k => q_X13_product K k 3 x1 x2 x3 x4 t0 t1 z) Q := w_un (fun _ _ => rfl) H
theorem e_X13_inverse {x1 : Int32} {z : ow_MS} {Q : (Int32 × ow_MS) → Prop} (H : Tt (fun K k => q_X13_inverse K k 0 x1 0 0 z) Q) : Te (fun K => qe_X13_inverse K x1 z) Q := w_te H
theorem u_X13_inverse_0 {x1 : Int32} {x2 : Int32} {x3 : Int32} {z : ow_MS} {Q : (Int32 × ow_MS) → Prop} (H : Tt (fun K k => qm_X13_inverse_0 K (q_X13_inverse K k) x1 x2 x3 z) Q) : Tt (fun K k => q_X13_inverse K k 0 x1 x2 x3 z) Q := w_un (fun _ _ => rfl) H
theorem u_X13_inverse_1 {x1 : Int32} {x2 : Int32} {x3 : Int32} {z : ow_MS} {Q : (Int32 × ow_MS) → Prop} (H : Tt (fun K k => qm_X13_inverse_1 K (q_X13_inverse K k) x1 x2 x3 z) Q) : Tt (fun K k => q_X13_inverse K k 1 x1 x2 x3 z) Q := w_un (fun _ _ => rfl) H
theorem u_X13_summand_1 {x1 : Int32} {z : ow_MS} {Q : (Int32 × ow_MS) → Prop} (H : Tt (fun K k => qm_X13_summand_1 K (q_X13_summand K k) x1 z) Q) : Tt (fun K k => q_X13_summand K k 1 x1 z) Q := w_un (fun _ _ => rfl) H
theorem e_X13_summand {x1 : Int32} {z : ow_MS} {Q : (Int32 × ow_MS) → Prop} (H : Tt (fun K k => q_X13_summand K k 0 x1 z) Q) : Te (fun K => qe_X13_summand K x1 z) Q := w_te H
theorem u_X13_summand_0 {x1 : Int32} {z : ow_MS} {Q : (Int32 × ow_MS) → Prop} (H : Tt (fun K k => qm_X13_summand_0 K (q_X13_summand K k) x1 z) Q) : Tt (fun K k => q_X13_summand K k 0 x1 z) Q := w_un (fun _ _ => rfl) H
end BR
end
section
/-! 99zzza.close -/
/-! run, close, closure of the reference -/
/-- where a strand is after i letters -/
def psn (w : Nat → Nat) (s : Nat) : Nat → Nat
  | 0 => s
  | i + 1 => sw2 (w i) (w i + 1) (psn w s i)
theorem psn_inj {w : Nat → Nat} {s t : Nat} : ∀ i, psn w s i = psn w t i → s = t
  | 0, h => h
  | i + 1, h => by
    have e : sw2 (w i) (w i + 1) (psn w s i) = sw2 (w i) (w i + 1) (psn w t i) := h
    have := congrArg (sw2 (w i) (w i + 1)) e
    rw [sw2_inv, sw2_inv] at this
    exact psn_inj i this
theorem psn_lt {w : Nat → Nat} {s n : Nat} (hs : s < n) : ∀ i, (∀ j, j < i → w j + 1 < n) → psn w s i < n
  | 0, _ => hs
  | i + 1, h => sw2_lt (by have := h i (by omega); omega) (h i (by omega)) (psn_lt hs i (fun j hj => h j (by omega)))
theorem psn_sur {w : Nat → Nat} {n : Nat} : ∀ i p, p < n → (∀ j, j < i → w j + 1 < n) → ∃ s, s < n ∧ psn w s i = p
  | 0, p, hp, _ => ⟨p, hp, rfl⟩
  | i + 1, p, hp, h => by
    have hw := h i (by omega)
    obtain ⟨s, hs, e⟩ := psn_sur i (sw2 (w i) (w i + 1) p) (sw2_lt (by omega) hw hp) (fun j hj => h j (by omega))
    refine ⟨s, hs, ?_⟩
    show sw2 (w i) (w i + 1) (psn w s i) = p
    rw [e, sw2_inv]
/-- which visit of letter i a strand makes -/
def ubn (w : Nat → Nat) (lp : Nat → Bool) (s i : Nat) : Nat := if decide (psn w s i = w i) = lp i then 0 else 1
def onL (w : Nat → Nat) (s i : Nat) : Prop := psn w s i = w i ∨ psn w s i = w i + 1
theorem ubn_lt {w : Nat → Nat} {lp : Nat → Bool} {s i : Nat} : ubn w lp s i < 2 := by
  unfold ubn
  by_cases h : decide (psn w s i = w i) = lp i
  · rw [if_pos h]; omega
  · rw [if_neg h]; omega
theorem ubn_ne {w : Nat → Nat} {lp : Nat → Bool} {s t i : Nat} (hst : s ≠ t) (h1 : onL w s i) (h2 : onL w t i) : ubn w lp s i ≠ ubn w lp t i := by
  have hne : psn w s i ≠ psn w t i := fun e => hst (psn_inj i e)
  unfold ubn
  rcases h1 with h1 | h1 <;> rcases h2 with h2 | h2
  · exact absurd (h1.trans h2.symm) hne
  · rw [h1, h2, decide_eq_true rfl, decide_eq_false (by omega)]
    cases lp i <;> decide
  · rw [h1, h2, decide_eq_true rfl, decide_eq_false (by omega)]
    cases lp i <;> decide
  · exact absurd (h1.trans h2.symm) hne
/-- all visits of l letters -/
def aL (l : Nat) : rn_L := [(List.range l).flatMap (fun x => [(x, 0), (x, 1)])]
theorem aL_len (l : Nat) : (aL l).flatten.length = 2 * l := by
  have : ∀ c, ((List.range c).flatMap (fun x => [(x, 0), (x, 1)])).length = 2 * c := by
    intro c
    induction c with
    | zero => rfl
    | succ c ih => rw [List.range_succ, List.flatMap_append, List.length_append, ih]; simp; omega
  unfold aL
  have e : [(List.range l).flatMap (fun x => [(x, 0), (x, 1)])].flatten = (List.range l).flatMap (fun x => [(x, 0), (x, 1)]) := by simp
  rw [e]
  exact this l
theorem aL_at {l : Nat} : ∀ {i u : Nat}, i < l → u < 2 → vAt (aL l) (2 * i + u) = (i, u) := by
  intro i u hi hu
  have key : ∀ c, i < c → ((List.range c).flatMap (fun x => [(x, 0), (x, 1)]))[2 * i + u]? = some (i, u) := by
    intro c
    have hl : ∀ c, ((List.range c).flatMap (fun x => [(x, 0), (x, 1)])).length = 2 * c := by
      intro c
      induction c with
      | zero => rfl
      | succ c ih => rw [List.range_succ, List.flatMap_append, List.length_append, ih]; simp; omega
    induction c with
    | zero => intro h; omega
    | succ c ih =>
      intro h
      rw [List.range_succ, List.flatMap_append]
      by_cases hic : i < c
      · rw [List.getElem?_append_left (by rw [hl]; omega)]
        exact ih hic
      · have : i = c := by omega
        subst this
        rw [List.getElem?_append_right (by rw [hl]; omega), hl, Nat.add_sub_cancel_left]
        have : u = 0 ∨ u = 1 := by omega
        rcases this with e | e <;> subst e <;> simp
  refine vAt_eq ?_
  unfold aL
  have e : [(List.range l).flatMap (fun x => [(x, 0), (x, 1)])].flatten = (List.range l).flatMap (fun x => [(x, 0), (x, 1)]) := by simp
  rw [e]
  exact key l hi
theorem aL_ok (l : Nat) : okF (aL l).flatten l := by
  have hlen := aL_len l
  have inj : ∀ j, j < (aL l).flatten.length → vAt (aL l) j = (j / 2, j % 2) := fun j hj => by
    have := aL_at (l := l) (i := j / 2) (u := j % 2) (by omega) (by omega)
    rw [show 2 * (j / 2) + j % 2 = j by omega] at this
    exact this
  refine ⟨?_, fun p => ?_⟩
  · rw [List.nodup_iff_pairwise_ne, List.pairwise_iff_getElem]
    intro i j hi hj hij e
    have e1 := inj i hi
    have e2 := inj j hj
    rw [vAt_eq (List.getElem?_eq_getElem hi)] at e1
    rw [vAt_eq (List.getElem?_eq_getElem hj)] at e2
    rw [e1, e2] at e
    have a1 := (Prod.mk.inj e).1
    have a2 := (Prod.mk.inj e).2
    omega
  · constructor
    · intro hp
      obtain ⟨j, hj, e⟩ := List.getElem_of_mem hp
      have e1 := inj j hj
      rw [vAt_eq (List.getElem?_eq_getElem hj), e] at e1
      rw [e1]
      exact ⟨by show j / 2 < l; omega, by show j % 2 < 2; omega⟩
    · intro ⟨h1, h2⟩
      have := vAt_of (A := aL l) (v := 2 * p.1 + p.2) (by omega)
      rw [aL_at h1 h2] at this
      exact List.mem_of_getElem? this
section CLO
variable {X : (Nat → Nat → Int32) → Prop} {z : ow_MS}
/-- the letters of a braid -/
theorem br_let {b n l : Nat} (h : hBr z b n l) : ∃ (w : Nat → Nat) (lp : Nat → Bool), ∀ i, i < l → w i + 1 < n ∧ z.2.1 94 (16 * b + i) = if lp i then nI (w i + 1) else -1 - nI (w i) := by
  have hc : ∀ i, ∃ (a : Nat) (c : Bool), i < l → a + 1 < n ∧ z.2.1 94 (16 * b + i) = if c then nI (a + 1) else -1 - nI a := by
    intro i
    by_cases hi : i < l
    · obtain ⟨a, h1, h2⟩ := h.2.2.2.2.2 i hi
      rcases h2 with h2 | h2
      · exact ⟨a, true, fun _ => ⟨h1, h2⟩⟩
      · exact ⟨a, false, fun _ => ⟨h1, h2⟩⟩
    · exact ⟨0, true, fun h9 => absurd h9 hi⟩
  refine ⟨fun i => (hc i).choose, fun i => (hc i).choose_spec.choose, fun i hi => (hc i).choose_spec.choose_spec hi⟩
theorem neg_lt {a : Nat} (ha : a < 100) : (-1 - nI a : Int32) < 0 := by
  have := pk_sneg (a := 0) (b := a + 1) (by omega) (by omega)
  rw [nI_succ] at this
  have e : nI 0 - (nI a + 1) = -1 - nI a := i32_a (nI a)
  rw [e] at this
  exact this
theorem u_X13_run_1 {x1 : Int32} {x2 : Int32} {x3 : Int32} {x4 : Int32} {x5 : Int32} {x6 : Int32} {t0 : Int32} {t1 : Int32} {t2 : Int32} {z : ow_MS} {Q : (Int32 × ow_MS) → Prop} (H : Tt (fun K k => qm_X13_run_1 K (q_X13_run K k) x1 x2 x3 x4 x5 x6 t0 t1 t2 z) Q) : Tt (fun K k => q_X13_run K k 1 x1 x2 x3 x4 x5 x6 t0 t1 t2 z) Q := w_un (fun _ _ => rfl) H
theorem u_X13_run_7 {x1 : Int32} {x2 : Int32} {x3 : Int32} {x4 : Int32} {x5 : Int32} {x6 : Int32} {t0 : Int32} {t1 : Int32} {t2 : Int32} {z : ow_MS} {Q : (Int32 × ow_MS) → Prop} (H : Tt (fun K k => qm_X13_run_7 K (q_X13_run K k) x1 x2 x3 x4 x5 x6 t0 t1 t2 z) Q) : Tt (fun K k => q_X13_run K k 7 x1 x2 x3 x4 x5 x6 t0 t1 t2 z) Q := w_un (fun _ _ => rfl) H
theorem u_X13_run_6 {x1 : Int32} {x2 : Int32} {x3 : Int32} {x4 : Int32} {x5 : Int32} {x6 : Int32} {t0 : Int32} {t1 : Int32} {t2 : Int32} {z : ow_MS} {Q : (Int32 × ow_MS) → Prop} (H : Tt (fun K k => qm_X13_run_6 K (q_X13_run K k) x1 x2 x3 x4 x5 x6 t0 t1 t2 z) Q) : Tt (fun K k => q_X13_run K k 6 x1 x2 x3 x4 x5 x6 t0 t1 t2 z) Q := w_un (fun _ _ => rfl) H
theorem u_X13_run_5 {x1 : Int32} {x2 : Int32} {x3 : Int32} {x4 : Int32} {x5 : Int32} {x6 : Int32} {t0 : Int32} {t1 : Int32} {t2 : Int32} {z : ow_MS} {Q : (Int32 × ow_MS) → Prop} (H : Tt (fun K k => qm_X13_run_5 K (q_X13_run K k) x1 x2 x3 x4 x5 x6 t0 t1 t2 z) Q) : Tt (fun K k => q_X13_run K k 5 x1 x2 x3 x4 x5 x6 t0 t1 t2 z) Q := w_un (fun _ _ => rfl) H
theorem u_X13_run_4 {x1 : Int32} {x2 : Int32} {x3 : Int32} {x4 : Int32} {x5 : Int32} {x6 : Int32} {t0 : Int32} {t1 : Int32} {t2 : Int32} {z : ow_MS} {Q : (Int32 × ow_MS) → Prop} (H : Tt (fun K k => qm_X13_run_4 K (q_X13_run K k) x1 x2 x3 x4 x5 x6 t0 t1 t2 z) Q) : Tt (fun K k => q_X13_run K k 4 x1 x2 x3 x4 x5 x6 t0 t1 t2 z) Q := w_un (fun _ _ => rfl) H
theorem u_X13_run_3 {x1 : Int32} {x2 : Int32} {x3 : Int32} {x4 : Int32} {x5 : Int32} {x6 : Int32} {t0 : Int32} {t1 : Int32} {t2 : Int32} {z : ow_MS} {Q : (Int32 × ow_MS) → Prop} (H : Tt (fun K k => qm_X13_run_3 K (q_X13_run K k) x1 x2 x3 x4 x5 x6 t0 t1 t2 z) Q) : Tt (fun K k => q_X13_run K k 3 x1 x2 x3 x4 x5 x6 t0 t1 t2 z) Q := w_un (fun _ _ => rfl) H
theorem u_X13_run_2 {x1 : Int32} {x2 : Int32} {x3 : Int32} {x4 : Int32} {x5 : Int32} {x6 : Int32} {t0 : Int32} {t1 : Int32} {t2 : Int32} {z : ow_MS} {Q : (Int32 × ow_MS) → Prop} (H : Tt (fun K k => qm_X13_run_2 K (q_X13_run K k) x1 x2 x3 x4 x5 x6 t0 t1 t2 z) Q) : Tt (fun K k => q_X13_run K k 2 x1 x2 x3 x4 x5 x6 t0 t1 t2 z) Q := w_un (fun _ _ => rfl) H
theorem e_X13_run {x1 : Int32} {x2 : Int32} {z : ow_MS} {Q : (Int32 × ow_MS) → Prop} (H : Tt (fun K k => q_X13_run K k 0 x1 x2 0 0 0 0 0 0 0 z) Q) : Te (fun K => qe_X13_run K x1 x2 z) Q := w_te H
theorem u_X13_run_0 {x1 : Int32} {x2 : Int32} {x3 : Int32} {x4 : Int32} {x5 : Int32} {x6 : Int32} {t0 : Int32} {t1 : Int32} {t2 : Int32} {z : ow_MS} {Q : (Int32 × ow_MS) → Prop} (H : Tt (fun K k => qm_X13_run_0 K (q_X13_run K k) x1 x2 x3 x4 x5 x6 t0 t1 t2 z) Q) : Tt (fun K k => q_X13_run K k 0 x1 x2 x3 x4 x5 x6 t0 t1 t2 z) Q := w_un (fun _ _ => rfl) H
theorem tp_run {b n l s q : Nat} {w : Nat → Nat} {lp : Nat → Bool} {P : Nat → Prop} (hb : b < 20) (hB : hBr z b n l) (hw : ∀ i, i < l → w i + 1 < n ∧ z.2.1 94 (16 * b + i) = if lp i then nI (w i + 1) else -1 - nI (w i)) (hs : s < n) (hP : ∀ j, P j → j < 2 * l) (hno : ∀ i, i < l → onL w s i → ¬ P (2 * i + ubn w lp s i)) (hbm : bm z 3000 (aL l) P q) (hsg : ∀ j, P j → s1 (z.2.1 3006 (j / 2))) : Te (fun K => qe_X13_run K (nI b) (nI s) z) (fun r => r.1 = nI (psn w s l) ∧ fr (fun g => 3001 ≤ g ∧ g ≤ 3006) z r.2 ∧ bm r.2 3000 (aL l) (fun j => P j ∨ ∃ i, i < l ∧ onL w s i ∧ j = 2 * i + ubn w lp s i) q ∧ ∀ j, (P j ∨ ∃ i, i < l ∧ onL w s i ∧ j = 2 * i + ubn w lp s i) → s1 (r.2.2.1 3006 (j / 2))) := by
  obtain ⟨p1, p2, p3, p4, p5, p6⟩ := hB
  have hlen := aL_len l
  let Q : Int32 × ow_MS → Prop := fun r => r.1 = nI (psn w s l) ∧ fr (fun g => 3001 ≤ g ∧ g ≤ 3006) z r.2 ∧ bm r.2 3000 (aL l) (fun j => P j ∨ ∃ i, i < l ∧ onL w s i ∧ j = 2 * i + ubn w lp s i) q ∧ ∀ j, (P j ∨ ∃ i, i < l ∧ onL w s i ∧ j = 2 * i + ubn w lp s i) → s1 (r.2.2.1 3006 (j / 2))
  have key : ∀ (d k : Nat) (y : ow_MS), k + d = l → fr (fun g => 3001 ≤ g ∧ g ≤ 3006) z y → bm y 3000 (aL l) (fun j => P j ∨ ∃ i, i < k ∧ onL w s i ∧ j = 2 * i + ubn w lp s i) q → (∀ j, (P j ∨ ∃ i, i < k ∧ onL w s i ∧ j = 2 * i + ubn w lp s i) → s1 (y.2.1 3006 (j / 2))) → Tt (fun K i9 => q_X13_run K i9 1 (nI b) (nI s) (nI (psn w s k)) (nI k) 0 0 0 0 0 y) Q := by
    intro d
    induction d with
    | zero =>
      intro k y hk hf hbm hsg
      have hkl : k = l := by omega
      rw [hkl] at hbm hsg ⊢
      refine u_X13_run_1 ?_; unfold qm_X13_run_1
      exact w_rdI ml95 rfl (by omega) (x := nI l) (by rw [(hf 95 (by omega)).2.1]; exact p5) (w_leT (by omega) (Nat.le_refl _) (w_some ⟨rfl, hf, hbm, hsg⟩))
    | succ d ih =>
      intro k y hk hf hbm hsg
      have hkl : k < l := by omega
      obtain ⟨w1, w2⟩ := hw k hkl
      have hps := psn_lt (w := w) hs k (fun j hj => (hw j (by omega)).1)
      obtain ⟨x, hx⟩ : ∃ x, x = z.2.1 94 (16 * b + k) := ⟨_, rfl⟩
      have ex : y.2.1 94 (16 * b + k) = x := by rw [(hf 94 (by omega)).2.1, hx]
      rw [← hx] at w2
      have eab : (if 0 ≤ x then x else 0 - x) - 1 = nI (w k) := by
        cases hl : lp k with
        | true =>
          rw [hl] at w2
          have w2 : x = nI (w k + 1) := w2
          rw [w2, if_pos (nI_pos' (by omega))]
          exact nI_pred _
        | false =>
          rw [hl] at w2
          have w2 : x = -1 - nI (w k) := w2
          rw [w2, if_neg (Int32.not_le.mpr (neg_lt (by omega))), i32_b]
          have := nI_pred (w k)
          rw [nI_succ] at this
          exact this
      have xpos : x ≤ 0 ↔ lp k = false := by
        cases hl : lp k with
        | true =>
          rw [hl] at w2
          have w2 : x = nI (w k + 1) := w2
          rw [w2]
          exact ⟨fun h9 => absurd h9 (nI_nle (by omega) (by omega)), fun h9 => by cases h9⟩
        | false =>
          rw [hl] at w2
          have w2 : x = -1 - nI (w k) := w2
          rw [w2]
          exact ⟨fun _ => rfl, fun _ => Int32.le_of_lt (neg_lt (by omega))⟩
      have c7 : ∀ (x5 x6 : Int32) (y2 : ow_MS), fr (fun g => 3001 ≤ g ∧ g ≤ 3006) z y2 → bm y2 3000 (aL l) (fun j => P j ∨ ∃ i, i < k + 1 ∧ onL w s i ∧ j = 2 * i + ubn w lp s i) q → (∀ j, (P j ∨ ∃ i, i < k + 1 ∧ onL w s i ∧ j = 2 * i + ubn w lp s i) → s1 (y2.2.1 3006 (j / 2))) → Tt (fun K i9 => q_X13_run K i9 7 (nI b) (nI s) (nI (psn w s (k + 1))) (nI k) x5 x6 0 0 0 y2) Q := by
        intro x5 x6 y2 hf2 hb2 hs2
        refine u_X13_run_7 ?_; unfold qm_X13_run_7
        rw [nI_1]
        exact ih (k + 1) y2 (by omega) hf2 hb2 hs2
      -- the strand takes part in the letter
      have c2 : onL w s k → Tt (fun K i9 => q_X13_run K i9 2 (nI b) (nI s) (nI (psn w s k)) (nI k) x (nI (w k)) 0 0 0 y) Q := by
        intro hon
        have hub := ubn_lt (w := w) (lp := lp) (s := s) (i := k)
        have eqi : ∀ j, ((P j ∨ ∃ i, i < k ∧ onL w s i ∧ j = 2 * i + ubn w lp s i) ∨ j = 2 * k + ubn w lp s k) ↔ (P j ∨ ∃ i, i < k + 1 ∧ onL w s i ∧ j = 2 * i + ubn w lp s i) := by
          intro j
          constructor
          · rintro ((h9 | ⟨i, h1, h2, h3⟩) | h9)
            · exact Or.inl h9
            · exact Or.inr ⟨i, by omega, h2, h3⟩
            · exact Or.inr ⟨k, by omega, hon, h9⟩
          · rintro (h9 | ⟨i, h1, h2, h3⟩)
            · exact Or.inl (Or.inl h9)
            · by_cases hik : i = k
              · rw [hik] at h3
                exact Or.inr h3
              · exact Or.inl (Or.inr ⟨i, by omega, h2, h3⟩)
        have c6 : ∀ (t0 : Int32) (y2 : ow_MS), s1 t0 → fr (fun g => 3001 ≤ g ∧ g ≤ 3006) z y2 → y2.2.1 3006 = y.2.1 3006 → bm y2 3000 (aL l) (fun j => P j ∨ ∃ i, i < k + 1 ∧ onL w s i ∧ j = 2 * i + ubn w lp s i) q → Tt (fun K i9 => q_X13_run K i9 6 (nI b) (nI s) (nI (psn w s k)) (nI k) x (nI (w k)) t0 (nI k) 0 y2) Q := by
          intro t0 y2 ht0 hf2 e6 hb2
          refine u_X13_run_6 ?_; unfold qm_X13_run_6
          refine w_wrI (pl6 pn3) rfl (by omega) ?_
          have ep : 2 * nI (w k) + 1 - nI (psn w s k) = nI (psn w s (k + 1)) := by
            rw [rn_mul2, nI_1, pk_sub (by rcases hon with h9 | h9 <;> omega)]
            congr 1
            show _ = sw2 (w k) (w k + 1) (psn w s k)
            unfold sw2
            rcases hon with h9 | h9
            · rw [if_pos h9]; omega
            · rw [if_neg (by omega), if_pos h9]; omega
          rw [ep]
          refine c7 _ _ _ (fr_I2 hf2 (by omega)) (bm_fr (F := fun g => g = 3006) (fr_I rfl) (fun g hg => by omega) hb2) (fun j hj => ?_)
          show s1 ((usI y2 3006 k t0).2.1 3006 (j / 2))
          by_cases hjk : j / 2 = k
          · rw [hjk, po_usI_at]
            exact ht0
          · rw [po_usI_ne hjk, e6]
            refine hsg j (((eqi j).mpr hj).resolve_right (fun h9 => hjk (by omega)))
        have c5 : ∀ (t0 : Int32), t0 = nI (ubn w lp s k) → Tt (fun K i9 => q_X13_run K i9 5 (nI b) (nI s) (nI (psn w s k)) (nI k) x (nI (w k)) t0 (nI k) 0 y) Q := by
          intro t0 ht0
          have hv := aL_at (l := l) hkl hub
          refine u_X13_run_5 ?_; unfold qm_X13_run_5
          refine w_cs0 (bm_add (i := 2 * k + ubn w lp s k) pn3 (by omega) (fun j hj => ?_) (fun hj => ?_) (by unfold crs; rw [hv]) (by unfold uns; rw [hv]; exact ht0) hbm) (fun y2 ⟨g1, g2⟩ => ?_)
          · rcases hj with hj | ⟨i, h1, h2, h3⟩
            · have := hP j hj
              omega
            · have := ubn_lt (w := w) (lp := lp) (s := s) (i := i)
              omega
          · rcases hj with hj | ⟨i, h1, h2, h3⟩
            · exact hno k hkl hon hj
            · have := ubn_lt (w := w) (lp := lp) (s := s) (i := i)
              omega
          · have hf2 : fr (fun g => 3001 ≤ g ∧ g ≤ 3006) z y2 := fr_tr hf (fr_mono (fun g hg => by omega) g2)
            have e6 : y2.2.1 3006 = y.2.1 3006 := (g2 3006 (by omega)).2.1
            have hb2 := bm_eq g1 eqi
            exact w_if (fun _ => c6 _ y2 (Or.inr rfl) hf2 e6 hb2) (fun _ => c6 _ y2 (Or.inl rfl) hf2 e6 hb2)
        have c3 : ∀ (eqb : Bool), decide (psn w s k = w k) = eqb → Tt (fun K i9 => q_X13_run K i9 3 (nI b) (nI s) (nI (psn w s k)) (nI k) x (nI (w k)) (bZ eqb) (nI k) 0 y) Q := by
          intro eqb heq
          have eu : ubn w lp s k = if eqb = lp k then 0 else 1 := by
            unfold ubn
            rw [heq]
          have c4 : ∀ (pb : Bool), lp k = pb → Tt (fun K i9 => q_X13_run K i9 4 (nI b) (nI s) (nI (psn w s k)) (nI k) x (nI (w k)) (bZ pb) (bZ eqb) (nI k) y) Q := by
            intro pb hpb
            rw [hpb] at eu
            refine u_X13_run_4 ?_; unfold qm_X13_run_4
            refine w_if (fun h9 => c5 0 ?_) (fun h9 => c5 1 ?_)
            · have : eqb = pb := by
                cases eqb <;> cases pb <;> first | rfl | exact absurd h9 (by decide)
              rw [eu, if_pos this]
              rfl
            · have : eqb ≠ pb := fun e => h9 (by rw [e])
              rw [eu, if_neg this]
              rfl
          refine u_X13_run_3 ?_; unfold qm_X13_run_3
          refine w_if (fun h9 => c4 false (xpos.mp h9)) (fun h9 => c4 true ?_)
          cases hl : lp k with
          | true => rfl
          | false => exact absurd (xpos.mpr hl) h9
        refine u_X13_run_2 ?_; unfold qm_X13_run_2
        exact w_eqN (by omega) (by omega) (fun h9 => c3 true (decide_eq_true h9)) (fun h9 => c3 false (decide_eq_false h9))
      refine u_X13_run_1 ?_; unfold qm_X13_run_1
      rw [show (16 : Int32) * nI b = nI (16 * b) from pk_mul 16 b, nI_add]
      refine w_rdI ml95 rfl (by omega) (x := nI l) (by rw [(hf 95 (by omega)).2.1]; exact p5) (w_leF (by omega) (by omega) (w_rdI ml94 rfl (by omega) ex ?_))
      rw [eab, nI_1]
      refine w_eqN (by omega) (by omega) (fun h9 => c2 (Or.inl h9)) (fun h9 => w_eqN (by omega) (by omega) (fun h8 => c2 (Or.inr h8)) (fun h8 => ?_))
      have hnon : ¬ onL w s k := fun h7 => h7.elim h9 h8
      have ep : psn w s (k + 1) = psn w s k := by
        show sw2 (w k) (w k + 1) (psn w s k) = _
        unfold sw2
        rw [if_neg h9, if_neg h8]
      have eqi : ∀ j, (P j ∨ ∃ i, i < k ∧ onL w s i ∧ j = 2 * i + ubn w lp s i) ↔ (P j ∨ ∃ i, i < k + 1 ∧ onL w s i ∧ j = 2 * i + ubn w lp s i) := by
        intro j
        constructor
        · rintro (h7 | ⟨i, h1, h2, h3⟩)
          · exact Or.inl h7
          · exact Or.inr ⟨i, by omega, h2, h3⟩
        · rintro (h7 | ⟨i, h1, h2, h3⟩)
          · exact Or.inl h7
          · by_cases hik : i = k
            · rw [hik] at h2
              exact absurd h2 hnon
            · exact Or.inr ⟨i, by omega, h2, h3⟩
      have := c7 x (nI (w k)) y hf (bm_eq hbm eqi) (fun j hj => hsg j ((eqi j).mpr hj))
      rw [ep] at this
      exact this
  refine e_X13_run ?_
  refine u_X13_run_0 ?_; unfold qm_X13_run_0
  refine key l 0 z (by omega) fr_rf (bm_eq hbm (fun j => ⟨Or.inl, fun h9 => h9.elim id (fun ⟨i, h8, _⟩ => by omega)⟩)) (fun j hj => hj.elim (hsg j) (fun ⟨i, h8, _⟩ => by omega))
end CLO
end
section
/-! 99zzzb.closure -/
/-! close, closure -/
section CLO2
variable {X : (Nat → Nat → Int32) → Prop} {z : ow_MS}
/-- the visits of the strands in D -/
def pD (w : Nat → Nat) (lp : Nat → Bool) (n l : Nat) (D : Nat → Prop) (j : Nat) : Prop := ∃ s i, s < n ∧ D s ∧ i < l ∧ onL w s i ∧ j = 2 * i + ubn w lp s i
def fD (z : ow_MS) (n : Nat) (D : Nat → Prop) : Prop := ∀ s, s < n → (z.2.1 120 s = 1 ∧ D s) ∨ (z.2.1 120 s = 0 ∧ ¬ D s)
abbrev frK (g : Nat) : Prop := g = 120 ∨ 3001 ≤ g ∧ g ≤ 3006
theorem hBr_fr {P : Nat → Prop} {z z1 : ow_MS} {b n l : Nat} (hf : fr P z z1) (h0 : ¬ P 94) (h1 : ¬ P 95) (h2 : ¬ P 96) (h : hBr z b n l) : hBr z1 b n l := hBr_eq h (by rw [(hf 96 h2).2.1]) (by rw [(hf 95 h1).2.1]) (fun i _ => by rw [(hf 94 h0).2.1])
theorem u_X13_close_2 {x1 : Int32} {x2 : Int32} {x3 : Int32} {z : ow_MS} {Q : ow_MS → Prop} (H : Tt (fun K k => qm_X13_close_2 K (q_X13_close K k) x1 x2 x3 z) Q) : Tt (fun K k => q_X13_close K k 2 x1 x2 x3 z) Q := w_un (fun _ _ => rfl) H
theorem u_X13_close_4 {x1 : Int32} {x2 : Int32} {x3 : Int32} {z : ow_MS} {Q : ow_MS → Prop} (H : Tt (fun K k => qm_X13_close_4 K (q_X13_close K k) x1 x2 x3 z) Q) : Tt (fun K k => q_X13_close K k 4 x1 x2 x3 z) Q := w_un (fun _ _ => rfl) H
theorem u_X13_close_3 {x1 : Int32} {x2 : Int32} {x3 : Int32} {z : ow_MS} {Q : ow_MS → Prop} (H : Tt (fun K k => qm_X13_close_3 K (q_X13_close K k) x1 x2 x3 z) Q) : Tt (fun K k => q_X13_close K k 3 x1 x2 x3 z) Q := w_un (fun _ _ => rfl) H
theorem u_X13_close_1 {x1 : Int32} {x2 : Int32} {x3 : Int32} {z : ow_MS} {Q : ow_MS → Prop} (H : Tt (fun K k => qm_X13_close_1 K (q_X13_close K k) x1 x2 x3 z) Q) : Tt (fun K k => q_X13_close K k 1 x1 x2 x3 z) Q := w_un (fun _ _ => rfl) H
theorem e_X13_close {x1 : Int32} {z : ow_MS} {Q : ow_MS → Prop} (H : Tt (fun K k => q_X13_close K k 0 x1 0 0 z) Q) : Te (fun K => qe_X13_close K x1 z) Q := w_te H
theorem u_X13_close_0 {x1 : Int32} {x2 : Int32} {x3 : Int32} {z : ow_MS} {Q : ow_MS → Prop} (H : Tt (fun K k => qm_X13_close_0 K (q_X13_close K k) x1 x2 x3 z) Q) : Tt (fun K k => q_X13_close K k 0 x1 x2 x3 z) Q := w_un (fun _ _ => rfl) H
theorem tp_close {b n l : Nat} (hb : b < 20) (hB : hBr z b n l) : Te (fun K => qe_X13_close K (nI b) z) (fun z1 => (∃ q, q ≤ n ∧ bmE z1 3000 (aL l) (fun j => j < 2 * l) q) ∧ (∀ j, j < 2 * l → s1 (z1.2.1 3006 (j / 2))) ∧ fr frK z z1) := by
  obtain ⟨w, lp, hw⟩ := br_let hB
  have p1 := hB.1
  have p2 := hB.2.1
  have p3 := hB.2.2.1
  have hwn : ∀ i, i < l → w i + 1 < n := fun i hi => (hw i hi).1
  have hub := fun (s i : Nat) => ubn_lt (w := w) (lp := lp) (s := s) (i := i)
  let Q : ow_MS → Prop := fun z1 => (∃ q, q ≤ n ∧ bmE z1 3000 (aL l) (fun j => j < 2 * l) q) ∧ (∀ j, j < 2 * l → s1 (z1.2.1 3006 (j / 2))) ∧ fr frK z z1
  have pDlt : ∀ {D : Nat → Prop} {j : Nat}, pD w lp n l D j → j < 2 * l := by
    rintro D j ⟨s, i, h1, h2, h3, h4, h5⟩
    have := hub s i
    omega
  have bY : ∀ {y : ow_MS}, fr frK z y → hBr y b n l := fun hf => hBr_fr hf (by unfold frK; omega) (by unfold frK; omega) (by unfold frK; omega) hB
  have wY : ∀ {y : ow_MS}, fr frK z y → ∀ i, i < l → w i + 1 < n ∧ y.2.1 94 (16 * b + i) = if lp i then nI (w i + 1) else -1 - nI (w i) := fun hf i hi => ⟨(hw i hi).1, by rw [(hf 94 (by unfold frK; omega)).2.1]; exact (hw i hi).2⟩
  have l2 : ∀ (k j q : Nat) (D : Nat → Prop) (y : ow_MS), j + k = n → q ≤ j → fr frK z y → fD y n D → (∀ s, s < n → (D s ↔ D (psn w s l))) → (∀ s, s < j → D s) → bmE y 3000 (aL l) (pD w lp n l D) q → (∀ j, pD w lp n l D j → s1 (y.2.1 3006 (j / 2))) → Tt (fun K i => q_X13_close K i 2 (nI b) (nI j) 0 y) Q := by
    intro k
    induction k with
    | zero =>
      intro j q D y hj hq hf hfd hcl hall hbm hsg
      have all : ∀ j, pD w lp n l D j ↔ j < 2 * l := by
        intro j9
        constructor
        · exact pDlt
        · intro h9
          -- the two strands at letter j / 2
          have hi : j9 / 2 < l := by omega
          have hwi := hwn _ hi
          obtain ⟨s0, a0, e0⟩ := psn_sur (w := w) (n := n) (j9 / 2) (w (j9 / 2)) (by omega) (fun i hi9 => hwn i (by omega))
          obtain ⟨s1, a1, e1⟩ := psn_sur (w := w) (n := n) (j9 / 2) (w (j9 / 2) + 1) hwi (fun i hi9 => hwn i (by omega))
          have hne : s0 ≠ s1 := fun e => by rw [e, e1] at e0; omega
          have o0 : onL w s0 (j9 / 2) := Or.inl e0
          have o1 : onL w s1 (j9 / 2) := Or.inr e1
          have hd := ubn_ne (lp := lp) hne o0 o1
          have u0 := hub s0 (j9 / 2)
          have u1 := hub s1 (j9 / 2)
          by_cases hu : j9 % 2 = ubn w lp s0 (j9 / 2)
          · exact ⟨s0, j9 / 2, a0, hall s0 (by omega), hi, o0, by omega⟩
          · exact ⟨s1, j9 / 2, a1, hall s1 (by omega), hi, o1, by omega⟩
      refine u_X13_close_2 ?_; unfold qm_X13_close_2
      exact w_rdI ml96 rfl (by omega) (bY hf).2.2.2.1 (w_leT (by omega) (by omega) (w_some ⟨⟨q, by omega, bmE_eq hbm all⟩, fun j9 h9 => hsg j9 ((all j9).mpr h9), hf⟩))
    | succ k ih =>
      intro j q D y hj hq hf hfd hcl hall hbm hsg
      have hjn : j < n := by omega
      have itlt : ∀ i, itf (fun s => psn w s l) i j < n := by
        intro i
        induction i with
        | zero => exact hjn
        | succ i ih9 => exact psn_lt ih9 l (fun i9 hi9 => hwn i9 hi9)
      have c4 : ∀ (q2 : Nat) (D2 : Nat → Prop) (y2 : ow_MS), q2 ≤ j + 1 → fr frK z y2 → fD y2 n D2 → (∀ s, s < n → (D2 s ↔ D2 (psn w s l))) → (∀ s, s < j + 1 → D2 s) → bmE y2 3000 (aL l) (pD w lp n l D2) q2 → (∀ j, pD w lp n l D2 j → s1 (y2.2.1 3006 (j / 2))) → Tt (fun K i => q_X13_close K i 4 (nI b) (nI j) 0 y2) Q := by
        intro q2 D2 y2 hq2 hf2 hfd2 hcl2 hall2 hbm2 hsg2
        refine u_X13_close_4 ?_; unfold qm_X13_close_4
        rw [nI_1]
        exact ih (j + 1) q2 D2 y2 (by omega) hq2 hf2 hfd2 hcl2 hall2 hbm2 hsg2
      -- round one ring of strands
      have l3 : ¬ D j → ∀ (d t : Nat) (y : ow_MS), t + d = n → (∀ i i2, i < i2 → i2 ≤ t → itf (fun s => psn w s l) i j ≠ itf (fun s => psn w s l) i2 j) → (∀ i, i ≤ t → ¬ D (itf (fun s => psn w s l) i j)) → fr frK z y → fD y n (fun s => D s ∨ ∃ i, i < t ∧ s = itf (fun s => psn w s l) i j) → bm y 3000 (aL l) (pD w lp n l (fun s => D s ∨ ∃ i, i < t ∧ s = itf (fun s => psn w s l) i j)) q → (∀ j9, pD w lp n l (fun s => D s ∨ ∃ i, i < t ∧ s = itf (fun s => psn w s l) i j) j9 → s1 (y.2.1 3006 (j9 / 2))) → Tt (fun K i => q_X13_close K i 3 (nI b) (nI j) (nI (itf (fun s => psn w s l) t j)) y) Q := by
        intro hDj d
        induction d with
        | zero =>
          intro t y ht hdi hfre hf hfd hbm hsg
          exfalso
          have nd : ((List.range (t + 1)).map (fun i => itf (fun s => psn w s l) i j)).Nodup := nodup_map List.nodup_range (fun a c ha hc e => by
            have ha := List.mem_range.mp ha
            have hc := List.mem_range.mp hc
            rcases Nat.lt_trichotomy a c with h9 | h9 | h9
            · exact absurd e (hdi a c h9 (by omega))
            · exact h9
            · exact absurd e.symm (hdi c a h9 (by omega)))
          have := nodup_le _ (List.range n) nd (fun a ha => by
            obtain ⟨i, -, e⟩ := List.mem_map.mp ha
            rw [← e]
            exact List.mem_range.mpr (itlt i))
          rw [List.length_map, List.length_range, List.length_range] at this
          omega
        | succ d ihd =>
          intro t y ht hdi hfre hf hfd hbm hsg
          obtain ⟨a, ha⟩ : ∃ a, a = itf (fun s => psn w s l) t j := ⟨_, rfl⟩
          have han : a < n := by rw [ha]; exact itlt t
          have hnotin : ¬ (D a ∨ ∃ i, i < t ∧ a = itf (fun s => psn w s l) i j) := by
            rintro (h9 | ⟨i, h1, h2⟩)
            · rw [ha] at h9
              exact hfre t (Nat.le_refl _) h9
            · rw [ha] at h2
              exact hdi i t h1 (Nat.le_refl _) h2.symm
          have f1 : fr (fun g => g = 120) y (usI y 120 a (vp_nar .boolean 1)) := fr_I rfl
          have hf1 : fr frK z (usI y 120 a (vp_nar .boolean 1)) := fr_tr hf (fr_mono (fun g hg => Or.inl hg) f1)
          have hno : ∀ i, i < l → onL w a i → ¬ pD w lp n l (fun s => D s ∨ ∃ i, i < t ∧ s = itf (fun s => psn w s l) i j) (2 * i + ubn w lp a i) := by
            rintro i hi hon ⟨s, i2, h1, h2, h3, h4, h5⟩
            have u1 := hub a i
            have u2 := hub s i2
            have hii : i2 = i := by omega
            subst hii
            have hsa : s ≠ a := fun e => hnotin (by rw [← e]; exact h2)
            exact ubn_ne (lp := lp) hsa h4 hon (by omega)
          rw [← ha]
          refine u_X13_close_3 ?_; unfold qm_X13_close_3
          refine w_wrZ ml120 rfl (by omega) (w_cs1 (tp_run hb (bY hf1) (wY hf1) han (fun j9 h9 => pDlt h9) hno (bm_fr f1 (fun g hg => by omega) hbm) (fun j9 h9 => by rw [po_usI_ot (by decide)]; exact hsg j9 h9)) (fun v y2 ⟨r1, r2, r3, r4⟩ => ?_))
          have r1 : v = nI (psn w a l) := r1
          have r2 : fr (fun g => 3001 ≤ g ∧ g ≤ 3006) (usI y 120 a (vp_nar .boolean 1)) y2 := r2
          have hf2 : fr frK z y2 := fr_tr hf1 (fr_mono (fun g hg => Or.inr hg) r2)
          have e1 : psn w a l = itf (fun s => psn w s l) (t + 1) j := by rw [ha]; rfl
          have hal := itlt (t + 1)
          -- the strands that are done now
          have eqD : ∀ s, ((D s ∨ ∃ i, i < t ∧ s = itf (fun s => psn w s l) i j) ∨ s = a) ↔ (D s ∨ ∃ i, i < t + 1 ∧ s = itf (fun s => psn w s l) i j) := by
            intro s
            constructor
            · rintro ((h9 | ⟨i, h1, h2⟩) | h9)
              · exact Or.inl h9
              · exact Or.inr ⟨i, by omega, h2⟩
              · exact Or.inr ⟨t, by omega, by rw [h9, ha]⟩
            · rintro (h9 | ⟨i, h1, h2⟩)
              · exact Or.inl (Or.inl h9)
              · by_cases hit : i = t
                · rw [hit, ← ha] at h2
                  exact Or.inr h2
                · exact Or.inl (Or.inr ⟨i, by omega, h2⟩)
          have eqP : ∀ j9, (pD w lp n l (fun s => D s ∨ ∃ i, i < t ∧ s = itf (fun s => psn w s l) i j) j9 ∨ ∃ i, i < l ∧ onL w a i ∧ j9 = 2 * i + ubn w lp a i) ↔ pD w lp n l (fun s => D s ∨ ∃ i, i < t + 1 ∧ s = itf (fun s => psn w s l) i j) j9 := by
            intro j9
            constructor
            · rintro (⟨s, i, h1, h2, h3⟩ | ⟨i, h1, h2, h3⟩)
              · exact ⟨s, i, h1, (eqD s).mp (Or.inl h2), h3⟩
              · exact ⟨a, i, han, (eqD a).mp (Or.inr rfl), h1, h2, h3⟩
            · rintro ⟨s, i, h1, h2, h3, h4, h5⟩
              rcases (eqD s).mpr h2 with h9 | h9
              · exact Or.inl ⟨s, i, h1, h9, h3, h4, h5⟩
              · rw [h9] at h4 h5
                exact Or.inr ⟨i, h3, h4, h5⟩
          have hfd2 : fD y2 n (fun s => D s ∨ ∃ i, i < t + 1 ∧ s = itf (fun s => psn w s l) i j) := by
            intro s hs
            rw [(r2 120 (by omega)).2.1]
            by_cases hsa : s = a
            · exact Or.inl ⟨by rw [hsa]; exact po_usI_at, (eqD s).mp (Or.inr hsa)⟩
            · rw [po_usI_ne hsa]
              rcases hfd s hs with ⟨g1, g2⟩ | ⟨g1, g2⟩
              · exact Or.inl ⟨g1, (eqD s).mp (Or.inl g2)⟩
              · exact Or.inr ⟨g1, fun h9 => ((eqD s).mpr h9).elim g2 hsa⟩
          have hb2 := bm_eq r3 eqP
          have hs2 : ∀ j9, pD w lp n l (fun s => D s ∨ ∃ i, i < t + 1 ∧ s = itf (fun s => psn w s l) i j) j9 → s1 (y2.2.1 3006 (j9 / 2)) := fun j9 h9 => r4 j9 ((eqP j9).mpr h9)
          rw [r1, e1]
          refine w_eqN (by omega) (by omega) (fun hret => w_cs0 (bm_end pn3 (by omega) hb2) (fun y3 ⟨k1, k2⟩ => ?_)) (fun hret => ihd (t + 1) y2 (by omega) (fun i i2 h1 h2 => ?_) (fun i hi => ?_) hf2 hfd2 hb2 hs2)
          · refine c4 (q + 1) _ y3 (by omega) (fr_tr hf2 (fr_mono (fun g hg => Or.inr (by omega)) k2)) (fun s hs => by rw [(k2 120 (by omega)).2.1]; exact hfd2 s hs) (fun s hs => ?_) (fun s hs => ?_) k1 (fun j9 h9 => by rw [(k2 3006 (by omega)).2.1]; exact hs2 j9 h9)
            · constructor
              · rintro (h9 | ⟨i, h1, h2⟩)
                · exact Or.inl ((hcl s hs).mp h9)
                · by_cases hit : i = t
                  · refine Or.inr ⟨0, by omega, ?_⟩
                    rw [h2, hit]
                    exact hret
                  · exact Or.inr ⟨i + 1, by omega, by rw [h2]; rfl⟩
              · rintro (h9 | ⟨i, h1, h2⟩)
                · exact Or.inl ((hcl s hs).mpr h9)
                · rcases Nat.eq_zero_or_pos i with e0 | e0
                  · refine Or.inr ⟨t, by omega, psn_inj (w := w) l ?_⟩
                    rw [h2, e0]
                    exact hret.symm
                  · obtain ⟨i1, rfl⟩ : ∃ i1, i = i1 + 1 := ⟨i - 1, by omega⟩
                    exact Or.inr ⟨i1, by omega, psn_inj (w := w) l h2⟩
            · by_cases hsj : s = j
              · exact Or.inr ⟨0, by omega, hsj⟩
              · exact Or.inl (hall s (by omega))
          · by_cases hi2 : i2 = t + 1
            · rw [hi2]
              intro e
              rcases Nat.eq_zero_or_pos i with e0 | e0
              · rw [e0] at e
                exact hret e.symm
              · obtain ⟨i1, rfl⟩ : ∃ i1, i = i1 + 1 := ⟨i - 1, by omega⟩
                have e9 := psn_inj (w := w) (s := itf (fun s => psn w s l) i1 j) (t := itf (fun s => psn w s l) t j) l e
                exact hdi i1 t (by omega) (Nat.le_refl _) e9
            · exact hdi i i2 h1 (by omega)
          · by_cases hit : i = t + 1
            · rw [hit]
              intro h9
              have := (hcl a han).mpr (by rw [e1]; exact h9)
              exact hnotin (Or.inl this)
            · exact hfre i (by omega)
      refine u_X13_close_2 ?_; unfold qm_X13_close_2
      refine w_rdI ml96 rfl (by omega) (bY hf).2.2.2.1 (w_leF (by omega) (by omega) (w_rdI ml120 rfl (by omega) rfl ?_))
      rcases hfd j hjn with ⟨g1, g2⟩ | ⟨g1, g2⟩
      · refine w_ifF (by rw [g1]; decide) (c4 q D y (by omega) hf hfd hcl (fun s hs => ?_) hbm hsg)
        by_cases hsj : s = j
        · rw [hsj]; exact g2
        · exact hall s (by omega)
      · have eq0 : ∀ s, D s ↔ (D s ∨ ∃ i, i < 0 ∧ s = itf (fun s => psn w s l) i j) := fun s => ⟨Or.inl, fun h9 => h9.elim id (fun ⟨i, h8, _⟩ => by omega)⟩
        have eqP0 : ∀ j9, pD w lp n l D j9 ↔ pD w lp n l (fun s => D s ∨ ∃ i, i < 0 ∧ s = itf (fun s => psn w s l) i j) j9 := fun j9 => ⟨fun ⟨s, i, h1, h2, h3⟩ => ⟨s, i, h1, (eq0 s).mp h2, h3⟩, fun ⟨s, i, h1, h2, h3⟩ => ⟨s, i, h1, (eq0 s).mpr h2, h3⟩⟩
        refine w_ifT g1 (l3 g2 n 0 y (by omega) (fun i i2 h1 h2 => by omega) (fun i hi => ?_) hf (fun s hs => ?_) (bm_eq hbm.b eqP0) (fun j9 h9 => hsg j9 ((eqP0 j9).mpr h9)))
        · have : i = 0 := by omega
          rw [this]
          exact g2
        · rcases hfd s hs with ⟨k1, k2⟩ | ⟨k1, k2⟩
          · exact Or.inl ⟨k1, Or.inl k2⟩
          · exact Or.inr ⟨k1, fun h9 => k2 ((eq0 s).mpr h9)⟩
  have l1 : ∀ (k j : Nat) (y : ow_MS), j + k = 5 → fr frK z y → bmE y 3000 (aL l) (fun _ => False) 0 → (∀ s, s < j → y.2.1 120 s = 0) → Tt (fun K i => q_X13_close K i 1 (nI b) (nI j) 0 y) Q := by
    intro k
    induction k with
    | zero =>
      intro j y hj hf hbm h0
      refine u_X13_close_1 ?_; unfold qm_X13_close_1
      refine w_leT (a := 5) (by omega) (by omega) (l2 n 0 0 (fun _ => False) y (by omega) (Nat.le_refl _) hf (fun s hs => Or.inr ⟨h0 s (by omega), fun h9 => h9⟩) (fun s _ => Iff.rfl) (fun s hs => by omega) (bmE_eq hbm (fun j9 => ⟨fun h9 => h9.elim, fun ⟨s, i, h1, h2, h3⟩ => h2⟩)) (fun j9 ⟨s, i, h1, h2, h3⟩ => h2.elim))
    | succ k ih =>
      intro j y hj hf hbm h0
      refine u_X13_close_1 ?_; unfold qm_X13_close_1
      rw [nI_1]
      refine w_leF (a := 5) (by omega) (by omega) (w_wrZ ml120 rfl (by omega) (ih (j + 1) _ (by omega) (fr_I2 hf (Or.inl rfl)) (bmE_fr (F := fun g => g = 120) (fr_I rfl) (fun g hg => by omega) hbm) (fun s hs => ?_)))
      by_cases hsj : s = j
      · rw [hsj]
        exact po_usI_at
      · exact rd_ne hsj (h0 s (by omega))
  refine e_X13_close ?_
  refine u_X13_close_0 ?_; unfold qm_X13_close_0
  exact w_cs0 (bm_clear (A := aL l) pn3) (fun y ⟨g1, g2⟩ => l1 5 0 y (by omega) (fr_mono (fun g hg => Or.inr (by omega)) g2) g1 (fun s hs => by omega))
theorem close_net {z1 : ow_MS} {l q n : Nat} (hl : l ≤ 12) (hn : n ≤ 5) (hq : q ≤ n) (hb : bmE z1 3000 (aL l) (fun j => j < 2 * l) q) (hs : ∀ j, j < 2 * l → s1 (z1.2.1 3006 (j / 2))) : mNet z1 3000 := by
  have hlen := aL_len l
  have wk := okF_wk (by omega) (aL_ok l)
  have hP : ∀ j, j < 2 * l → j < (aL l).flatten.length := fun j hj => by omega
  have hc : ∀ j, j < 2 * l → mtf (aL l) j < 2 * l := fun j hj => by
    have := mtf_lt (wkF_ok wk) (hP j hj)
    omega
  refine bmE_net wk (by omega) (by omega) hP hc (fun j hj => ?_) hb
  have hv := aL_at (l := l) (i := j / 2) (u := j % 2) (by omega) (by omega)
  rw [show 2 * (j / 2) + j % 2 = j by omega] at hv
  show s1 (z1.2.1 3006 (crs (aL l) j))
  unfold crs
  rw [hv]
  exact hs j hj
theorem e_X13_closure {x1 : Int32} {z : ow_MS} {Q : (Int32 × ow_MS) → Prop} (H : Tt (fun K _ => qm_X13_closure_0 K x1 z) Q) : Te (fun K => qe_X13_closure K x1 z) Q := w_te0 H
end CLO2
end
section
/-! 99zzzc.parted -/
/-! summands: isParted, waitsFor -/
def zer (r : Nat → Int32) (V : Nat) : Nat := cE r 0 V
theorem zer_le {r : Nat → Int32} {u : Nat} : ∀ V, zer (upd r u 1) V ≤ zer r V
  | 0 => Nat.le_refl _
  | V + 1 => by
    have := zer_le (r := r) (u := u) V
    unfold zer at this ⊢
    show cE (upd r u 1) 0 V + (if upd r u 1 V = 0 then 1 else 0) ≤ cE r 0 V + if r V = 0 then 1 else 0
    by_cases h : V = u
    · rw [h, pk_us, if_neg (by decide)]
      rw [h] at this
      omega
    · rw [pk_un h]
      omega
theorem zer_lt {r : Nat → Int32} {u : Nat} (hr : r u = 0) : ∀ V, u < V → zer (upd r u 1) V < zer r V
  | 0, h => by omega
  | V + 1, h => by
    unfold zer
    show cE (upd r u 1) 0 V + (if upd r u 1 V = 0 then 1 else 0) < cE r 0 V + if r V = 0 then 1 else 0
    by_cases hv : V = u
    · have := zer_le (r := r) (u := u) V
      unfold zer at this
      rw [hv, pk_us, if_neg (by decide), hr, if_pos rfl]
      rw [hv] at this
      omega
    · have := zer_lt hr V (by omega)
      unfold zer at this
      rw [pk_un hv]
      omega
section SUM
variable {X : (Nat → Nat → Int32) → Prop} {z : ow_MS} {A : rn_L} {sg : Nat → Bool}
/-- what stands in reached while component c is looked at -/
def rEa (y : ow_MS) (A : rn_L) (c g h : Nat) : Prop := ∀ v, v < A.flatten.length → (y.2.1 38 v = 0 ∨ y.2.1 38 v = 1) ∧ (rn_c A v = c → (y.2.1 38 v = 1 ↔ g < v ∧ v ≤ h))
theorem u_X13_isParted_5 {x2 : Int32} {x3 : Int32} {x4 : Int32} {x5 : Int32} {x6 : Int32} {x7 : Int32} {x8 : Int32} {r1 : Nat} {t0 : Int32} {t1 : Int32} {z : ow_MS} {Q : (Int32 × ow_MS) → Prop} (H : Tt (fun K k => qm_X13_isParted_5 K (q_X13_isParted K k) x2 x3 x4 x5 x6 x7 x8 r1 t0 t1 z) Q) : Tt (fun K k => q_X13_isParted K k 5 x2 x3 x4 x5 x6 x7 x8 r1 t0 t1 z) Q := w_un (fun _ _ => rfl) H
theorem u_X13_isParted_4 {x2 : Int32} {x3 : Int32} {x4 : Int32} {x5 : Int32} {x6 : Int32} {x7 : Int32} {x8 : Int32} {r1 : Nat} {t0 : Int32} {t1 : Int32} {z : ow_MS} {Q : (Int32 × ow_MS) → Prop} (H : Tt (fun K k => qm_X13_isParted_4 K (q_X13_isParted K k) x2 x3 x4 x5 x6 x7 x8 r1 t0 t1 z) Q) : Tt (fun K k => q_X13_isParted K k 4 x2 x3 x4 x5 x6 x7 x8 r1 t0 t1 z) Q := w_un (fun _ _ => rfl) H
theorem u_X13_isParted_7 {x2 : Int32} {x3 : Int32} {x4 : Int32} {x5 : Int32} {x6 : Int32} {x7 : Int32} {x8 : Int32} {r1 : Nat} {t0 : Int32} {t1 : Int32} {z : ow_MS} {Q : (Int32 × ow_MS) → Prop} (H : Tt (fun K k => qm_X13_isParted_7 K (q_X13_isParted K k) x2 x3 x4 x5 x6 x7 x8 r1 t0 t1 z) Q) : Tt (fun K k => q_X13_isParted K k 7 x2 x3 x4 x5 x6 x7 x8 r1 t0 t1 z) Q := w_un (fun _ _ => rfl) H
theorem u_X13_isParted_6 {x2 : Int32} {x3 : Int32} {x4 : Int32} {x5 : Int32} {x6 : Int32} {x7 : Int32} {x8 : Int32} {r1 : Nat} {t0 : Int32} {t1 : Int32} {z : ow_MS} {Q : (Int32 × ow_MS) → Prop} (H : Tt (fun K k => qm_X13_isParted_6 K (q_X13_isParted K k) x2 x3 x4 x5 x6 x7 x8 r1 t0 t1 z) Q) : Tt (fun K k => q_X13_isParted K k 6 x2 x3 x4 x5 x6 x7 x8 r1 t0 t1 z) Q := w_un (fun _ _ => rfl) H
theorem u_X13_isParted_1 {x2 : Int32} {x3 : Int32} {x4 : Int32} {x5 : Int32} {x6 : Int32} {x7 : Int32} {x8 : Int32} {r1 : Nat} {t0 : Int32} {t1 : Int32} {z : ow_MS} {Q : (Int32 × ow_MS) → Prop} (H : Tt (fun K k => qm_X13_isParted_1 K (q_X13_isParted K k) x2 x3 x4 x5 x6 x7 x8 r1 t0 t1 z) Q) : Tt (fun K k => q_X13_isParted K k 1 x2 x3 x4 x5 x6 x7 x8 r1 t0 t1 z) Q := w_un (fun _ _ => rfl) H
theorem u_X13_isParted_3 {x2 : Int32} {x3 : Int32} {x4 : Int32} {x5 : Int32} {x6 : Int32} {x7 : Int32} {x8 : Int32} {r1 : Nat} {t0 : Int32} {t1 : Int32} {z : ow_MS} {Q : (Int32 × ow_MS) → Prop} (H : Tt (fun K k => qm_X13_isParted_3 K (q_X13_isParted K k) x2 x3 x4 x5 x6 x7 x8 r1 t0 t1 z) Q) : Tt (fun K k => q_X13_isParted K k 3 x2 x3 x4 x5 x6 x7 x8 r1 t0 t1 z) Q := w_un (fun _ _ => rfl) H
theorem u_X13_isParted_2 {x2 : Int32} {x3 : Int32} {x4 : Int32} {x5 : Int32} {x6 : Int32} {x7 : Int32} {x8 : Int32} {r1 : Nat} {t0 : Int32} {t1 : Int32} {z : ow_MS} {Q : (Int32 × ow_MS) → Prop} (H : Tt (fun K k => qm_X13_isParted_2 K (q_X13_isParted K k) x2 x3 x4 x5 x6 x7 x8 r1 t0 t1 z) Q) : Tt (fun K k => q_X13_isParted K k 2 x2 x3 x4 x5 x6 x7 x8 r1 t0 t1 z) Q := w_un (fun _ _ => rfl) H
theorem e_X13_isParted {r1 : Nat} {x2 : Int32} {x3 : Int32} {x4 : Int32} {z : ow_MS} {Q : (Int32 × ow_MS) → Prop} (H : Tt (fun K k => q_X13_isParted K k 0 x2 x3 x4 0 0 0 0 r1 0 0 z) Q) : Te (fun K => qe_X13_isParted K r1 x2 x3 x4 z) Q := w_te H
theorem u_X13_isParted_0 {x2 : Int32} {x3 : Int32} {x4 : Int32} {x5 : Int32} {x6 : Int32} {x7 : Int32} {x8 : Int32} {r1 : Nat} {t0 : Int32} {t1 : Int32} {z : ow_MS} {Q : (Int32 × ow_MS) → Prop} (H : Tt (fun K k => qm_X13_isParted_0 K (q_X13_isParted K k) x2 x3 x4 x5 x6 x7 x8 r1 t0 t1 z) Q) : Tt (fun K k => q_X13_isParted K k 0 x2 x3 x4 x5 x6 x7 x8 r1 t0 t1 z) Q := w_un (fun _ _ => rfl) H
theorem tp_parted {c g h : Nat} (hO : oNet z 1000 A sg) (hc : c < A.length) (hg1 : rn_b A c ≤ g) (hgh : g < h) (hh : h < rn_b A (c + 1)) : Te (fun K => qe_X13_isParted K 1000 (nI c) (nI g) (nI h) z) (fun r => fr (fun i => i = 38) z r.2 ∧ (r.1 = 0 ∨ r.1 = 1) ∧ (r.1 = 1 → rEa r.2 A c g h ∧ ∀ v, v < A.flatten.length → r.2.2.1 38 v = 1 → r.2.2.1 38 (mtf A v) = 1)) := by
  have hl := hO.len
  have hC := hO.2.2.2
  have hd := wkF_ok hO.wk
  have hbl := rn_b_le A (c + 1)
  obtain ⟨V, hV⟩ : ∃ V, V = A.flatten.length := ⟨_, rfl⟩
  have oY : ∀ {y : ow_MS}, fr (fun i => i = 38) z y → oNet y 1000 A sg := fun hf => oNet_fr hf (fun i hi => by omega) hO
  let Q : Int32 × ow_MS → Prop := fun r => fr (fun i => i = 38) z r.2 ∧ (r.1 = 0 ∨ r.1 = 1) ∧ (r.1 = 1 → rEa r.2 A c g h ∧ ∀ v, v < A.flatten.length → r.2.2.1 38 v = 1 → r.2.2.1 38 (mtf A v) = 1)
  have pass : ∀ (Z0 : Nat), (∀ (y : ow_MS), fr (fun i => i = 38) z y → rEa y A c g h → zer (y.2.1 38) V < Z0 → Tt (fun K i => q_X13_isParted K i 4 (nI c) (nI g) (nI h) 1 0 0 0 1000 0 0 y) Q) → ∀ (d v : Nat) (x5 : Int32) (y : ow_MS), v + d = V → fr (fun i => i = 38) z y → rEa y A c g h → (x5 = 0 ∧ zer (y.2.1 38) V ≤ Z0 ∧ (∀ v', v' < v → y.2.1 38 v' = 1 → y.2.1 38 (mtf A v') = 1) ∨ x5 = 1 ∧ zer (y.2.1 38) V < Z0) → Tt (fun K i => q_X13_isParted K i 5 (nI c) (nI g) (nI h) x5 (nI v) 0 0 1000 0 0 y) Q := by
    intro Z0 hag d
    induction d with
    | zero =>
      intro v x5 y hv hf hE hx
      have o2 := oY hf
      refine u_X13_isParted_5 ?_; unfold qm_X13_isParted_5
      refine w_rdF o2.1.V (w_leT (by omega) (by omega) ?_)
      rcases hx with ⟨e, h1, h2⟩ | ⟨e, h1⟩
      · subst e
        refine u_X13_isParted_4 ?_; unfold qm_X13_isParted_4
        refine w_ifT rfl (w_okZ (Or.inr rfl) (w_some ⟨hf, Or.inr rfl, fun _ => ⟨hE, fun v' hv' h9 => h2 v' (by omega) h9⟩⟩))
      · subst e
        exact hag y hf hE h1
    | succ d ih =>
      intro v x5 y hv hf hE hx
      have o2 := oY hf
      have hvl : v < A.flatten.length := by omega
      have hml := mtf_lt hd hvl
      have c7 : ∀ (x9 : Int32) (y2 : ow_MS), fr (fun i => i = 38) z y2 → rEa y2 A c g h → (x9 = 0 ∧ zer (y2.2.1 38) V ≤ Z0 ∧ (∀ v', v' < v + 1 → y2.2.1 38 v' = 1 → y2.2.1 38 (mtf A v') = 1) ∨ x9 = 1 ∧ zer (y2.2.1 38) V < Z0) → Tt (fun K i => q_X13_isParted K i 7 (nI c) (nI g) (nI h) x9 (nI v) 0 0 1000 0 0 y2) Q := by
        intro x9 y2 hf2 hE2 hx2
        refine u_X13_isParted_7 ?_; unfold qm_X13_isParted_7
        rw [nI_1]
        exact ih (v + 1) x9 y2 (by omega) hf2 hE2 hx2
      -- nothing to do at v
      have stay : (y.2.1 38 v = 1 → y.2.1 38 (mtf A v) = 1) → Tt (fun K i => q_X13_isParted K i 7 (nI c) (nI g) (nI h) x5 (nI v) 0 0 1000 0 0 y) Q := by
        intro hst
        refine c7 x5 y hf hE (hx.imp (fun ⟨e, h1, h2⟩ => ⟨e, h1, fun v' hv' h9 => ?_⟩) id)
        by_cases hvv : v' = v
        · rw [hvv] at h9 ⊢
          exact hst h9
        · exact h2 v' (by omega) h9
      refine u_X13_isParted_5 ?_; unfold qm_X13_isParted_5
      refine w_rdF o2.1.V (w_leF (by omega) (by omega) (w_rdI ml38 rfl (by omega) rfl (w_if (fun h0 => stay (fun h9 => by rw [h0] at h9; exact absurd h9 (by decide))) (fun h0 => w_rdI (pl7 pn1) rfl (by omega) (lk_m hd o2.1 hvl) (w_rdI ml38 rfl (by omega) rfl (w_if (fun hm0 => ?_) (fun hm0 => stay (fun _ => ((hE _ hml).1.resolve_left hm0)))))))))
      obtain ⟨k1, k2, k3⟩ := rn_c_in A (mtf A v) hml
      obtain ⟨k, hk⟩ : ∃ k, k = rn_c A (mtf A v) := ⟨_, rfl⟩
      rw [← hk] at k1 k2 k3
      have hbk := rn_b_le A (k + 1)
      refine w_rdI (pl7 pn1) rfl (by omega) (lk_m hd o2.1 hvl) (w_rdI (pl8 pn1) rfl (by omega) ((lk_c o2.1 hml).trans (by rw [← hk])) (w_eqN (by omega) (by omega) (fun _ => w_okZ (Or.inl rfl) (w_some ⟨hf, Or.inl rfl, fun h9 => absurd h9 (show ¬ ((0 : Int32) = 1) by decide)⟩)) (fun hkc => w_rdI (pl3 pn1) rfl (by omega) (lk_b o2.1 (by omega)) ?_)))
      -- the whole component k
      have fill : ∀ (d u : Nat) (y2 : ow_MS), u + d = rn_b A (k + 1) → rn_b A k ≤ u → fr (fun i => i = 38) z y2 → rEa y2 A c g h → (zer (y2.2.1 38) V ≤ zer (y.2.1 38) V ∧ (mtf A v < u → zer (y2.2.1 38) V < zer (y.2.1 38) V) ∧ (u ≤ mtf A v → y2.2.1 38 (mtf A v) = 0)) → Tt (fun K i => q_X13_isParted K i 6 (nI c) (nI g) (nI h) x5 (nI v) (nI k) (nI u) 1000 0 0 y2) Q := by
        intro d
        induction d with
        | zero =>
          intro u y2 hu hlo hf2 hE2 ⟨z1, z2, z3⟩
          have o3 := oY hf2
          refine u_X13_isParted_6 ?_; unfold qm_X13_isParted_6
          rw [nI_1]
          refine w_rdI (pl3 pn1) rfl (by omega) (lk_b o3.1 (by omega)) (w_leT (by omega) (by omega) (c7 1 y2 hf2 hE2 (Or.inr ⟨rfl, ?_⟩)))
          have := z2 (by omega)
          rcases hx with ⟨_, h1, _⟩ | ⟨_, h1⟩ <;> omega
        | succ d ihf =>
          intro u y2 hu hlo hf2 hE2 ⟨z1, z2, z3⟩
          have o3 := oY hf2
          have hul : u < A.flatten.length := by omega
          have huc : rn_c A u = k := rn_c_of A k u hlo (by omega)
          refine u_X13_isParted_6 ?_; unfold qm_X13_isParted_6
          rw [nI_1, nI_1]
          refine w_rdI (pl3 pn1) rfl (by omega) (lk_b o3.1 (by omega)) (w_leF (by omega) (by omega) (w_wrZ ml38 rfl (by omega) (ihf (u + 1) _ (by omega) (by omega) (fr_I2 hf2 rfl) (fun v' hv' => ?_) ?_)))
          · obtain ⟨e1, e2⟩ := hE2 v' hv'
            by_cases hvu : v' = u
            · rw [hvu]
              refine ⟨Or.inr po_usI_at, fun e9 => ?_⟩
              exact absurd (huc.symm.trans e9) (fun e8 => hkc e8)
            · rw [po_usI_ne hvu]
              exact ⟨e1, e2⟩
          · have er : (usI y2 38 u (vp_nar .boolean 1)).2.1 38 = upd (y2.2.1 38) u 1 := po_usI_row
            rw [er]
            have hle := zer_le (r := y2.2.1 38) (u := u) V
            refine ⟨by omega, fun h9 => ?_, fun h9 => ?_⟩
            · by_cases hum : u = mtf A v
              · have := zer_lt (r := y2.2.1 38) (u := u) (by rw [hum]; exact z3 (by omega)) V (by omega)
                omega
              · have := z2 (by omega)
                omega
            · rw [pk_un (by omega)]
              exact z3 (by omega)
      exact fill (rn_b A (k + 1) - rn_b A k) (rn_b A k) y (by omega) (Nat.le_refl _) hf hE ⟨Nat.le_refl _, fun h9 => by omega, fun _ => hm0⟩
  have wh : ∀ (u : Nat) (y : ow_MS), zer (y.2.1 38) V ≤ u → fr (fun i => i = 38) z y → rEa y A c g h → Tt (fun K i => q_X13_isParted K i 4 (nI c) (nI g) (nI h) 1 0 0 0 1000 0 0 y) Q := by
    intro u
    induction u with
    | zero =>
      intro y hu hf hE
      refine u_X13_isParted_4 ?_; unfold qm_X13_isParted_4
      exact w_ifF (by decide) (pass 0 (fun y2 _ _ h9 => by omega) V 0 0 y (by omega) hf hE (Or.inl ⟨rfl, hu, fun v' hv' => by omega⟩))
    | succ u ih =>
      intro y hu hf hE
      refine u_X13_isParted_4 ?_; unfold qm_X13_isParted_4
      exact w_ifF (by decide) (pass (u + 1) (fun y2 f2 e2 h9 => ih y2 (by omega) f2 e2) V 0 0 y (by omega) hf hE (Or.inl ⟨rfl, hu, fun v' hv' => by omega⟩))
  have ini : ∀ (d v : Nat) (y : ow_MS), v + d = V → fr (fun i => i = 38) z y → (∀ v', v' < v → (y.2.1 38 v' = 0 ∨ y.2.1 38 v' = 1) ∧ (y.2.1 38 v' = 1 ↔ g < v' ∧ v' ≤ h)) → Tt (fun K i => q_X13_isParted K i 1 (nI c) (nI g) (nI h) (nI v) 0 0 0 1000 0 0 y) Q := by
    intro d
    induction d with
    | zero =>
      intro v y hv hf hr
      refine u_X13_isParted_1 ?_; unfold qm_X13_isParted_1
      exact w_rdF (oY hf).1.V (w_leT (by omega) (by omega) (wh _ y (Nat.le_refl _) hf (fun v' hv' => ⟨(hr v' (by omega)).1, fun _ => (hr v' (by omega)).2⟩)))
    | succ d ih =>
      intro v y hv hf hr
      have c3 : ∀ (b : Bool), (b = true ↔ g < v ∧ v ≤ h) → Tt (fun K i => q_X13_isParted K i 3 (nI c) (nI g) (nI h) (nI v) 0 0 0 1000 (bZ b) (nI v) y) Q := by
        intro b hb
        refine u_X13_isParted_3 ?_; unfold qm_X13_isParted_3
        rw [nI_1]
        refine w_wrZ ml38 rfl (by omega) (ih (v + 1) _ (by omega) (fr_I2 hf rfl) (fun v' hv' => ?_))
        by_cases hvv : v' = v
        · rw [hvv, po_usI_at]
          cases b with
          | true => exact ⟨Or.inr rfl, fun _ => hb.mp rfl, fun _ => rfl⟩
          | false => exact ⟨Or.inl rfl, fun h9 => absurd h9 (by decide), fun h9 => absurd (hb.mpr h9) (by decide)⟩
        · rw [po_usI_ne hvv]
          exact hr v' (by omega)
      have c2 : ¬ (g < v ∧ v ≤ h) → Tt (fun K i => q_X13_isParted K i 2 (nI c) (nI g) (nI h) (nI v) 0 0 0 1000 (nI v) 0 y) Q := by
        intro hno
        refine u_X13_isParted_2 ?_; unfold qm_X13_isParted_2
        exact c3 false ⟨fun h9 => absurd h9 (by decide), fun h9 => absurd h9 hno⟩
      refine u_X13_isParted_1 ?_; unfold qm_X13_isParted_1
      exact w_rdF (oY hf).1.V (w_leF (by omega) (by omega) (w_le (by omega) (by omega) (fun h9 => c2 (by omega)) (fun h9 => w_lt (by omega) (by omega) (fun h8 => c2 (by omega)) (fun h8 => c3 true ⟨fun _ => ⟨h9, h8⟩, fun _ => rfl⟩))))
  refine e_X13_isParted ?_
  refine u_X13_isParted_0 ?_; unfold qm_X13_isParted_0
  exact ini V 0 z (by omega) fr_rf (fun v' hv' => by omega)
theorem cE_filter {r : Nat → Int32} {x : Int32} : ∀ V, ((List.range V).filter (fun v => decide (r v = x))).length = cE r x V
  | 0 => rfl
  | V + 1 => by
    rw [List.range_succ, List.filter_append, List.length_append, cE_filter V]
    show _ = cE r x V + if r V = x then 1 else 0
    by_cases h : r V = x <;> simp [h]
theorem e_X13_waitsFor {r1 : Nat} {x2 : Int32} {x3 : Int32} {z : ow_MS} {Q : ow_MS → Prop} (H : Tt (fun K k => q_X13_waitsFor K k 0 x2 x3 0 0 0 r1 z) Q) : Te (fun K => qe_X13_waitsFor K r1 x2 x3 z) Q := w_te H
theorem u_X13_waitsFor_0 {x2 : Int32} {x3 : Int32} {x4 : Int32} {x5 : Int32} {x6 : Int32} {r1 : Nat} {z : ow_MS} {Q : ow_MS → Prop} (H : Tt (fun K k => qm_X13_waitsFor_0 K (q_X13_waitsFor K k) x2 x3 x4 x5 x6 r1 z) Q) : Tt (fun K k => q_X13_waitsFor K k 0 x2 x3 x4 x5 x6 r1 z) Q := w_un (fun _ _ => rfl) H
theorem u_X13_waitsFor_1 {x2 : Int32} {x3 : Int32} {x4 : Int32} {x5 : Int32} {x6 : Int32} {r1 : Nat} {z : ow_MS} {Q : ow_MS → Prop} (H : Tt (fun K k => qm_X13_waitsFor_1 K (q_X13_waitsFor K k) x2 x3 x4 x5 x6 r1 z) Q) : Tt (fun K k => q_X13_waitsFor K k 1 x2 x3 x4 x5 x6 r1 z) Q := w_un (fun _ _ => rfl) H
theorem u_X13_waitsFor_4 {x2 : Int32} {x3 : Int32} {x4 : Int32} {x5 : Int32} {x6 : Int32} {r1 : Nat} {z : ow_MS} {Q : ow_MS → Prop} (H : Tt (fun K k => qm_X13_waitsFor_4 K (q_X13_waitsFor K k) x2 x3 x4 x5 x6 r1 z) Q) : Tt (fun K k => q_X13_waitsFor K k 4 x2 x3 x4 x5 x6 r1 z) Q := w_un (fun _ _ => rfl) H
theorem u_X13_waitsFor_2 {x2 : Int32} {x3 : Int32} {x4 : Int32} {x5 : Int32} {x6 : Int32} {r1 : Nat} {z : ow_MS} {Q : ow_MS → Prop} (H : Tt (fun K k => qm_X13_waitsFor_2 K (q_X13_waitsFor K k) x2 x3 x4 x5 x6 r1 z) Q) : Tt (fun K k => q_X13_waitsFor K k 2 x2 x3 x4 x5 x6 r1 z) Q := w_un (fun _ _ => rfl) H
theorem u_X13_waitsFor_3 {x2 : Int32} {x3 : Int32} {x4 : Int32} {x5 : Int32} {x6 : Int32} {r1 : Nat} {z : ow_MS} {Q : ow_MS → Prop} (H : Tt (fun K k => qm_X13_waitsFor_3 K (q_X13_waitsFor K k) x2 x3 x4 x5 x6 r1 z) Q) : Tt (fun K k => q_X13_waitsFor K k 3 x2 x3 x4 x5 x6 r1 z) Q := w_un (fun _ _ => rfl) H
theorem tp_waits {n at9 : Nat} {b : Bool} (hn : mw_net n) (hn3 : n ≠ 3000) (ha : at9 < 16) (hO : oNet z n A sg) (hcl : ∀ v, v < A.flatten.length → z.2.1 38 v = bZ b → z.2.1 38 (mtf A v) = bZ b) : Te (fun K => qe_X13_waitsFor K n (bZ b) (nI at9) z) (fun z1 => (∃ A' sg' c, vRow z1 37 (32 * at9) A' sg' ∧ okF A'.flatten c ∧ 2 * c = cE (z.2.1 38) (bZ b) A.flatten.length) ∧ fr (fun g => 2 ≤ g ∧ g ≤ 9 ∨ g = 37 ∨ 3001 ≤ g ∧ g ≤ 3013) z z1 ∧ ∀ i, i < 32 * at9 ∨ 32 * at9 + 32 ≤ i → z1.2.1 37 i = z.2.1 37 i) := by
  have hmn := net_mod hn
  have hl := hO.len
  have hC := hO.2.2.2
  have hd := wkF_ok hO.wk
  let Q : ow_MS → Prop := fun z1 => (∃ A' sg' c, vRow z1 37 (32 * at9) A' sg' ∧ okF A'.flatten c ∧ 2 * c = cE (z.2.1 38) (bZ b) A.flatten.length) ∧ fr (fun g => 2 ≤ g ∧ g ≤ 9 ∨ g = 37 ∨ 3001 ≤ g ∧ g ≤ 3013) z z1 ∧ ∀ i, i < 32 * at9 ∨ 32 * at9 + 32 ≤ i → z1.2.1 37 i = z.2.1 37 i
  refine e_X13_waitsFor ?_
  refine u_X13_waitsFor_0 ?_; unfold qm_X13_waitsFor_0
  refine w_cs0 (bm_clear (A := A) pn3) (fun z3 ⟨b3, f3⟩ => w_cs0 (tn_signs pn3 hn (fun e => hn3 e.symm)) (fun z4 ⟨f4, s4⟩ => ?_))
  let I : ow_MS → Prop := fun y => fr (fun g => 3001 ≤ g ∧ g ≤ 3006) z y ∧ ∀ x, x < 40 → y.2.1 3006 x = z.2.1 (n + 6) x
  have oI : ∀ {y : ow_MS}, I y → oNet y n A sg := fun hI => oNet_fr hI.1 (fun g hg => by omega) hO
  have stI : ∀ {P : Nat → Prop} {y y2 : ow_MS}, I y → fr P y y2 → (∀ g, P g → 3001 ≤ g ∧ g ≤ 3005) → I y2 := fun hI hf hP => ⟨fr_tr hI.1 (fr_mono (fun g hg => by have := hP g hg; omega) hf), fun x hx => by rw [(hf 3006 (fun h9 => by have := hP _ h9; omega)).2.1]; exact hI.2 x hx⟩
  have e38 : ∀ {y : ow_MS}, I y → y.2.1 38 = z.2.1 38 := fun hI => (hI.1 38 (by omega)).2.1
  have out : ∀ (k c q : Nat) (y : ow_MS), c + k = A.length → q ≤ c → I y → bmE y 3000 A (fun j => j < rn_b A c ∧ z.2.1 38 j = bZ b) q → Tt (fun K i => q_X13_waitsFor K i 1 (bZ b) (nI at9) (nI c) 0 0 n y) Q := by
    intro k
    induction k with
    | zero =>
      intro c q y hc hq hI hb
      have hce : c = A.length := by omega
      rw [hce, rn_b_len] at hb
      have hP : ∀ j, (j < A.flatten.length ∧ z.2.1 38 j = bZ b) → mtf A j < A.flatten.length ∧ z.2.1 38 (mtf A j) = bZ b := fun j hj => ⟨mtf_lt hd hj.1, hcl j hj.1 hj.2⟩
      have hs : ∀ j, (j < A.flatten.length ∧ z.2.1 38 j = bZ b) → s1 (y.2.1 (3000 + 6) (crs A j)) := fun j hj => by
        obtain ⟨x1, x2, x3⟩ := hO.cx hj.1
        show s1 (y.2.1 3006 (crs A j))
        rw [hI.2 _ (by omega)]
        exact s1_if x3
      have hN : mNet y 3000 := bmE_net hO.wk hl (by omega) (fun j hj => hj.1) hP hs hb
      obtain ⟨A1, sg1, n1, n2, n3, n4, n5⟩ := hN
      obtain ⟨C, m1, m2, m3, m4⟩ := hb
      have hlenC : C.flatten.length = cE (z.2.1 38) (bZ b) A.flatten.length := by
        rw [← cE_filter]
        refine nodup_eq m3 (nodup_filter List.nodup_range) (fun j => ?_)
        rw [m4 j, List.mem_filter, List.mem_range, decide_eq_true_iff]
      have hlen1 : A1.flatten.length = C.flatten.length := by
        have e1 := n1.1
        have e2 := m2.1
        rw [e2, List.append_nil, List.append_nil, fl_map, List.length_map] at e1
        have hb1 : C.flatten.length ≤ A.flatten.length := by
          rw [hlenC]
          exact cE_le _
        exact ((nI_eq (by omega) (by omega)).mp e1).symm
      refine u_X13_waitsFor_1 ?_; unfold qm_X13_waitsFor_1
      rw [show (32 : Int32) * nI at9 = nI (32 * at9) from pk_mul 32 at9]
      refine w_rdF (lk_C (oI hI).1) (w_leT (by omega) (by omega) (w_cs0 (tr_pack pn3 (by omega) ml37 (by omega) (by omega) (by omega) (by omega) n3 n1 n2) (fun y2 hy2 => w_some ?_)))
      obtain ⟨m, P, k1, k2, k3, k4, -, -⟩ := hy2
      obtain ⟨A', sg', c', e, ok, l1, l2⟩ := pkR_ok (sg := sg1) n3 k1
      rw [e] at k2
      refine ⟨⟨A', sg', c', ⟨k2, ⟨c', ok, by omega⟩, by omega⟩, ok, by omega⟩, fr_tr (fr_mono (fun g hg => by omega) hI.1) (fr_mono (fun g hg => by unfold frQ at hg; omega) k3), fun i hi => ?_⟩
      rw [k4 i hi, (hI.1 37 (by omega)).2.1]
    | succ k ih =>
      intro c q y hc hq hI hb
      have m1 := rn_b_mono A c
      have m2 := rn_b_le A (c + 1)
      have c4 : ∀ (x5 x6 : Int32) (q2 : Nat) (y2 : ow_MS), q2 ≤ c + 1 → I y2 → bmE y2 3000 A (fun j => j < rn_b A (c + 1) ∧ z.2.1 38 j = bZ b) q2 → Tt (fun K i => q_X13_waitsFor K i 4 (bZ b) (nI at9) (nI c) x5 x6 n y2) Q := by
        intro x5 x6 q2 y2 hq2 hI2 hb2
        refine u_X13_waitsFor_4 ?_; unfold qm_X13_waitsFor_4
        rw [nI_1]
        exact ih (c + 1) q2 y2 (by omega) hq2 hI2 hb2
      have inn : ∀ (d i k9 : Nat) (y : ow_MS), i + d = rn_b A (c + 1) → rn_b A c ≤ i → k9 ≤ i → I y → bm y 3000 A (fun j => j < i ∧ z.2.1 38 j = bZ b) q → (k9 = 0 → bmE y 3000 A (fun j => j < i ∧ z.2.1 38 j = bZ b) q) → Tt (fun K i9 => q_X13_waitsFor K i9 2 (bZ b) (nI at9) (nI c) (nI k9) (nI i) n y) Q := by
        intro d
        induction d with
        | zero =>
          intro i k9 y hi hlo hk9 hI hb hb0
          have hie : i = rn_b A (c + 1) := by omega
          rw [hie] at hb hb0 ⊢
          refine u_X13_waitsFor_2 ?_; unfold qm_X13_waitsFor_2
          rw [nI_1]
          refine w_rdI (pl3 hn) rfl (by omega) (lk_b (oI hI).1 (by omega)) (w_leT (by omega) (Nat.le_refl _) (w_le (b := 0) (by omega) (by omega) (fun h0 => c4 _ _ q y (by omega) hI (hb0 (by omega))) (fun h0 => w_cs0 (bm_end pn3 (by omega) hb) (fun y2 ⟨g1, g2⟩ => c4 _ _ (q + 1) y2 (by omega) (stI hI g2 (fun g hg => by omega)) g1))))
        | succ d ihd =>
          intro i k9 y hi hlo hk9 hI hb hb0
          have hil : i < A.flatten.length := by omega
          refine u_X13_waitsFor_2 ?_; unfold qm_X13_waitsFor_2
          rw [nI_1, nI_1]
          refine w_rdI (pl3 hn) rfl (by omega) (lk_b (oI hI).1 (by omega)) (w_leF (by omega) (by omega) (w_rdI ml38 rfl (by omega) (by rw [e38 hI]) (w_if (fun h9 => w_rdI (pl4 hn) rfl (by omega) (lk_cu (oI hI).1 hil).1 (w_rdI (pl5 hn) rfl (by omega) (lk_cu (oI hI).1 hil).2 (w_cs0 (bm_add (i := i) pn3 (by omega) (fun j hj => by omega) (fun hj => by omega) rfl rfl hb) (fun y2 ⟨g1, g2⟩ => ?_)))) (fun h9 => ?_))))
          · refine u_X13_waitsFor_3 ?_; unfold qm_X13_waitsFor_3
            rw [nI_1]
            refine ihd (i + 1) (k9 + 1) y2 (by omega) (by omega) (by omega) (stI hI g2 (fun g hg => by omega)) (bm_eq g1 (fun j => ⟨fun h8 => ?_, fun h8 => ?_⟩)) (fun e => by omega)
            · rcases h8 with h8 | h8
              · exact ⟨by omega, h8.2⟩
              · rw [h8]
                exact ⟨by omega, h9⟩
            · by_cases hji : j = i
              · exact Or.inr hji
              · exact Or.inl ⟨by omega, h8.2⟩
          · refine u_X13_waitsFor_3 ?_; unfold qm_X13_waitsFor_3
            rw [nI_1]
            have eqj : ∀ j, (j < i ∧ z.2.1 38 j = bZ b) ↔ (j < i + 1 ∧ z.2.1 38 j = bZ b) := fun j => ⟨fun h8 => ⟨by omega, h8.2⟩, fun h8 => ⟨by
              by_cases hji : j = i
              · rw [hji] at h8
                exact absurd h8.2 h9
              · omega, h8.2⟩⟩
            exact ihd (i + 1) k9 y (by omega) (by omega) (by omega) hI (bm_eq hb eqj) (fun e => bmE_eq (hb0 e) eqj)
      refine u_X13_waitsFor_1 ?_; unfold qm_X13_waitsFor_1
      exact w_rdF (lk_C (oI hI).1) (w_leF (by omega) (by omega) (w_rdI (pl3 hn) rfl (by omega) (lk_b (oI hI).1 (by omega)) (inn (rn_b A (c + 1) - rn_b A c) (rn_b A c) 0 y (by omega) (Nat.le_refl _) (by omega) hI hb.b (fun _ => hb))))
  refine out A.length 0 0 z4 (by omega) (Nat.le_refl _) ⟨fr_tr (fr_mono (fun g hg => by omega) f3) (fr_mono (fun g hg => by omega) f4), fun x hx => ?_⟩ (bmE_eq (bmE_fr f4 (fun g hg => by omega) b3) (fun j => ⟨fun h9 => h9.elim, fun h9 => by rw [rn_b0] at h9; omega⟩))
  rw [show z4.2.1 3006 x = z3.2.1 (n + 6) x from s4 x hx, (f3 (n + 6) (by omega)).2.1]
end SUM
end
section
/-! 99zzzd.summ -/
/-! addSummand, summands -/
section SUM2
variable {X : (Nat → Nat → Int32) → Prop} {z : ow_MS} {A : rn_L} {sg : Nat → Bool}
def gSumN (z : ow_MS) (L : Nat) : Prop := z.1 36 = nI L ∧ (∀ k, k < L → ∃ j, j < L ∧ z.2.1 39 k = nI j) ∧ ∀ j, j < L → dRow z 35 (32 * j)
theorem u_X13_addSummand_2 {x1 : Int32} {x2 : Int32} {z : ow_MS} {Q : ow_MS → Prop} (H : Tt (fun K k => qm_X13_addSummand_2 K (q_X13_addSummand K k) x1 x2 z) Q) : Tt (fun K k => q_X13_addSummand K k 2 x1 x2 z) Q := w_un (fun _ _ => rfl) H
theorem u_X13_addSummand_3 {x1 : Int32} {x2 : Int32} {z : ow_MS} {Q : ow_MS → Prop} (H : Tt (fun K k => qm_X13_addSummand_3 K (q_X13_addSummand K k) x1 x2 z) Q) : Tt (fun K k => q_X13_addSummand K k 3 x1 x2 z) Q := w_un (fun _ _ => rfl) H
theorem u_X13_addSummand_1 {x1 : Int32} {x2 : Int32} {z : ow_MS} {Q : ow_MS → Prop} (H : Tt (fun K k => qm_X13_addSummand_1 K (q_X13_addSummand K k) x1 x2 z) Q) : Tt (fun K k => q_X13_addSummand K k 1 x1 x2 z) Q := w_un (fun _ _ => rfl) H
theorem e_X13_addSummand {x1 : Int32} {z : ow_MS} {Q : ow_MS → Prop} (H : Tt (fun K k => q_X13_addSummand K k 0 x1 0 z) Q) : Te (fun K => qe_X13_addSummand K x1 z) Q := w_te H
theorem u_X13_addSummand_0 {x1 : Int32} {x2 : Int32} {z : ow_MS} {Q : ow_MS → Prop} (H : Tt (fun K k => qm_X13_addSummand_0 K (q_X13_addSummand K k) x1 x2 z) Q) : Tt (fun K k => q_X13_addSummand K k 0 x1 x2 z) Q := w_un (fun _ _ => rfl) H
theorem tp_addS {S k9 : Nat} (hS : S < 16) (hk9 : k9 < 16) (hG : gSumN z S) (hv : vRow z 37 (32 * k9) A sg) : Te (fun K => qe_X13_addSummand K (nI (32 * k9)) z) (fun z1 => gSumN z1 (S + 1) ∧ fr (fun g => g = 35 ∨ g = 36 ∨ g = 39) z z1) := by
  obtain ⟨g1, g2, g3⟩ := hG
  have hl := hv.1.1
  let Q : ow_MS → Prop := fun z1 => gSumN z1 (S + 1) ∧ fr (fun g => g = 35 ∨ g = 36 ∨ g = 39) z z1
  have l2 : ∀ (k : Nat) (y : ow_MS), k ≤ S → fr (fun g => g = 35 ∨ g = 39) z y → (∀ j, j < S + 1 → dRow y 35 (32 * j)) → (∀ i, i < k → ∃ j, j < S ∧ y.2.1 39 i = nI j) → (∀ i, k < i → i < S + 1 → ∃ j, j < S + 1 ∧ y.2.1 39 i = nI j) → Tt (fun K i => q_X13_addSummand K i 2 (nI (32 * k9)) (nI k) y) Q := by
    intro k
    induction k with
    | zero =>
      intro y hkS hf hR ho1 ho2
      have e36 : y.1 36 = nI S := by rw [(hf 36 (by omega)).1]; exact g1
      refine u_X13_addSummand_2 ?_; unfold qm_X13_addSummand_2
      refine w_leT (b := 0) (by omega) (by omega) ?_
      refine u_X13_addSummand_3 ?_; unfold qm_X13_addSummand_3
      refine w_rdF e36 (w_wrI ml39 rfl (by omega) (w_rdF e36 (w_wrF ?_)))
      rw [nI_1]
      refine w_some ⟨⟨po_usF_at, fun i hi => ?_, fun j hj => dRow_fr (P := fun g => g = 36 ∨ g = 39) (fr_F2 (fr_I (Or.inr rfl)) (Or.inl rfl)) (by omega) (hR j hj)⟩, fr_F2 (fr_I2 (fr_mono (fun g hg => by omega) hf) (by omega)) (by omega)⟩
      by_cases hi0 : i = 0
      · exact ⟨S, by omega, by rw [hi0]; exact po_usI_at⟩
      · obtain ⟨j, hj, e⟩ := ho2 i (by omega) hi
        exact ⟨j, hj, rd_ne hi0 e⟩
    | succ k ih =>
      intro y hkS hf hR ho1 ho2
      have e36 : y.1 36 = nI S := by rw [(hf 36 (by omega)).1]; exact g1
      obtain ⟨j, hj, e⟩ := ho1 k (by omega)
      obtain ⟨B1, t1, v1⟩ := hR S (by omega)
      obtain ⟨B2, t2, v2⟩ := hR j (by omega)
      have l1 := v1.1.1
      have l2 := v2.1.1
      have c3 : Tt (fun K i => q_X13_addSummand K i 3 (nI (32 * k9)) (nI (k + 1)) y) Q := by
        refine u_X13_addSummand_3 ?_; unfold qm_X13_addSummand_3
        refine w_rdF e36 (w_wrI ml39 rfl (by omega) (w_rdF e36 (w_wrF ?_)))
        rw [nI_1]
        refine w_some ⟨⟨po_usF_at, fun i hi => ?_, fun j hj => dRow_fr (P := fun g => g = 36 ∨ g = 39) (fr_F2 (fr_I (Or.inr rfl)) (Or.inl rfl)) (by omega) (hR j hj)⟩, fr_F2 (fr_I2 (fr_mono (fun g hg => by omega) hf) (by omega)) (by omega)⟩
        by_cases hi0 : i = k + 1
        · exact ⟨S, by omega, by rw [hi0]; exact po_usI_at⟩
        · by_cases hik : i < k + 1
          · obtain ⟨j, hj, e⟩ := ho1 i hik
            exact ⟨j, by omega, rd_ne hi0 e⟩
          · obtain ⟨j, hj, e⟩ := ho2 i (by omega) hi
            exact ⟨j, hj, rd_ne hi0 e⟩
      refine u_X13_addSummand_2 ?_; unfold qm_X13_addSummand_2
      rw [nI_pred, pk_m1]
      refine w_leF (b := 0) (by omega) (by omega) (w_rdF e36 (w_rdI ml39 rfl (by omega) e ?_))
      rw [show (32 : Int32) * nI S = nI (32 * S) from pk_mul 32 S, show (32 : Int32) * nI j = nI (32 * j) from pk_mul 32 j]
      refine w_cs1 (tr_lesser ml35 ml35 (by omega) (by omega) (by omega) (by omega) v1.1 v2.1) (fun a y9 e9 => ?_)
      cases e9
      refine w_if (fun _ => c3) (fun _ => w_rdI ml39 rfl (by omega) e (w_wrI ml39 rfl (by omega) (ih _ (by omega) (fr_I2 hf (Or.inr rfl)) (fun j hj => dRow_fr (P := fun g => g = 39) (fr_I rfl) (by omega) (hR j hj)) (fun i hi => ?_) (fun i h1 h2 => ?_))))
      · obtain ⟨j9, hj9, e9⟩ := ho1 i (by omega)
        exact ⟨j9, hj9, rd_ne (by omega) e9⟩
      · by_cases hik : i = k + 1
        · exact ⟨j, by omega, by rw [hik]; exact po_usI_at⟩
        · obtain ⟨j9, hj9, e9⟩ := ho2 i (by omega) h2
          exact ⟨j9, hj9, rd_ne hik e9⟩
  have l1 : ∀ (d k : Nat) (y : ow_MS), k + d = (tk sg A).length + 1 → fr (fun g => g = 35) z y → (∀ i, i < k → y.2.1 35 (32 * S + i) = z.2.1 37 (32 * k9 + i)) → (∀ i, i < 32 * S → y.2.1 35 i = z.2.1 35 i) → Tt (fun K i => q_X13_addSummand K i 1 (nI (32 * k9)) (nI k) y) Q := by
    intro d
    induction d with
    | zero =>
      intro k y hk hf hc hi
      have e36 : y.1 36 = nI S := by rw [(hf 36 (by omega)).1]; exact g1
      refine u_X13_addSummand_1 ?_; unfold qm_X13_addSummand_1
      refine w_rdI ml37 rfl (by omega) (x := nI (tk sg A).length) (by rw [(hf 37 (by omega)).2.1]; exact hv.1.2.2.1) (w_ltT (by omega) (by omega) (w_rdF e36 (l2 S y (Nat.le_refl _) (fr_mono (fun g hg => Or.inl hg) hf) (fun j hj => ?_) (fun i hi9 => by rw [(hf 39 (by omega)).2.1]; exact g2 i hi9) (fun i h1 h2 => by omega))))
      by_cases hjS : j = S
      · rw [hjS]
        refine ⟨A, sg, ⟨hv.1.1, hv.1.2.1, ?_, fun i t hi9 => ?_⟩, hv.2⟩
        · have := hc 0 (by omega)
          rw [Nat.add_zero, Nat.add_zero] at this
          rw [this]
          exact hv.1.2.2.1
        · have := (List.getElem?_eq_some_iff.mp hi9).1
          rw [hc (i + 1) (by omega)]
          exact hv.1.2.2.2 i t hi9
      · exact dRow_eq (fun i h1 h2 => hi i (by omega)) (g3 j (by omega))
    | succ d ih =>
      intro k y hk hf hc hi
      have e36 : y.1 36 = nI S := by rw [(hf 36 (by omega)).1]; exact g1
      refine u_X13_addSummand_1 ?_; unfold qm_X13_addSummand_1
      refine w_rdI ml37 rfl (by omega) (x := nI (tk sg A).length) (by rw [(hf 37 (by omega)).2.1]; exact hv.1.2.2.1) (w_ltF (by omega) (by omega) (w_rdF e36 ?_))
      rw [nI_add, show (32 : Int32) * nI S = nI (32 * S) from pk_mul 32 S, nI_add, nI_1]
      refine w_rdI ml37 rfl (by omega) (by rw [(hf 37 (by omega)).2.1]) (w_wrI ml35 rfl (by omega) (ih (k + 1) _ (by omega) (fr_I2 hf rfl) (fun i hi9 => ?_) (fun i hi9 => rd_ne (by omega) (hi i hi9))))
      by_cases hik : i = k
      · rw [hik, po_usI_at]
      · exact rd_ne (by omega) (hc i (by omega))
  refine e_X13_addSummand ?_
  refine u_X13_addSummand_0 ?_; unfold qm_X13_addSummand_0
  exact l1 _ 0 z (Nat.zero_add _) fr_rf (fun i hi => by omega) (fun i _ => rfl)
/-- the rows that wait: cs says how many crossings each has -/
def wRs (z : ow_MS) (w : Nat) (cs : Nat → Nat) : Prop := ∀ k, k < w → 1 ≤ cs k ∧ ∃ A sg, vRow z 37 (32 * k) A sg ∧ okF A.flatten (cs k)
theorem sN_ge {cs : Nat → Nat} : ∀ w, (∀ k, k < w → 1 ≤ cs k) → w ≤ sN cs w
  | 0, _ => Nat.le_refl _
  | w + 1, h => by
    have := sN_ge w (fun k hk => h k (by omega))
    have := h w (by omega)
    show w + 1 ≤ sN cs w + cs w
    omega
theorem wRs_eq {z1 : ow_MS} {w : Nat} {cs : Nat → Nat} (he : ∀ i, i < 32 * w → z1.2.1 37 i = z.2.1 37 i) (h : wRs z w cs) : wRs z1 w cs := fun k hk => by
  obtain ⟨h1, A, sg, ⟨⟨a1, a2, a3, a4⟩, a5⟩, a6⟩ := h k hk
  refine ⟨h1, A, sg, ⟨⟨a1, a2, by rw [he _ (by omega)]; exact a3, fun i t hi => ?_⟩, a5⟩, a6⟩
  have := (List.getElem?_eq_some_iff.mp hi).1
  rw [he _ (by omega)]
  exact a4 i t hi
theorem cE_01 {r : Nat → Int32} : ∀ V, (∀ v, v < V → r v = 0 ∨ r v = 1) → cE r 0 V + cE r 1 V = V
  | 0, _ => rfl
  | V + 1, h => by
    have ih := cE_01 V (fun v hv => h v (by omega))
    show cE r 0 V + (if r V = 0 then 1 else 0) + (cE r 1 V + if r V = 1 then 1 else 0) = V + 1
    rcases h V (by omega) with e | e
    · rw [e, if_pos rfl, if_neg (by decide)]; omega
    · rw [e, if_neg (by decide), if_pos rfl]; omega
theorem cE_pos {r : Nat → Int32} {x : Int32} {v : Nat} (hr : r v = x) : ∀ V, v < V → 1 ≤ cE r x V
  | 0, h => by omega
  | V + 1, h => by
    show 1 ≤ cE r x V + if r V = x then 1 else 0
    by_cases hv : v = V
    · rw [← hv, hr, if_pos rfl]; omega
    · have := cE_pos hr V (by omega)
      omega
theorem e_X13_summands {x1 : Int32} {z : ow_MS} {Q : (Int32 × ow_MS) → Prop} (H : Tt (fun K k => q_X13_summands K k 0 x1 0 0 0 0 0 0 0 z) Q) : Te (fun K => qe_X13_summands K x1 z) Q := w_te H
theorem u_X13_summands_0 {x1 : Int32} {x2 : Int32} {x3 : Int32} {x4 : Int32} {x5 : Int32} {x6 : Int32} {t0 : Int32} {t1 : Int32} {z : ow_MS} {Q : (Int32 × ow_MS) → Prop} (H : Tt (fun K k => qm_X13_summands_0 K (q_X13_summands K k) x1 x2 x3 x4 x5 x6 t0 t1 z) Q) : Tt (fun K k => q_X13_summands K k 0 x1 x2 x3 x4 x5 x6 t0 t1 z) Q := w_un (fun _ _ => rfl) H
theorem u_X13_summands_5 {x1 : Int32} {x2 : Int32} {x3 : Int32} {x4 : Int32} {x5 : Int32} {x6 : Int32} {t0 : Int32} {t1 : Int32} {z : ow_MS} {Q : (Int32 × ow_MS) → Prop} (H : Tt (fun K k => qm_X13_summands_5 K (q_X13_summands K k) x1 x2 x3 x4 x5 x6 t0 t1 z) Q) : Tt (fun K k => q_X13_summands K k 5 x1 x2 x3 x4 x5 x6 t0 t1 z) Q := w_un (fun _ _ => rfl) H
theorem u_X13_summands_12 {x1 : Int32} {x2 : Int32} {x3 : Int32} {x4 : Int32} {x5 : Int32} {x6 : Int32} {t0 : Int32} {t1 : Int32} {z : ow_MS} {Q : (Int32 × ow_MS) → Prop} (H : Tt (fun K k => qm_X13_summands_12 K (q_X13_summands K k) x1 x2 x3 x4 x5 x6 t0 t1 z) Q) : Tt (fun K k => q_X13_summands K k 12 x1 x2 x3 x4 x5 x6 t0 t1 z) Q := w_un (fun _ _ => rfl) H
theorem u_X13_summands_11 {x1 : Int32} {x2 : Int32} {x3 : Int32} {x4 : Int32} {x5 : Int32} {x6 : Int32} {t0 : Int32} {t1 : Int32} {z : ow_MS} {Q : (Int32 × ow_MS) → Prop} (H : Tt (fun K k => qm_X13_summands_11 K (q_X13_summands K k) x1 x2 x3 x4 x5 x6 t0 t1 z) Q) : Tt (fun K k => q_X13_summands K k 11 x1 x2 x3 x4 x5 x6 t0 t1 z) Q := w_un (fun _ _ => rfl) H
theorem u_X13_summands_6 {x1 : Int32} {x2 : Int32} {x3 : Int32} {x4 : Int32} {x5 : Int32} {x6 : Int32} {t0 : Int32} {t1 : Int32} {z : ow_MS} {Q : (Int32 × ow_MS) → Prop} (H : Tt (fun K k => qm_X13_summands_6 K (q_X13_summands K k) x1 x2 x3 x4 x5 x6 t0 t1 z) Q) : Tt (fun K k => q_X13_summands K k 6 x1 x2 x3 x4 x5 x6 t0 t1 z) Q := w_un (fun _ _ => rfl) H
theorem u_X13_summands_10 {x1 : Int32} {x2 : Int32} {x3 : Int32} {x4 : Int32} {x5 : Int32} {x6 : Int32} {t0 : Int32} {t1 : Int32} {z : ow_MS} {Q : (Int32 × ow_MS) → Prop} (H : Tt (fun K k => qm_X13_summands_10 K (q_X13_summands K k) x1 x2 x3 x4 x5 x6 t0 t1 z) Q) : Tt (fun K k => q_X13_summands K k 10 x1 x2 x3 x4 x5 x6 t0 t1 z) Q := w_un (fun _ _ => rfl) H
theorem u_X13_summands_7 {x1 : Int32} {x2 : Int32} {x3 : Int32} {x4 : Int32} {x5 : Int32} {x6 : Int32} {t0 : Int32} {t1 : Int32} {z : ow_MS} {Q : (Int32 × ow_MS) → Prop} (H : Tt (fun K k => qm_X13_summands_7 K (q_X13_summands K k) x1 x2 x3 x4 x5 x6 t0 t1 z) Q) : Tt (fun K k => q_X13_summands K k 7 x1 x2 x3 x4 x5 x6 t0 t1 z) Q := w_un (fun _ _ => rfl) H
theorem u_X13_summands_9 {x1 : Int32} {x2 : Int32} {x3 : Int32} {x4 : Int32} {x5 : Int32} {x6 : Int32} {t0 : Int32} {t1 : Int32} {z : ow_MS} {Q : (Int32 × ow_MS) → Prop} (H : Tt (fun K k => qm_X13_summands_9 K (q_X13_summands K k) x1 x2 x3 x4 x5 x6 t0 t1 z) Q) : Tt (fun K k => q_X13_summands K k 9 x1 x2 x3 x4 x5 x6 t0 t1 z) Q := w_un (fun _ _ => rfl) H
theorem u_X13_summands_8 {x1 : Int32} {x2 : Int32} {x3 : Int32} {x4 : Int32} {x5 : Int32} {x6 : Int32} {t0 : Int32} {t1 : Int32} {z : ow_MS} {Q : (Int32 × ow_MS) → Prop} (H : Tt (fun K k => qm_X13_summands_8 K (q_X13_summands K k) x1 x2 x3 x4 x5 x6 t0 t1 z) Q) : Tt (fun K k => q_X13_summands K k 8 x1 x2 x3 x4 x5 x6 t0 t1 z) Q := w_un (fun _ _ => rfl) H
theorem u_X13_summands_1 {x1 : Int32} {x2 : Int32} {x3 : Int32} {x4 : Int32} {x5 : Int32} {x6 : Int32} {t0 : Int32} {t1 : Int32} {z : ow_MS} {Q : (Int32 × ow_MS) → Prop} (H : Tt (fun K k => qm_X13_summands_1 K (q_X13_summands K k) x1 x2 x3 x4 x5 x6 t0 t1 z) Q) : Tt (fun K k => q_X13_summands K k 1 x1 x2 x3 x4 x5 x6 t0 t1 z) Q := w_un (fun _ _ => rfl) H
theorem u_X13_summands_4 {x1 : Int32} {x2 : Int32} {x3 : Int32} {x4 : Int32} {x5 : Int32} {x6 : Int32} {t0 : Int32} {t1 : Int32} {z : ow_MS} {Q : (Int32 × ow_MS) → Prop} (H : Tt (fun K k => qm_X13_summands_4 K (q_X13_summands K k) x1 x2 x3 x4 x5 x6 t0 t1 z) Q) : Tt (fun K k => q_X13_summands K k 4 x1 x2 x3 x4 x5 x6 t0 t1 z) Q := w_un (fun _ _ => rfl) H
theorem u_X13_summands_2 {x1 : Int32} {x2 : Int32} {x3 : Int32} {x4 : Int32} {x5 : Int32} {x6 : Int32} {t0 : Int32} {t1 : Int32} {z : ow_MS} {Q : (Int32 × ow_MS) → Prop} (H : Tt (fun K k => qm_X13_summands_2 K (q_X13_summands K k) x1 x2 x3 x4 x5 x6 t0 t1 z) Q) : Tt (fun K k => q_X13_summands K k 2 x1 x2 x3 x4 x5 x6 t0 t1 z) Q := w_un (fun _ _ => rfl) H
theorem u_X13_summands_3 {x1 : Int32} {x2 : Int32} {x3 : Int32} {x4 : Int32} {x5 : Int32} {x6 : Int32} {t0 : Int32} {t1 : Int32} {z : ow_MS} {Q : (Int32 × ow_MS) → Prop} (H : Tt (fun K k => qm_X13_summands_3 K (q_X13_summands K k) x1 x2 x3 x4 x5 x6 t0 t1 z) Q) : Tt (fun K k => q_X13_summands K k 3 x1 x2 x3 x4 x5 x6 t0 t1 z) Q := w_un (fun _ _ => rfl) H
theorem tp_summands {d : Int32} (h : gI X z) : Te (fun K => qe_X13_summands K d z) (fun r => gI X r.2) := by
  have h1 := gI_1 (c := 0) h
  refine e_X13_summands ?_
  refine u_X13_summands_0 ?_; unfold qm_X13_summands_0
  refine w_wrF (w_has h1.2.1 (w_ifT rfl (w_fail h1)) (fun e A sg he hx hv hne => w_ifF (by decide) ?_))
  subst hx
  refine w_cs0 (to_open pn2 he hv) (fun z2 ⟨o1, f1⟩ => w_cs0 (tn_split pn2 (by have := o1.len; omega) (by have := o1.2.2.2; omega) (wkF_ok o1.wk) o1.1) (fun z3 ⟨f3, P, hpt⟩ => ?_))
  have h3 : gI X z3 := gI_net pn2 f3 (fun g hg => by rcases hg with hg | hg <;> omega) (gI_net pn2 f1 (fun g hg => by omega) h1)
  have o3 : oNet z3 2000 A sg := oNet_fr f3 (fun g hg => by rcases hg with hg | hg <;> omega) o1
  have hl := o3.len
  have hC := o3.2.2.2
  have hd := wkF_ok o3.wk
  obtain ⟨m, hk, hmz⟩ := mk_of (by omega) hpt
  have hP := hpt.2.1
  -- the second phase
  let J : ow_MS → Nat → (Nat → Nat) → Nat → Prop := fun y w cs S => gI X y ∧ gSumN y S ∧ wRs y w cs ∧ sN cs w + S ≤ 12
  have ph2 : ∀ (M w S : Nat) (cs : Nat → Nat) (x3 : Int32) (y : ow_MS), 2 * sN cs w ≤ M + w → J y w cs S → Tt (fun K i => q_X13_summands K i 5 (nI e) (nI w) x3 0 0 0 0 0 y) (fun r => gI X r.2) := by
    intro M
    induction M with
    | zero =>
      intro w S cs x3 y hM ⟨j1, j2, j3, j4⟩
      have := sN_ge w (fun k hk9 => (j3 k hk9).1)
      refine u_X13_summands_5 ?_; unfold qm_X13_summands_5
      exact w_leT (b := 0) (by omega) (by omega) (w_rdF rfl (w_some j1))
    | succ M ihM =>
      intro w S cs x3 y hM ⟨j1, j2, j3, j4⟩
      have hws := sN_ge w (fun k hk9 => (j3 k hk9).1)
      by_cases hw0 : w = 0
      · refine u_X13_summands_5 ?_; unfold qm_X13_summands_5
        exact w_leT (b := 0) (by omega) (by omega) (w_rdF rfl (w_some j1))
      · obtain ⟨w1, rfl⟩ : ∃ w1, w = w1 + 1 := ⟨w - 1, by omega⟩
        obtain ⟨hc1, B, sgB, hvB, hokB⟩ := j3 w1 (by omega)
        have hsum : sN cs (w1 + 1) = sN cs w1 + cs w1 := rfl
        have hVB := okF_len hokB
        refine u_X13_summands_5 ?_; unfold qm_X13_summands_5
        rw [pk_m1, show (32 : Int32) * nI w1 = nI (32 * w1) from pk_mul 32 w1]
        refine w_leF (b := 0) (by omega) (by omega) (w_cs0 (to_unpack (by omega) ml37 (by omega) (by omega) hvB) (fun y1 ⟨a1, a2, a3⟩ => w_cs0 (to_link hvB a1 a2) (fun y2 ⟨b1, b2⟩ => ?_)))
        have F2 : fr (fun g => 1001 ≤ g ∧ g ≤ 1011) y y2 := fr_tr (fr_mono (fun g hg => by omega) a3) (fr_mono (fun g hg => by omega) b2)
        have hBl := b1.len
        have hBC := b1.2.2.2
        have hdB := wkF_ok b1.wk
        -- what holds while a gap pair is looked for
        let I : ow_MS → Prop := fun y4 => fr (fun g => g = 38) y2 y4
        have oI : ∀ {y4 : ow_MS}, I y4 → oNet y4 1000 B sgB := fun hI => oNet_fr hI (fun g hg => by omega) b1
        have gIy : ∀ {y4 : ow_MS}, I y4 → gI X y4 := fun hI => gI_fr hI (fun g hg => by rw [hg]; decide) (gI_net pn1 F2 (fun g hg => by omega) j1)
        have e37 : ∀ {y4 : ow_MS}, I y4 → y4.2.1 37 = y.2.1 37 := fun hI => by rw [(hI 37 (by omega)).2.1, (F2 37 (by omega)).2.1]
        have sumI : ∀ {y4 : ow_MS}, I y4 → gSumN y4 S := fun hI => by
          obtain ⟨q1, q2, q3⟩ := j2
          refine ⟨by rw [(hI 36 (by omega)).1, (F2 36 (by omega)).1]; exact q1, fun k hk9 => by rw [(hI 39 (by omega)).2.1, (F2 39 (by omega)).2.1]; exact q2 k hk9, fun j hj => dRow_fr hI (by omega) (dRow_fr F2 (by omega) (q3 j hj))⟩
        let PT : ow_MS → Prop := fun y4 => ∃ c g h9, rEa y4 B c g h9 ∧ c < B.length ∧ rn_b B c ≤ g ∧ g < h9 ∧ h9 < rn_b B (c + 1) ∧ ∀ v, v < B.flatten.length → y4.2.1 38 v = 1 → y4.2.1 38 (mtf B v) = 1
        have c12 : ∀ (x3 x4 : Int32) (w2 S2 : Nat) (cs2 : Nat → Nat) (y5 : ow_MS), 2 * sN cs2 w2 ≤ M + w2 → J y5 w2 cs2 S2 → Tt (fun K i => q_X13_summands K i 12 (nI e) (nI w2) x3 x4 0 0 0 0 y5) (fun r => gI X r.2) := by
          intro x3 x4 w2 S2 cs2 y5 hM2 hJ2
          refine u_X13_summands_12 ?_; unfold qm_X13_summands_12
          exact ihM w2 S2 cs2 x3 y5 hM2 hJ2
        have c11 : ∀ (x3 x4 : Int32) (y4 : ow_MS), I y4 → (x3 = 0 ∨ x3 = 1 ∧ PT y4) → Tt (fun K i => q_X13_summands K i 11 (nI e) (nI w1) x3 x4 0 0 0 0 y4) (fun r => gI X r.2) := by
          intro x3 x4 y4 hI hx
          have hvB4 : vRow y4 37 (32 * w1) B sgB := ⟨⟨hvB.1.1, hvB.1.2.1, by rw [e37 hI]; exact hvB.1.2.2.1, by rw [e37 hI]; exact hvB.1.2.2.2⟩, hvB.2⟩
          have wr4 : wRs y4 w1 cs := wRs_eq (fun i _ => by rw [e37 hI]) (fun k hk9 => j3 k (by omega))
          rcases hx with hx | ⟨hx, c, g, h9, pE, pc, pg, pgh, ph, pcl⟩
          · subst hx
            refine u_X13_summands_11 ?_; unfold qm_X13_summands_11
            rw [show (32 : Int32) * nI w1 = nI (32 * w1) from pk_mul 32 w1]
            refine w_ifT rfl (w_cs0 (tp_addS (by omega) (by omega) (sumI hI) hvB4) (fun y5 ⟨k1, k2⟩ => c12 0 x4 w1 (S + 1) cs y5 (by omega) ⟨?_, k1, wRs_eq (fun i _ => by rw [(k2 37 (by omega)).2.1]) wr4, by omega⟩))
            obtain ⟨i1, i2, i3, i4, i5, i6, i7⟩ := gIy hI
            exact ⟨gTape_fr k2 (by omega) i1, gRows_fr k2 (by omega) i2, gList_fr k2 (by omega) (by omega) (by omega) i3, ⟨S + 1, by omega, k1⟩, gCash_fr k2 (by omega) (by omega) (by omega) (by omega) (by omega) i5, gBrs_fr k2 (by omega) (by omega) (by omega) i6, gX_fr k2 (fun g hg => by omega) i7⟩
          · subst hx
            have r01 : ∀ v, v < B.flatten.length → y4.2.1 38 v = 0 ∨ y4.2.1 38 v = 1 := fun v hv9 => (pE v hv9).1
            have hbl := rn_b_le B (c + 1)
            have cntS := cE_01 (r := y4.2.1 38) B.flatten.length r01
            have hh1 : y4.2.1 38 h9 = 1 := ((pE h9 (by omega)).2 (rn_c_of B c h9 (by omega) ph)).mpr ⟨pgh, Nat.le_refl _⟩
            have hg0 : y4.2.1 38 g = 0 := (r01 g (by omega)).resolve_right (fun e9 => by
              have := ((pE g (by omega)).2 (rn_c_of B c g pg (by omega))).mp e9
              omega)
            have p1 := cE_pos hh1 B.flatten.length (by omega)
            have p0 := cE_pos hg0 B.flatten.length (by omega)
            have pcl0 : ∀ v, v < B.flatten.length → y4.2.1 38 v = 0 → y4.2.1 38 (mtf B v) = 0 := fun v hv9 hv0 => (r01 _ (mtf_lt hdB hv9)).resolve_right (fun e9 => by
              have := pcl _ (mtf_lt hdB hv9) e9
              rw [mtf_mtf hdB hv9, hv0] at this
              exact absurd this (by decide))
            refine u_X13_summands_11 ?_; unfold qm_X13_summands_11
            rw [nI_1, show nI w1 + 2 = nI (w1 + 2) from nI_add w1 2]
            refine w_ifF (by decide) (w_cs0 (tp_waits (b := true) pn1 (by omega) (by omega) (oI hI) pcl) (fun y5 ⟨⟨A5, s5, c5, v5, k5, n5⟩, f5, i5⟩ => ?_))
            have e38 : y5.2.1 38 = y4.2.1 38 := (f5 38 (by omega)).2.1
            have o5 : oNet y5 1000 B sgB := oNet_fr f5 (fun g hg => by omega) (oI hI)
            refine w_cs0 (tp_waits (b := false) (at9 := w1 + 1) pn1 (by omega) (by omega) o5 (by rw [e38]; exact pcl0)) (fun y6 ⟨⟨A6, s6, c6, v6, k6, n6⟩, f6, i6⟩ => ?_)
            rw [e38] at n6
            have n5 : 2 * c5 = cE (y4.2.1 38) 1 B.flatten.length := n5
            have n6 : 2 * c6 = cE (y4.2.1 38) 0 B.flatten.length := n6
            have eqS : ∀ k, k ≤ w1 → sN (fun k => if k < w1 then cs k else if k = w1 then c5 else c6) k = sN cs k := fun k hk9 => sN_congr k (fun p hp => by
              show (if p < w1 then cs p else if p = w1 then c5 else c6) = cs p
              rw [if_pos (by omega)])
            have hs2 : sN (fun k => if k < w1 then cs k else if k = w1 then c5 else c6) (w1 + 2) = sN cs w1 + c5 + c6 := by
              show sN (fun k => if k < w1 then cs k else if k = w1 then c5 else c6) w1 + (if w1 < w1 then cs w1 else if w1 = w1 then c5 else c6) + (if w1 + 1 < w1 then cs (w1 + 1) else if w1 + 1 = w1 then c5 else c6) = _
              rw [eqS w1 (Nat.le_refl _), if_neg (by omega), if_pos rfl, if_neg (by omega), if_neg (by omega)]
            refine c12 1 x4 (w1 + 2) S (fun k => if k < w1 then cs k else if k = w1 then c5 else c6) y6 (by omega) ⟨?_, ?_, fun k hk9 => ?_, by omega⟩
            · exact gI_fr f6 (fun g hg => by unfold per; omega) (gI_fr f5 (fun g hg => by unfold per; omega) (gIy hI))
            · obtain ⟨q1, q2, q3⟩ := sumI hI
              exact ⟨by rw [(f6 36 (by omega)).1, (f5 36 (by omega)).1]; exact q1, fun k hk9 => by rw [(f6 39 (by omega)).2.1, (f5 39 (by omega)).2.1]; exact q2 k hk9, fun j hj => dRow_fr f6 (by omega) (dRow_fr f5 (by omega) (q3 j hj))⟩
            · show 1 ≤ (if k < w1 then cs k else if k = w1 then c5 else c6) ∧ _
              by_cases hk1 : k < w1
              · have := wRs_eq (z1 := y6) (fun i hi => by rw [i6 i (by omega), i5 i (by omega)]) wr4 k hk1
                show 1 ≤ (if k < w1 then cs k else if k = w1 then c5 else c6) ∧ ∃ A sg, vRow y6 37 (32 * k) A sg ∧ okF A.flatten (if k < w1 then cs k else if k = w1 then c5 else c6)
                rw [if_pos hk1]
                exact this
              · by_cases hk2 : k = w1
                · show 1 ≤ (if k < w1 then cs k else if k = w1 then c5 else c6) ∧ ∃ A sg, vRow y6 37 (32 * k) A sg ∧ okF A.flatten (if k < w1 then cs k else if k = w1 then c5 else c6)
                  rw [if_neg hk1, if_pos hk2, hk2]
                  refine ⟨by omega, A5, s5, ⟨⟨v5.1.1, v5.1.2.1, by rw [i6 _ (by omega)]; exact v5.1.2.2.1, fun i t hi => ?_⟩, v5.2⟩, k5⟩
                  have := (List.getElem?_eq_some_iff.mp hi).1
                  have := v5.1.1
                  rw [i6 _ (by omega)]
                  exact v5.1.2.2.2 i t hi
                · show 1 ≤ (if k < w1 then cs k else if k = w1 then c5 else c6) ∧ ∃ A sg, vRow y6 37 (32 * k) A sg ∧ okF A.flatten (if k < w1 then cs k else if k = w1 then c5 else c6)
                  rw [if_neg hk1, if_neg hk2, show k = w1 + 1 by omega]
                  exact ⟨by omega, A6, s6, v6, k6⟩
        -- the search
        have l6 : ∀ (dd c : Nat) (x3 : Int32) (y4 : ow_MS), c + dd = B.length → I y4 → (x3 = 0 ∨ x3 = 1 ∧ PT y4) → Tt (fun K i => q_X13_summands K i 6 (nI e) (nI w1) x3 (nI c) 0 0 0 0 y4) (fun r => gI X r.2) := by
          intro dd
          induction dd with
          | zero =>
            intro c x3 y4 hc hI hx
            refine u_X13_summands_6 ?_; unfold qm_X13_summands_6
            exact w_rdF (lk_C (oI hI).1) (w_leT (by omega) (by omega) (c11 x3 _ y4 hI hx))
          | succ dd ih6 =>
            intro c x3 y4 hc hI hx
            have m1 := rn_b_mono B c
            have m2 := rn_b_le B (c + 1)
            have c10 : ∀ (x5 x3 : Int32) (y4 : ow_MS), I y4 → (x3 = 0 ∨ x3 = 1 ∧ PT y4) → Tt (fun K i => q_X13_summands K i 10 (nI e) (nI w1) x3 (nI c) x5 0 0 0 y4) (fun r => gI X r.2) := by
              intro x5 x3 y4 hI hx
              refine u_X13_summands_10 ?_; unfold qm_X13_summands_10
              rw [nI_1]
              exact ih6 (c + 1) x3 y4 (by omega) hI hx
            have l7 : ∀ (dg g : Nat) (x3 : Int32) (y4 : ow_MS), g + dg = rn_b B (c + 1) → rn_b B c ≤ g → I y4 → (x3 = 0 ∨ x3 = 1 ∧ PT y4) → Tt (fun K i => q_X13_summands K i 7 (nI e) (nI w1) x3 (nI c) (nI g) 0 0 0 y4) (fun r => gI X r.2) := by
              intro dg
              induction dg with
              | zero =>
                intro g x3 y4 hg hlo hI hx
                refine u_X13_summands_7 ?_; unfold qm_X13_summands_7
                rw [nI_1]
                exact w_rdI (pl3 pn1) rfl (by omega) (lk_b (oI hI).1 (by omega)) (w_leT (by omega) (by omega) (c10 _ x3 y4 hI hx))
              | succ dg ih7 =>
                intro g x3 y4 hg hlo hI hx
                have c9 : ∀ (x6 x3 : Int32) (y4 : ow_MS), I y4 → (x3 = 0 ∨ x3 = 1 ∧ PT y4) → Tt (fun K i => q_X13_summands K i 9 (nI e) (nI w1) x3 (nI c) (nI g) x6 0 0 y4) (fun r => gI X r.2) := by
                  intro x6 x3 y4 hI hx
                  refine u_X13_summands_9 ?_; unfold qm_X13_summands_9
                  rw [nI_1]
                  exact ih7 (g + 1) x3 y4 (by omega) (by omega) hI hx
                have l8 : ∀ (dh h9 : Nat) (x3 : Int32) (y4 : ow_MS), h9 + dh = rn_b B (c + 1) → g < h9 → I y4 → (x3 = 0 ∨ x3 = 1 ∧ PT y4) → Tt (fun K i => q_X13_summands K i 8 (nI e) (nI w1) x3 (nI c) (nI g) (nI h9) 0 0 y4) (fun r => gI X r.2) := by
                  intro dh
                  induction dh with
                  | zero =>
                    intro h9 x3 y4 hh hlo8 hI hx
                    refine u_X13_summands_8 ?_; unfold qm_X13_summands_8
                    rw [nI_1]
                    exact w_rdI (pl3 pn1) rfl (by omega) (lk_b (oI hI).1 (by omega)) (w_leT (by omega) (by omega) (c9 _ x3 y4 hI hx))
                  | succ dh ih8 =>
                    intro h9 x3 y4 hh hlo8 hI hx
                    refine u_X13_summands_8 ?_; unfold qm_X13_summands_8
                    rw [nI_1, nI_1]
                    refine w_rdI (pl3 pn1) rfl (by omega) (lk_b (oI hI).1 (by omega)) (w_leF (by omega) (by omega) (w_if (fun _ => w_cs1 (tp_parted (oI hI) (by omega) hlo hlo8 (by omega)) (fun a y5 ⟨r1, r2, r3⟩ => ?_)) (fun _ => c9 _ x3 y4 hI hx)))
                    have r1 : fr (fun i => i = 38) y4 y5 := r1
                    have r2 : a = 0 ∨ a = 1 := r2
                    have r3 : a = 1 → rEa y5 B c g h9 ∧ ∀ v, v < B.flatten.length → y5.2.1 38 v = 1 → y5.2.1 38 (mtf B v) = 1 := r3
                    exact ih8 (h9 + 1) a y5 (by omega) (by omega) (fr_tr hI r1) (r2.imp id (fun e9 => ⟨e9, c, g, h9, (r3 e9).1, by omega, hlo, hlo8, by omega, (r3 e9).2⟩))
                refine u_X13_summands_7 ?_; unfold qm_X13_summands_7
                rw [nI_1, nI_1]
                exact w_rdI (pl3 pn1) rfl (by omega) (lk_b (oI hI).1 (by omega)) (w_leF (by omega) (by omega) (w_if (fun _ => l8 (rn_b B (c + 1) - (g + 1)) (g + 1) x3 y4 (by omega) (by omega) hI hx) (fun _ => c10 _ x3 y4 hI hx)))
            refine u_X13_summands_6 ?_; unfold qm_X13_summands_6
            exact w_rdF (lk_C (oI hI).1) (w_leF (by omega) (by omega) (w_if (fun _ => w_rdI (pl3 pn1) rfl (by omega) (lk_b (oI hI).1 (by omega)) (l7 (rn_b B (c + 1) - rn_b B c) (rn_b B c) x3 y4 (by omega) (Nat.le_refl _) hI hx)) (fun _ => c11 x3 _ y4 hI hx)))
        exact l6 B.length 0 0 y2 (by omega) fr_rf (Or.inl rfl)
  -- the first phase: the parts
  let K1 : ow_MS → Prop := fun y => fr (fun g => 2 ≤ g ∧ g ≤ 9 ∨ g = 37 ∨ g = 38 ∨ 3001 ≤ g ∧ g ≤ 3013) z3 y
  have oK : ∀ {y : ow_MS}, K1 y → oNet y 2000 A sg := fun hf => oNet_fr hf (fun g hg => by omega) o3
  have ph1 : ∀ (k p w : Nat) (cs : Nat → Nat) (y : ow_MS), p + k = P → K1 y → wRs y w cs → 2 * sN cs w ≤ sN (fun q => (pvl A m q A.flatten.length).length) p → Tt (fun K i => q_X13_summands K i 1 (nI e) (nI w) (nI p) 0 0 0 0 0 y) (fun r => gI X r.2) := by
    intro k
    have e1 : sN (fun q => (pvl A m q A.flatten.length).length) P = A.flatten.length := sN_fib (g := fun v => m (rn_c A v)) _ (fun v hv9 => hk.1 _ (rn_c_in A v hv9).1)
    have mon : ∀ a d9, sN (fun q => (pvl A m q A.flatten.length).length) a ≤ sN (fun q => (pvl A m q A.flatten.length).length) (a + d9) := by
      intro a d9
      induction d9 with
      | zero => exact Nat.le_refl _
      | succ d9 ih9 => exact Nat.le_trans ih9 (Nat.le_add_right _ _)
    induction k with
    | zero =>
      intro p w cs y hp hf hw hs
      have hpP : p = P := by omega
      rw [hpP, e1] at hs
      have e13 : y.1 2013 = nI P := by rw [(hf 2013 (by omega)).1]; exact hpt.1
      have hws := sN_ge w (fun k hk9 => (hw k hk9).1)
      refine u_X13_summands_1 ?_; unfold qm_X13_summands_1
      refine w_rdF e13 (w_leT (by omega) (by omega) (w_wrF ?_))
      have f5 : fr (fun g => g = 36) y (usF y 36 0) := fr_F rfl
      have hI5 : gI X y := gI_fr hf (fun g hg => by unfold per; omega) h3
      refine ph2 24 w 0 cs _ _ (by omega) ⟨?_, ⟨po_usF_at, fun k hk9 => by omega, fun j hj => by omega⟩, wRs_eq (fun i _ => rfl) hw, by omega⟩
      obtain ⟨i1, i2, i3, i4, i5, i6, i7⟩ := hI5
      exact ⟨gTape_fr f5 (by omega) i1, gRows_fr f5 (by omega) i2, gList_fr f5 (by omega) (by omega) (by omega) i3, ⟨0, by omega, po_usF_at, fun k hk9 => by omega, fun j hj => by omega⟩, gCash_fr f5 (by omega) (by omega) (by omega) (by omega) (by omega) i5, gBrs_fr f5 (by omega) (by omega) (by omega) i6, gX_fr f5 (fun g hg => by omega) i7⟩
    | succ k ih =>
      intro p w cs y hp hf hw hs
      have e13 : y.1 2013 = nI P := by rw [(hf 2013 (by omega)).1]; exact hpt.1
      have hws := sN_ge w (fun k hk9 => (hw k hk9).1)
      have hsn : sN (fun q => (pvl A m q A.flatten.length).length) (p + 1) = sN (fun q => (pvl A m q A.flatten.length).length) p + (pvl A m p A.flatten.length).length := rfl
      have hpm := mon (p + 1) k
      rw [show p + 1 + k = P by omega, e1] at hpm
      have l2 : ∀ (dd v : Nat) (x4 : Int32) (y : ow_MS), v + dd = A.flatten.length → K1 y → wRs y w cs → (∀ v', v' < v → y.2.1 38 v' = bZ (decide (m (rn_c A v') = p))) → ((x4 = 0 ∧ ∀ v', v' < v → m (rn_c A v') ≠ p) ∨ x4 = 1 ∧ ∃ v', v' < v ∧ m (rn_c A v') = p) → Tt (fun K i => q_X13_summands K i 2 (nI e) (nI w) (nI p) x4 (nI v) 0 0 0 y) (fun r => gI X r.2) := by
        intro dd
        induction dd with
        | zero =>
          intro v x4 y hv9 hf hw hr hx
          have hvV : v = A.flatten.length := by omega
          rw [hvV] at hr hx ⊢
          have c4 : ∀ (x4 : Int32) (w2 : Nat) (cs2 : Nat → Nat) (y2 : ow_MS), K1 y2 → wRs y2 w2 cs2 → 2 * sN cs2 w2 ≤ sN (fun q => (pvl A m q A.flatten.length).length) (p + 1) → Tt (fun K i => q_X13_summands K i 4 (nI e) (nI w2) (nI p) x4 (nI A.flatten.length) 0 0 0 y2) (fun r => gI X r.2) := by
            intro x4 w2 cs2 y2 hf2 hw2 hs2
            refine u_X13_summands_4 ?_; unfold qm_X13_summands_4
            rw [nI_1]
            exact ih (p + 1) w2 cs2 y2 (by omega) hf2 hw2 hs2
          refine u_X13_summands_2 ?_; unfold qm_X13_summands_2
          refine w_rdF (oK hf).1.V (w_leT (by omega) (Nat.le_refl _) ?_)
          rcases hx with ⟨hx, -⟩ | ⟨hx, v0, hv0, hm0⟩
          · subst hx
            exact w_ifT rfl (c4 0 w cs y hf hw (by omega))
          · subst hx
            have hclo : ∀ v', v' < A.flatten.length → y.2.1 38 v' = bZ true → y.2.1 38 (mtf A v') = bZ true := by
              intro v' hv' h9
              have hml := mtf_lt hd hv'
              rw [hr _ hv'] at h9
              have hmp : m (rn_c A v') = p := by
                by_cases h8 : m (rn_c A v') = p
                · exact h8
                · rw [decide_eq_false h8] at h9
                  exact absurd h9 (by decide)
              rw [hr _ hml, ← hk.2.1 _ _ ⟨v', mtf A v', mtf_mt hd hv', rfl, rfl⟩, hmp, decide_eq_true rfl]
            rw [nI_1]
            refine w_ifF (by decide) (w_cs0 (tp_waits (b := true) pn2 (by omega) (by omega) (oK hf) hclo) (fun y5 ⟨⟨A5, s5, c5, v5, k5, n5⟩, f5, i5⟩ => ?_))
            have n5 : 2 * c5 = cE (y.2.1 38) 1 A.flatten.length := n5
            have hcp : cE (y.2.1 38) 1 A.flatten.length = (pvl A m p A.flatten.length).length := by
              rw [← cE_filter]
              unfold pvl
              congr 1
              refine List.filter_congr (fun v' hv' => ?_)
              rw [hr _ (List.mem_range.mp hv')]
              by_cases h8 : m (rn_c A v') = p
              · rw [decide_eq_true h8]; rfl
              · rw [decide_eq_false h8]; rfl
            have hpos : 1 ≤ cE (y.2.1 38) 1 A.flatten.length := cE_pos (v := v0) (by rw [hr v0 hv0, hm0, decide_eq_true rfl]; rfl) _ hv0
            have hs2 : sN (fun k => if k < w then cs k else c5) (w + 1) = sN cs w + c5 := by
              show sN (fun k => if k < w then cs k else c5) w + (if w < w then cs w else c5) = _
              rw [if_neg (by omega), sN_congr w (fun q hq => by show (if q < w then cs q else c5) = cs q; rw [if_pos hq])]
            refine c4 1 (w + 1) (fun k => if k < w then cs k else c5) y5 (fr_tr hf (fr_mono (fun g hg => by omega) f5)) (fun k hk9 => ?_) (by omega)
            show 1 ≤ (if k < w then cs k else c5) ∧ ∃ A sg, vRow y5 37 (32 * k) A sg ∧ okF A.flatten (if k < w then cs k else c5)
            by_cases hk1 : k < w
            · rw [if_pos hk1]
              exact wRs_eq (z1 := y5) (fun i hi => i5 i (by omega)) hw k hk1
            · rw [if_neg hk1, show k = w by omega]
              exact ⟨by omega, A5, s5, v5, k5⟩
        | succ dd ihd =>
          intro v x4 y hv9 hf hw hr hx
          have hvl : v < A.flatten.length := by omega
          have hcl := (rn_c_in A v hvl).1
          have e12 : y.2.1 2012 (rn_c A v) = nI (m (rn_c A v)) := by
            rw [(hf 2012 (by omega)).2.1]
            exact hmz _ hcl
          have hmP := hk.1 _ hcl
          have c3 : ∀ (b : Bool), decide (m (rn_c A v) = p) = b → Tt (fun K i => q_X13_summands K i 3 (nI e) (nI w) (nI p) x4 (nI v) 0 (bZ b) (nI v) y) (fun r => gI X r.2) := by
            intro b hb
            refine u_X13_summands_3 ?_; unfold qm_X13_summands_3
            rw [nI_1]
            refine w_wrZ ml38 rfl (by omega) (w_rdI ml38 rfl (by omega) (x := bZ b) (by rw [po_usI_at]; cases b <;> rfl) ?_)
            have f9 : fr (fun g => g = 38) y (usI y 38 v (vp_nar .boolean (bZ b))) := fr_I rfl
            refine ihd (v + 1) (x4 ||| bZ b) _ (by omega) (fr_tr hf (fr_mono (fun g hg => by omega) f9)) (wRs_eq (fun i _ => by rw [(f9 37 (by omega)).2.1]) hw) (fun v' hv' => ?_) ?_
            · by_cases hvv : v' = v
              · rw [hvv, po_usI_at, hb]
                cases b <;> rfl
              · rw [po_usI_ne hvv]
                exact hr v' (by omega)
            · rcases hx with ⟨e0, hall⟩ | ⟨e0, v0, hv0, hm0⟩
              · subst e0
                cases b with
                | true => exact Or.inr ⟨by decide, v, by omega, of_decide_eq_true hb⟩
                | false =>
                  refine Or.inl ⟨by decide, fun v' hv' => ?_⟩
                  by_cases hvv : v' = v
                  · rw [hvv]; exact of_decide_eq_false hb
                  · exact hall v' (by omega)
              · subst e0
                exact Or.inr ⟨by cases b <;> decide, v0, by omega, hm0⟩
          refine u_X13_summands_2 ?_; unfold qm_X13_summands_2
          exact w_rdF (oK hf).1.V (w_leF (by omega) (by omega) (w_rdI (pl8 pn2) rfl (by omega) (lk_c (oK hf).1 hvl) (w_rdI (pl12 pn2) rfl (by omega) e12 (w_eqN (by omega) (by omega) (fun h9 => c3 true (decide_eq_true h9)) (fun h9 => c3 false (decide_eq_false h9))))))
      refine u_X13_summands_1 ?_; unfold qm_X13_summands_1
      exact w_rdF e13 (w_leF (by omega) (by omega) (l2 A.flatten.length 0 0 y (by omega) hf hw (fun v' hv' => by omega) (Or.inl ⟨rfl, fun v' hv' => by omega⟩)))
  exact ph1 P 0 0 (fun _ => 0) z3 (by omega) fr_rf (fun k hk9 => by omega) (Nat.le_refl _)
end SUM2
end
section
/-! 99zzze.rank -/
/-! rank -/
theorem rk_ix {x : Int64} {y : Int32} (h1 : ¬ lg_cmp x 0 < 0) (h2 : ¬ 0 < lg_cmp x 9) (h3 : ¬ y < -40) (h4 : y < 40) : ∃ i, i < 800 ∧ 80 * x.toInt32 + y + 40 = nI i := by
  obtain ⟨a, ha, rfl⟩ := pk_lOf (fun h => h1 ((lg_cmp_lt _ _).mpr h))
  have h6 : a ≤ 9 := by
    rcases Nat.lt_or_ge 9 a with q | q
    · exact absurd ((lg_cmp_gt _ _).mpr ((pk_lLT (a := 9) (by decide) ha).mpr q)) h2
    · exact q
  have h7 : -40 ≤ y.toInt := Int32.le_iff_toInt_le.mp (Int32.not_lt.mp h3)
  have h8 : y.toInt < 40 := Int32.lt_iff_toInt_lt.mp h4
  have h9 : (y + 40).toInt = y.toInt + 40 := by
    rw [Int32.toInt_add, show (40 : Int32).toInt = 40 from by decide]
    exact Int.bmod_eq_of_le (by omega) (by omega)
  obtain ⟨b, hb, e⟩ := vp_in_of (x := y + 40) (n := 80) (vp_in_iff.mpr ⟨by omega, by omega⟩) (by decide)
  refine ⟨80 * a + b, by omega, ?_⟩
  rw [lN_i, Int32.add_assoc, e]
  have e1 : 80 * nI a = nI (80 * a) := pk_mul 80 a
  rw [e1, nI_add]
section RK
variable {X : (Nat → Nat → Int32) → Prop} {z : ow_MS}
theorem u_X13_rank_1 {x1 : Int32} {x2 : Int32} {w3 : Int64} {z : ow_MS} {Q : (Int32 × ow_MS) → Prop} (H : Tt (fun K k => qm_X13_rank_1 K (q_X13_rank K k) x1 x2 w3 z) Q) : Tt (fun K k => q_X13_rank K k 1 x1 x2 w3 z) Q := w_un (fun _ _ => rfl) H
theorem e_X13_rank {x1 : Int32} {x2 : Int32} {z : ow_MS} {Q : (Int32 × ow_MS) → Prop} (H : Tt (fun K k => q_X13_rank K k 0 x1 x2 0 z) Q) : Te (fun K => qe_X13_rank K x1 x2 z) Q := w_te H
theorem u_X13_rank_0 {x1 : Int32} {x2 : Int32} {w3 : Int64} {z : ow_MS} {Q : (Int32 × ow_MS) → Prop} (H : Tt (fun K k => qm_X13_rank_0 K (q_X13_rank K k) x1 x2 w3 z) Q) : Tt (fun K k => q_X13_rank K k 0 x1 x2 w3 z) Q := w_un (fun _ _ => rfl) H
theorem tp_rank {i q : Int32} (h : gI X z) : Te (fun K => qe_X13_rank K i q z) (fun r => gI X r.2) := by
  have h1 := gI_1 (c := 0) h
  have c1 : ∀ w : Int64, Tt (fun K k => q_X13_rank K k 1 i q w (usF z 1 0)) (fun r => gI X r.2) := by
    intro w
    refine u_X13_rank_1 ?_; unfold qm_X13_rank_1
    exact w_some h1
  refine e_X13_rank ?_
  refine u_X13_rank_0 ?_; unfold qm_X13_rank_0
  refine w_wrF (w_rdF rfl (w_if (fun _ => c1 _) (fun a1 => w_if (fun _ => c1 _) (fun a2 => w_if (fun _ => c1 _) (fun a3 => w_if (fun a4 => ?_) (fun _ => c1 _))))))
  obtain ⟨k, hk, e⟩ := rk_ix a1 a2 a3 a4
  exact w_rdI ml87 e hk rfl (w_some h1)
end RK
end
section
/-! 99zzzf.smooth2 -/
/-! nets that are built, where the first visits keep their places -/
def bm2 (v : Nat) (z : ow_MS) (n : Nat) (A : rn_L) (P : Nat → Prop) (q : Nat) : Prop := ∃ (C : List (List Nat)) (l : List Nat), C.length = q ∧ rn_At z n (C.map (List.map (vAt A))) (l.map (vAt A)) ∧ (C.flatten ++ l).Nodup ∧ (∀ j, j ∈ C.flatten ++ l ↔ P j) ∧ ∀ j, j < v → P j → (C.flatten ++ l)[j]? = some j
def bmE2 (v : Nat) (z : ow_MS) (n : Nat) (A : rn_L) (P : Nat → Prop) (q : Nat) : Prop := ∃ (C : List (List Nat)), C.length = q ∧ rn_At z n (C.map (List.map (vAt A))) [] ∧ C.flatten.Nodup ∧ (∀ j, j ∈ C.flatten ↔ P j) ∧ ∀ j, j < v → P j → C.flatten[j]? = some j
theorem bmE2.b {v : Nat} {z : ow_MS} {n q : Nat} {A : rn_L} {P : Nat → Prop} (h : bmE2 v z n A P q) : bm2 v z n A P q := by
  obtain ⟨C, h1, h2, h3, h4, h5⟩ := h
  exact ⟨C, [], h1, h2, by rw [List.append_nil]; exact h3, by rw [List.append_nil]; exact h4, by rw [List.append_nil]; exact h5⟩
theorem bm2_eq {v : Nat} {z : ow_MS} {n q : Nat} {A : rn_L} {P P2 : Nat → Prop} (h : bm2 v z n A P q) (he : ∀ j, P j ↔ P2 j) : bm2 v z n A P2 q := by
  obtain ⟨C, l, h1, h2, h3, h4, h5⟩ := h
  exact ⟨C, l, h1, h2, h3, fun j => (h4 j).trans (he j), fun j hj h9 => h5 j hj ((he j).mpr h9)⟩
theorem bmE2_eq {v : Nat} {z : ow_MS} {n q : Nat} {A : rn_L} {P P2 : Nat → Prop} (h : bmE2 v z n A P q) (he : ∀ j, P j ↔ P2 j) : bmE2 v z n A P2 q := by
  obtain ⟨C, h1, h2, h3, h4, h5⟩ := h
  exact ⟨C, h1, h2, h3, fun j => (h4 j).trans (he j), fun j hj h9 => h5 j hj ((he j).mpr h9)⟩
theorem bmE2_fr {v : Nat} {F : Nat → Prop} {z z1 : ow_MS} {n q : Nat} {A : rn_L} {P : Nat → Prop} (hf : fr F z z1) (hF : ∀ g, F g → g < n + 1 ∨ n + 5 < g) (h : bmE2 v z n A P q) : bmE2 v z1 n A P q := by
  obtain ⟨C, h1, h2, h3⟩ := h
  exact ⟨C, h1, fr_At hf hF h2, h3⟩
theorem bm2_clear {v n : Nat} {z : ow_MS} {A : rn_L} (hn : mw_net n) : Te (fun K => qe_X12_clear K n z) (fun z1 => bmE2 v z1 n A (fun _ => False) 0 ∧ fr (fun g => g = n + 1 ∨ g = n + 2 ∨ g = n + 3) z z1) := by
  refine w_monoE (tn_clear hn) (fun z1 ⟨h1, h2⟩ => ⟨⟨[], rfl, h1, List.nodup_nil, fun j => by simp, fun j _ h9 => h9.elim⟩, h2⟩)
theorem bm2_add {v n q i : Nat} {x u : Int32} {z : ow_MS} {A : rn_L} {P : Nat → Prop} (hn : mw_net n) (hV : A.flatten.length < 40) (hP : ∀ j, P j → j < A.flatten.length) (hi : ¬ P i) (hpos : i < v → ∀ j, P j ↔ j < i) (hx : x = nI (crs A i)) (hu : u = nI (uns A i)) (h : bm2 v z n A P q) : Te (fun K => qe_X12_add K n x u z) (fun z1 => bm2 v z1 n A (fun j => P j ∨ j = i) q ∧ fr (fun g => g = n + 1 ∨ g = n + 4 ∨ g = n + 5) z z1) := by
  obtain ⟨C, l, h1, h2, h3, h4, h5⟩ := h
  have hlen : (C.flatten ++ l).length ≤ A.flatten.length := by
    have := nodup_le (C.flatten ++ l) (List.range A.flatten.length) h3 (fun j hj => List.mem_range.mpr (hP j ((h4 j).mp hj)))
    rw [List.length_range] at this
    exact this
  rw [hx, hu]
  refine w_monoE (tn_add hn h2 (by rw [fl_map, ← List.map_append, List.length_map]; omega)) (fun z1 ⟨g1, g2⟩ => ⟨⟨C, l ++ [i], h1, by rw [List.map_append]; exact g1, ?_, fun j => ?_, fun j hj hPj => ?_⟩, g2⟩)
  · rw [← List.append_assoc, List.nodup_append]
    refine ⟨h3, by simp, fun a ha b hb e => hi ((h4 i).mp ?_)⟩
    have : b = i := by simpa using hb
    rw [← this, ← e]
    exact ha
  · rw [← List.append_assoc, List.mem_append, h4 j, List.mem_singleton]
  · rw [← List.append_assoc]
    rcases hPj with hPj | hPj
    · have h9 := h5 j hj hPj
      rw [List.getElem?_append_left (List.getElem?_eq_some_iff.mp h9).1]
      exact h9
    · subst hPj
      have hl : (C.flatten ++ l).length = j := by
        have := nodup_eq h3 (List.nodup_range (n := j)) (fun a => by rw [h4 a, hpos hj a, List.mem_range])
        rw [this, List.length_range]
      rw [List.getElem?_append_right (by omega), hl, Nat.sub_self]
      rfl
theorem bm2_end {v n q : Nat} {z : ow_MS} {A : rn_L} {P : Nat → Prop} (hn : mw_net n) (hq : q < 39) (h : bm2 v z n A P q) : Te (fun K => qe_X12_end K n z) (fun z1 => bmE2 v z1 n A P (q + 1) ∧ fr (fun g => g = n + 2 ∨ g = n + 3) z z1) := by
  obtain ⟨C, l, h1, h2, h3, h4, h5⟩ := h
  have e : (C ++ [l]).flatten = C.flatten ++ l := by rw [List.flatten_append]; simp
  refine w_monoE (tn_end hn h2 (by rw [List.length_map]; omega)) (fun z1 ⟨g1, g2⟩ => ⟨⟨C ++ [l], by rw [List.length_append, h1]; rfl, by rw [List.map_append]; exact g1, by rw [e]; exact h3, fun j => by rw [e]; exact h4 j, by rw [e]; exact h5⟩, g2⟩)
theorem tp_smoothIn2 {o n c v w : Nat} {z : ow_MS} {A : rn_L} (ho : mw_net o) (hn : mw_net n) (hon : n ≠ o) (hl : A.flatten.length ≤ 24) (hC : A.length ≤ 37) (hA : rn_At z o A []) (hc : c < A.length) (hv1 : rn_b A c ≤ v) (hv2 : v < rn_b A (c + 1)) (hvw : v < w) (hw : w < A.flatten.length) : Te (fun K => qe_X13_smoothIn K o (nI c) (nI v) (nI w) n z) (fun z1 => (∃ q, q ≤ A.length + 1 ∧ bmE2 v z1 n A (fun j => j < A.flatten.length ∧ j ≠ v ∧ j ≠ w) q) ∧ (∀ x, x < 40 → z1.2.1 (n + 6) x = z.2.1 (o + 6) x) ∧ fr (fun g => n + 1 ≤ g ∧ g ≤ n + 6) z z1) := by
  have hmn := net_mod hn
  have hmo := net_mod ho
  let I : ow_MS → Prop := fun y => fr (fun g => n + 1 ≤ g ∧ g ≤ n + 6) z y ∧ ∀ x, x < 40 → y.2.1 (n + 6) x = z.2.1 (o + 6) x
  let Q : ow_MS → Prop := fun z1 => (∃ q, q ≤ A.length + 1 ∧ bmE2 v z1 n A (fun j => j < A.flatten.length ∧ j ≠ v ∧ j ≠ w) q) ∧ (∀ x, x < 40 → z1.2.1 (n + 6) x = z.2.1 (o + 6) x) ∧ fr (fun g => n + 1 ≤ g ∧ g ≤ n + 6) z z1
  have atI : ∀ {y : ow_MS}, I y → rn_At y o A [] := fun hI => fr_At hI.1 (fun g hg => by omega) hA
  have cuI : ∀ {y : ow_MS} {i : Nat}, I y → i < A.flatten.length → y.2.1 (o + 4) i = nI (crs A i) ∧ y.2.1 (o + 5) i = nI (uns A i) := fun hI hi => at_cu (atI hI) hi
  have bI : ∀ {y : ow_MS} {k : Nat}, I y → k ≤ A.length → y.2.1 (o + 3) k = nI (rn_b A k) := fun hI hk => (atI hI).2.2.1 _ hk
  have addI : ∀ {y y2 : ow_MS}, I y → fr (fun g => g = n + 1 ∨ g = n + 4 ∨ g = n + 5) y y2 → I y2 := fun hI hf => ⟨fr_tr hI.1 (fr_mono (fun g hg => by omega) hf), fun x hx => by rw [(hf (n + 6) (by omega)).2.1]; exact hI.2 x hx⟩
  have endI : ∀ {y y2 : ow_MS}, I y → fr (fun g => g = n + 2 ∨ g = n + 3) y y2 → I y2 := fun hI hf => ⟨fr_tr hI.1 (fr_mono (fun g hg => by omega) hf), fun x hx => by rw [(hf (n + 6) (by omega)).2.1]; exact hI.2 x hx⟩
  have hbl := rn_b_le A (c + 1)
  have hbl2 := fun k => rn_b_le A k
  have hbl3 := hbl2 c
  obtain ⟨hJ1, hJ2, hJ3⟩ := rn_c_in A w hw
  obtain ⟨J, hJ⟩ : ∃ J, J = rn_c A w := ⟨_, rfl⟩
  rw [← hJ] at hJ1 hJ2 hJ3
  have hbJ := hbl2 (J + 1)
  have mono := fun {a b : Nat} (h9 : a ≤ b) => rn_b_mono2 (A := A) h9
  have l13 : ∀ (k i : Nat) (y : ow_MS), i + k = w → v + 1 ≤ i → I y → bm2 v y n A (fun j => j < A.flatten.length ∧ ¬ (v ≤ j ∧ j ≤ w) ∨ v < j ∧ j < i) A.length → (∀ y2, I y2 → bm2 v y2 n A (fun j => j < A.flatten.length ∧ ¬ (v ≤ j ∧ j ≤ w) ∨ v < j ∧ j < w) A.length → Tt (fun K i9 => cs0 (qe_X12_end K n y2) fun z35 => some z35) Q) → Tt (fun K i9 => q_X13_smoothIn K i9 13 (nI c) (nI v) (nI w) 1 (nI i) 0 0 o n 0 y) Q := by
    intro k
    induction k with
    | zero =>
      intro i y hi hlo hI hb hout
      have hie : i = w := by omega
      rw [hie] at hb ⊢
      refine u_X13_smoothIn_13 ?_; unfold qm_X13_smoothIn_13
      exact (w_leT (by omega) (Nat.le_refl _) (hout y hI hb))
    | succ k ih =>
      intro i y hi hlo hI hb hout
      have hil : i < A.flatten.length := by omega
      refine u_X13_smoothIn_13 ?_; unfold qm_X13_smoothIn_13
      refine (w_leF (by omega) (by omega) (w_rdI (pl4 ho) rfl (by omega) (cuI hI hil).1 (w_rdI (pl5 ho) rfl (by omega) (cuI hI hil).2 (w_cs0 (bm2_add hn (by omega) (fun j hj => by omega) (by omega) (fun hv9 j => by omega) rfl rfl hb) (fun y2 ⟨g1, g2⟩ => ?_)))))
      rw [nI_1]
      exact ih (i + 1) y2 (by omega) (by omega) (addI hI g2) (bm2_eq g1 (fun j => by omega)) hout
  have fin1 : ∀ y, I y → bmE2 v y n A (fun j => j < A.flatten.length ∧ ¬ (v ≤ j ∧ j ≤ w)) A.length → Tt (fun K i9 => q_X13_smoothIn K i9 13 (nI c) (nI v) (nI w) 1 (nI (v + 1)) 0 0 o n 0 y) Q := by
    intro y hI hb
    refine l13 (w - (v + 1)) (v + 1) y (by omega) (Nat.le_refl _) hI (bm2_eq hb.b (fun j => by omega)) (fun y2 hI2 hb2 => w_cs0 (bm2_end hn (by omega) hb2) (fun y3 ⟨g1, g2⟩ => w_some ⟨⟨A.length + 1, Nat.le_refl _, bmE2_eq g1 (fun j => by omega)⟩, (endI hI2 g2).2, (endI hI2 g2).1⟩))
  -- a component as it is
  have l11 : ∀ (x5 : Int32) (m q : Nat) (D : Nat → Prop), m < A.length → q < 39 → (∀ j, D j → j < A.flatten.length ∧ ¬ (rn_b A m ≤ j ∧ j < rn_b A (m + 1))) → (rn_b A m < v → ∀ j, D j ↔ j < rn_b A m) → (∀ y2, I y2 → bmE2 v y2 n A (fun j => D j ∨ rn_b A m ≤ j ∧ j < rn_b A (m + 1)) (q + 1) → Tt (fun K i9 => q_X13_smoothIn K i9 12 (nI c) (nI v) (nI w) x5 (nI m) 0 0 o n 0 y2) Q) → ∀ (k i : Nat) (y : ow_MS), i + k = rn_b A (m + 1) → rn_b A m ≤ i → I y → bm2 v y n A (fun j => D j ∨ rn_b A m ≤ j ∧ j < i) q → Tt (fun K i9 => q_X13_smoothIn K i9 11 (nI c) (nI v) (nI w) x5 (nI m) (nI i) 0 o n 0 y) Q := by
    intro x5 m q D hm hq hD hDp hout k
    have hbm := hbl2 (m + 1)
    induction k with
    | zero =>
      intro i y hi hlo hI hb
      have hie : i = rn_b A (m + 1) := by omega
      rw [hie] at hb ⊢
      refine u_X13_smoothIn_11 ?_; unfold qm_X13_smoothIn_11
      rw [nI_1]
      exact w_rdI (pl3 ho) rfl (by omega) (bI hI (by omega)) (w_leT (by omega) (Nat.le_refl _) (w_cs0 (bm2_end hn hq hb) (fun y2 ⟨g1, g2⟩ => hout y2 (endI hI g2) g1)))
    | succ k ih =>
      intro i y hi hlo hI hb
      have hil : i < A.flatten.length := by omega
      refine u_X13_smoothIn_11 ?_; unfold qm_X13_smoothIn_11
      rw [nI_1]
      refine w_rdI (pl3 ho) rfl (by omega) (bI hI (by omega)) (w_leF (by omega) (by omega) (w_rdI (pl4 ho) rfl (by omega) (cuI hI hil).1 (w_rdI (pl5 ho) rfl (by omega) (cuI hI hil).2 (w_cs0 (bm2_add hn (by omega) (fun j hj => ?_) (fun h9 => ?_) (fun hv9 j => ?_) rfl rfl hb) (fun y2 ⟨g1, g2⟩ => ?_)))))
      · rcases hj with hj | hj
        · exact (hD j hj).1
        · omega
      · rcases h9 with h9 | h9
        · exact (hD i h9).2 ⟨by omega, by omega⟩
        · omega
      · have := hDp (by omega) j
        constructor
        · rintro (h8 | h8)
          · have := this.mp h8
            omega
          · omega
        · intro h8
          by_cases h7 : j < rn_b A m
          · exact Or.inl (this.mpr h7)
          · exact Or.inr (by omega)
      · rw [nI_1]
        refine ih (i + 1) y2 (by omega) (by omega) (addI hI g2) (bm2_eq g1 (fun j => ?_))
        constructor
        · rintro ((h9 | h9) | h9)
          · exact Or.inl h9
          · exact Or.inr (by omega)
          · exact Or.inr (by omega)
        · rintro (h9 | h9)
          · exact Or.inl (Or.inl h9)
          · by_cases hji : j = i
            · exact Or.inr hji
            · exact Or.inl (Or.inr (by omega))
  have c10 : ∀ (x5 : Int32) (m q : Nat) (D : Nat → Prop) (y : ow_MS), m < A.length → q < 39 → (∀ j, D j → j < A.flatten.length ∧ ¬ (rn_b A m ≤ j ∧ j < rn_b A (m + 1))) → (rn_b A m < v → ∀ j, D j ↔ j < rn_b A m) → (∀ y2, I y2 → bmE2 v y2 n A (fun j => D j ∨ rn_b A m ≤ j ∧ j < rn_b A (m + 1)) (q + 1) → Tt (fun K i9 => q_X13_smoothIn K i9 12 (nI c) (nI v) (nI w) x5 (nI m) 0 0 o n 0 y2) Q) → I y → bmE2 v y n A D q → Tt (fun K i9 => q_X13_smoothIn K i9 10 (nI c) (nI v) (nI w) x5 (nI m) 0 0 o n 0 y) Q := by
    intro x5 m q D y hm hq hD hDp hout hI hb
    have hmm := rn_b_mono A m
    refine u_X13_smoothIn_10 ?_; unfold qm_X13_smoothIn_10
    refine w_rdI (pl3 ho) rfl (by omega) (bI hI (by omega)) (l11 x5 m q D hm hq hD hDp hout (rn_b A (m + 1) - rn_b A m) (rn_b A m) y (by omega) (Nat.le_refl _) hI (bm2_eq hb.b (fun j => ?_)))
    constructor
    · exact Or.inl
    · rintro (h9 | h9)
      · exact h9
      · omega
  by_cases hone : w < rn_b A (c + 1)
  · -- both visits in one component
    have aft : ∀ (k m : Nat) (y : ow_MS), m + k = A.length → c < m → I y → bmE2 v y n A (fun j => j < rn_b A m ∧ ¬ (v ≤ j ∧ j ≤ w)) m → Tt (fun K i9 => q_X13_smoothIn K i9 2 (nI c) (nI v) (nI w) 1 (nI m) 0 0 o n 0 y) Q := by
      intro k
      induction k with
      | zero =>
        intro m y hm hcm hI hb
        have hme : m = A.length := by omega
        rw [hme, rn_b_len] at hb
        refine u_X13_smoothIn_2 ?_; unfold qm_X13_smoothIn_2
        rw [nI_1 v]
        exact w_rdF (atI hI).2.1 (w_leT (by omega) (by omega) (w_ifF (by decide) (fin1 y hI hb)))
      | succ k ih =>
        intro m y hm hcm hI hb
        have m1 := mono (a := c + 1) (b := m) (by omega)
        have m2 := rn_b_mono A m
        have m3 := hbl2 (m + 1)
        refine u_X13_smoothIn_2 ?_; unfold qm_X13_smoothIn_2
        rw [nI_1 v]
        refine w_rdF (atI hI).2.1 (w_leF (by omega) (by omega) (w_ifF (fun e => by have := (nI_eq (by omega) (by omega)).mp e; omega) (w_ifF (by decide) (c10 1 m m _ y (by omega) (by omega) (fun j hj => by omega) (fun hv9 j => by omega) (fun y2 hI2 hb2 => ?_) hI hb))))
        refine u_X13_smoothIn_12 ?_; unfold qm_X13_smoothIn_12
        rw [nI_1]
        exact ih (m + 1) y2 (by omega) (by omega) hI2 (bmE2_eq hb2 (fun j => by omega))
    have l4 : ∀ (k i : Nat) (y : ow_MS), i + k = rn_b A (c + 1) → w + 1 ≤ i → I y → bm2 v y n A (fun j => j < v ∨ w < j ∧ j < i) c → (∀ y2, I y2 → bm2 v y2 n A (fun j => j < v ∨ w < j ∧ j < rn_b A (c + 1)) c → Tt (fun K i9 => q_X13_smoothIn K i9 9 (nI c) (nI v) (nI w) 1 (nI c) (nI (rn_b A (c + 1))) 0 o n 0 y2) Q) → Tt (fun K i9 => q_X13_smoothIn K i9 4 (nI c) (nI v) (nI w) 1 (nI c) (nI i) 0 o n 0 y) Q := by
      intro k
      induction k with
      | zero =>
        intro i y hi hlo hI hb hout
        have hie : i = rn_b A (c + 1) := by omega
        rw [hie] at hb ⊢
        refine u_X13_smoothIn_4 ?_; unfold qm_X13_smoothIn_4
        exact w_rdI (pl3 ho) (nI_1 _) (by omega) (bI hI (by omega)) (w_leT (by omega) (Nat.le_refl _) (hout y hI hb))
      | succ k ih =>
        intro i y hi hlo hI hb hout
        have hil : i < A.flatten.length := by omega
        refine u_X13_smoothIn_4 ?_; unfold qm_X13_smoothIn_4
        refine w_rdI (pl3 ho) (nI_1 _) (by omega) (bI hI (by omega)) (w_leF (by omega) (by omega) (w_rdI (pl4 ho) rfl (by omega) (cuI hI hil).1 (w_rdI (pl5 ho) rfl (by omega) (cuI hI hil).2 (w_cs0 (bm2_add hn (by omega) (fun j hj => by omega) (by omega) (fun hv9 j => by omega) rfl rfl hb) (fun y2 ⟨g1, g2⟩ => ?_)))))
        rw [nI_1]
        exact ih (i + 1) y2 (by omega) (by omega) (addI hI g2) (bm2_eq g1 (fun j => by omega)) hout
    have l3 : ∀ (k i : Nat) (y : ow_MS), i + k = v → rn_b A c ≤ i → I y → bm2 v y n A (fun j => j < i) c → (∀ y2, I y2 → bm2 v y2 n A (fun j => j < v) c → Tt (fun K i9 => q_X13_smoothIn K i9 4 (nI c) (nI v) (nI w) 1 (nI c) (nI (w + 1)) 0 o n 0 y2) Q) → Tt (fun K i9 => q_X13_smoothIn K i9 3 (nI c) (nI v) (nI w) 1 (nI c) (nI i) 0 o n 0 y) Q := by
      intro k
      induction k with
      | zero =>
        intro i y hi hlo hI hb hout
        have hie : i = v := by omega
        rw [hie] at hb ⊢
        refine u_X13_smoothIn_3 ?_; unfold qm_X13_smoothIn_3
        rw [nI_1 w]
        exact w_leT (by omega) (Nat.le_refl _) (w_ifF (by decide) (hout y hI hb))
      | succ k ih =>
        intro i y hi hlo hI hb hout
        have hil : i < A.flatten.length := by omega
        refine u_X13_smoothIn_3 ?_; unfold qm_X13_smoothIn_3
        rw [nI_1 w]
        refine (w_leF (by omega) (by omega) (w_rdI (pl4 ho) rfl (by omega) (cuI hI hil).1 (w_rdI (pl5 ho) rfl (by omega) (cuI hI hil).2 (w_cs0 (bm2_add hn (by omega) (fun j hj => by omega) (by omega) (fun hv9 j => by omega) rfl rfl hb) (fun y2 ⟨g1, g2⟩ => ?_)))))
        rw [nI_1]
        exact ih (i + 1) y2 (by omega) (by omega) (addI hI g2) (bm2_eq g1 (fun j => by omega)) hout
    have bef : ∀ (k m : Nat) (y : ow_MS), m + k = c → I y → bmE2 v y n A (fun j => j < rn_b A m) m → Tt (fun K i9 => q_X13_smoothIn K i9 2 (nI c) (nI v) (nI w) 1 (nI m) 0 0 o n 0 y) Q := by
      intro k
      induction k with
      | zero =>
        intro m y hm hI hb
        have hme : m = c := by omega
        subst hme
        refine u_X13_smoothIn_2 ?_; unfold qm_X13_smoothIn_2
        refine w_rdF (atI hI).2.1 (w_leF (by omega) (by omega) (w_ifT rfl (w_rdI (pl3 ho) rfl (by omega) (bI hI (by omega)) (l3 (v - rn_b A m) (rn_b A m) y (by omega) (Nat.le_refl _) hI hb.b (fun y2 hI2 hb2 => l4 (rn_b A (m + 1) - (w + 1)) (w + 1) y2 (by omega) (Nat.le_refl _) hI2 (bm2_eq hb2 (fun j => by omega)) (fun y3 hI3 hb3 => ?_))))))
        refine u_X13_smoothIn_9 ?_; unfold qm_X13_smoothIn_9
        refine w_cs0 (bm2_end hn (by omega) hb3) (fun y4 ⟨g1, g2⟩ => ?_)
        refine u_X13_smoothIn_12 ?_; unfold qm_X13_smoothIn_12
        rw [nI_1]
        exact aft (A.length - (m + 1)) (m + 1) y4 (by omega) (by omega) (endI hI3 g2) (bmE2_eq g1 (fun j => by omega))
      | succ k ih =>
        intro m y hm hI hb
        have m1 := mono (a := m + 1) (b := c) (by omega)
        have m2 := rn_b_mono A m
        refine u_X13_smoothIn_2 ?_; unfold qm_X13_smoothIn_2
        rw [nI_1 v]
        refine w_rdF (atI hI).2.1 (w_leF (by omega) (by omega) (w_ifF (fun e => by have := (nI_eq (by omega) (by omega)).mp e; omega) (w_ifF (by decide) (c10 1 m m _ y (by omega) (by omega) (fun j hj => by omega) (fun hv9 j => by omega) (fun y2 hI2 hb2 => ?_) hI hb))))
        refine u_X13_smoothIn_12 ?_; unfold qm_X13_smoothIn_12
        rw [nI_1]
        exact ih (m + 1) y2 (by omega) hI2 (bmE2_eq hb2 (fun j => by omega))
    refine e_X13_smoothIn ?_
    refine u_X13_smoothIn_0 ?_; unfold qm_X13_smoothIn_0
    refine w_cs0 (bm2_clear (A := A) (v := v) hn) (fun z3 ⟨b3, f3⟩ => w_cs0 (tn_signs hn ho hon) (fun z4 ⟨f4, s4⟩ => ?_))
    have hI4 : I z4 := ⟨fr_tr (fr_mono (fun g hg => by omega) f3) (fr_mono (fun g hg => by omega) f4), fun x hx => by rw [s4 x hx, (f3 (o + 6) (by omega)).2.1]⟩
    refine w_rdI (pl3 ho) (nI_1 _) (by omega) (bI hI4 (by omega)) (w_leF (by omega) hone ?_)
    refine u_X13_smoothIn_1 ?_; unfold qm_X13_smoothIn_1
    exact bef c 0 z4 (by omega) hI4 (bmE2_eq (bmE2_fr f4 (fun g hg => by omega) b3) (fun j => ⟨fun h9 => h9.elim, fun h9 => by rw [rn_b0] at h9; omega⟩))
  · -- two components become one
    have hcJ : c < J := by
      rcases Nat.lt_or_ge c J with h9 | h9
      · exact h9
      · have := mono (a := J + 1) (b := c + 1) (by omega)
        omega
    have mJ := mono (a := c + 1) (b := J) (by omega)
    have mJ2 := rn_b_mono A J
    have aft : ∀ (k m q : Nat) (y : ow_MS), m + k = A.length → c < m → q ≤ m → I y → bmE2 v y n A (fun j => (j < rn_b A m ∨ rn_b A J ≤ j ∧ j < rn_b A (J + 1)) ∧ j ≠ v ∧ j ≠ w) q → Tt (fun K i9 => q_X13_smoothIn K i9 2 (nI c) (nI v) (nI w) 0 (nI m) 0 0 o n 0 y) Q := by
      intro k
      induction k with
      | zero =>
        intro m q y hm hcm hq hI hb
        have hme : m = A.length := by omega
        rw [hme, rn_b_len] at hb
        refine u_X13_smoothIn_2 ?_; unfold qm_X13_smoothIn_2
        exact w_rdF (atI hI).2.1 (w_leT (by omega) (by omega) (w_ifT rfl (w_some ⟨⟨q, by omega, bmE2_eq hb (fun j => by omega)⟩, hI.2, hI.1⟩)))
      | succ k ih =>
        intro m q y hm hcm hq hI hb
        have m1 := mono (a := c + 1) (b := m) (by omega)
        have m2 := rn_b_mono A m
        have m3 := hbl2 (m + 1)
        have g10 : (m < J ∨ J < m) → Tt (fun K i9 => q_X13_smoothIn K i9 10 (nI c) (nI v) (nI w) 0 (nI m) 0 0 o n 0 y) Q := by
          intro hmJ
          have hdis : rn_b A (m + 1) ≤ rn_b A J ∨ rn_b A (J + 1) ≤ rn_b A m := by
            rcases hmJ with h9 | h9
            · exact Or.inl (mono (by omega))
            · exact Or.inr (mono (by omega))
          refine c10 0 m q _ y (by omega) (by omega) (fun j hj => by omega) (fun hv9 j => by omega) (fun y2 hI2 hb2 => ?_) hI hb
          refine u_X13_smoothIn_12 ?_; unfold qm_X13_smoothIn_12
          rw [nI_1]
          exact ih (m + 1) (q + 1) y2 (by omega) (by omega) (by omega) hI2 (bmE2_eq hb2 (fun j => by omega))
        refine u_X13_smoothIn_2 ?_; unfold qm_X13_smoothIn_2
        refine w_rdF (atI hI).2.1 (w_leF (by omega) (by omega) (w_ifF (fun e => by have := (nI_eq (by omega) (by omega)).mp e; omega) (w_ifT rfl (w_rdI (pl3 ho) rfl (by omega) (bI hI (by omega)) (w_lt (by omega) (by omega) (fun h9 => g10 ?_) (fun h9 => w_rdI (pl3 ho) (nI_1 _) (by omega) (bI hI (by omega)) (w_lt (by omega) (by omega) (fun h8 => ?_) (fun h8 => g10 ?_))))))))
        · rcases Nat.lt_or_ge J m with h8 | h8
          · exact Or.inr h8
          · have := mono (a := m) (b := J) h8
            omega
        · have hmJ : m = J := by
            have := rn_c_of A m w h9 h8
            rw [hJ]
            exact this.symm
          refine u_X13_smoothIn_12 ?_; unfold qm_X13_smoothIn_12
          rw [nI_1]
          rw [hmJ] at hb ⊢
          exact ih (J + 1) q y (by omega) (by omega) (by omega) hI (bmE2_eq hb (fun j => by omega))
        · rcases Nat.lt_or_ge m J with h7 | h7
          · exact Or.inl h7
          · have := mono (a := J + 1) (b := m + 1) (by omega)
            omega
    have l8 : ∀ (k i : Nat) (y : ow_MS), i + k = rn_b A (c + 1) → v + 1 ≤ i → I y → bm2 v y n A (fun j => j < v ∨ rn_b A J ≤ j ∧ j < rn_b A (J + 1) ∧ j ≠ w ∨ v < j ∧ j < i) c → (∀ y2, I y2 → bm2 v y2 n A (fun j => j < v ∨ rn_b A J ≤ j ∧ j < rn_b A (J + 1) ∧ j ≠ w ∨ v < j ∧ j < rn_b A (c + 1)) c → Tt (fun K i9 => q_X13_smoothIn K i9 9 (nI c) (nI v) (nI w) 0 (nI c) (nI J) 0 o n 0 y2) Q) → Tt (fun K i9 => q_X13_smoothIn K i9 8 (nI c) (nI v) (nI w) 0 (nI c) (nI J) (nI i) o n 0 y) Q := by
      intro k
      induction k with
      | zero =>
        intro i y hi hlo hI hb hout
        have hie : i = rn_b A (c + 1) := by omega
        rw [hie] at hb ⊢
        refine u_X13_smoothIn_8 ?_; unfold qm_X13_smoothIn_8
        exact w_rdI (pl3 ho) (nI_1 _) (by omega) (bI hI (by omega)) (w_leT (by omega) (Nat.le_refl _) (hout y hI hb))
      | succ k ih =>
        intro i y hi hlo hI hb hout
        have hil : i < A.flatten.length := by omega
        refine u_X13_smoothIn_8 ?_; unfold qm_X13_smoothIn_8
        refine w_rdI (pl3 ho) (nI_1 _) (by omega) (bI hI (by omega)) (w_leF (by omega) (by omega) (w_rdI (pl4 ho) rfl (by omega) (cuI hI hil).1 (w_rdI (pl5 ho) rfl (by omega) (cuI hI hil).2 (w_cs0 (bm2_add hn (by omega) (fun j hj => by omega) (by omega) (fun hv9 j => by omega) rfl rfl hb) (fun y2 ⟨g1, g2⟩ => ?_)))))
        rw [nI_1]
        exact ih (i + 1) y2 (by omega) (by omega) (addI hI g2) (bm2_eq g1 (fun j => by omega)) hout
    have l7 : ∀ (k i : Nat) (y : ow_MS), i + k = w → rn_b A J ≤ i → I y → bm2 v y n A (fun j => j < v ∨ w < j ∧ j < rn_b A (J + 1) ∨ rn_b A J ≤ j ∧ j < i) c → (∀ y2, I y2 → bm2 v y2 n A (fun j => j < v ∨ w < j ∧ j < rn_b A (J + 1) ∨ rn_b A J ≤ j ∧ j < w) c → Tt (fun K i9 => q_X13_smoothIn K i9 8 (nI c) (nI v) (nI w) 0 (nI c) (nI J) (nI (v + 1)) o n 0 y2) Q) → Tt (fun K i9 => q_X13_smoothIn K i9 7 (nI c) (nI v) (nI w) 0 (nI c) (nI J) (nI i) o n 0 y) Q := by
      intro k
      induction k with
      | zero =>
        intro i y hi hlo hI hb hout
        have hie : i = w := by omega
        rw [hie] at hb ⊢
        refine u_X13_smoothIn_7 ?_; unfold qm_X13_smoothIn_7
        rw [nI_1 v]
        exact (w_leT (by omega) (Nat.le_refl _) (hout y hI hb))
      | succ k ih =>
        intro i y hi hlo hI hb hout
        have hil : i < A.flatten.length := by omega
        refine u_X13_smoothIn_7 ?_; unfold qm_X13_smoothIn_7
        rw [nI_1 v]
        refine (w_leF (by omega) (by omega) (w_rdI (pl4 ho) rfl (by omega) (cuI hI hil).1 (w_rdI (pl5 ho) rfl (by omega) (cuI hI hil).2 (w_cs0 (bm2_add hn (by omega) (fun j hj => by omega) (by omega) (fun hv9 j => by omega) rfl rfl hb) (fun y2 ⟨g1, g2⟩ => ?_)))))
        rw [nI_1]
        exact ih (i + 1) y2 (by omega) (by omega) (addI hI g2) (bm2_eq g1 (fun j => by omega)) hout
    have l6 : ∀ (k i : Nat) (y : ow_MS), i + k = rn_b A (J + 1) → w + 1 ≤ i → I y → bm2 v y n A (fun j => j < v ∨ w < j ∧ j < i) c → (∀ y2, I y2 → bm2 v y2 n A (fun j => j < v ∨ w < j ∧ j < rn_b A (J + 1)) c → Tt (fun K i9 => q_X13_smoothIn K i9 7 (nI c) (nI v) (nI w) 0 (nI c) (nI J) (nI (rn_b A J)) o n 0 y2) Q) → Tt (fun K i9 => q_X13_smoothIn K i9 6 (nI c) (nI v) (nI w) 0 (nI c) (nI J) (nI i) o n 0 y) Q := by
      intro k
      induction k with
      | zero =>
        intro i y hi hlo hI hb hout
        have hie : i = rn_b A (J + 1) := by omega
        rw [hie] at hb ⊢
        refine u_X13_smoothIn_6 ?_; unfold qm_X13_smoothIn_6
        exact w_rdI (pl3 ho) (nI_1 _) (by omega) (bI hI (by omega)) (w_leT (by omega) (Nat.le_refl _) (w_rdI (pl3 ho) rfl (by omega) (bI hI (by omega)) (hout y hI hb)))
      | succ k ih =>
        intro i y hi hlo hI hb hout
        have hil : i < A.flatten.length := by omega
        refine u_X13_smoothIn_6 ?_; unfold qm_X13_smoothIn_6
        refine w_rdI (pl3 ho) (nI_1 _) (by omega) (bI hI (by omega)) (w_leF (by omega) (by omega) (w_rdI (pl4 ho) rfl (by omega) (cuI hI hil).1 (w_rdI (pl5 ho) rfl (by omega) (cuI hI hil).2 (w_cs0 (bm2_add hn (by omega) (fun j hj => by omega) (by omega) (fun hv9 j => by omega) rfl rfl hb) (fun y2 ⟨g1, g2⟩ => ?_)))))
        rw [nI_1]
        exact ih (i + 1) y2 (by omega) (by omega) (addI hI g2) (bm2_eq g1 (fun j => by omega)) hout
    have l3 : ∀ (k i : Nat) (y : ow_MS), i + k = v → rn_b A c ≤ i → I y → bm2 v y n A (fun j => j < i) c → (∀ y2, I y2 → bm2 v y2 n A (fun j => j < v) c → Tt (fun K i9 => q_X13_smoothIn K i9 5 (nI c) (nI v) (nI w) 0 (nI c) 0 0 o n 0 y2) Q) → Tt (fun K i9 => q_X13_smoothIn K i9 3 (nI c) (nI v) (nI w) 0 (nI c) (nI i) 0 o n 0 y) Q := by
      intro k
      induction k with
      | zero =>
        intro i y hi hlo hI hb hout
        have hie : i = v := by omega
        rw [hie] at hb ⊢
        refine u_X13_smoothIn_3 ?_; unfold qm_X13_smoothIn_3
        exact w_leT (by omega) (Nat.le_refl _) (w_ifT rfl (hout y hI hb))
      | succ k ih =>
        intro i y hi hlo hI hb hout
        have hil : i < A.flatten.length := by omega
        refine u_X13_smoothIn_3 ?_; unfold qm_X13_smoothIn_3
        refine (w_leF (by omega) (by omega) (w_rdI (pl4 ho) rfl (by omega) (cuI hI hil).1 (w_rdI (pl5 ho) rfl (by omega) (cuI hI hil).2 (w_cs0 (bm2_add hn (by omega) (fun j hj => by omega) (by omega) (fun hv9 j => by omega) rfl rfl hb) (fun y2 ⟨g1, g2⟩ => ?_)))))
        rw [nI_1]
        exact ih (i + 1) y2 (by omega) (by omega) (addI hI g2) (bm2_eq g1 (fun j => by omega)) hout
    have mid : ∀ y, I y → bm2 v y n A (fun j => j < v) c → Tt (fun K i9 => q_X13_smoothIn K i9 6 (nI c) (nI v) (nI w) 0 (nI c) (nI J) (nI (w + 1)) o n 0 y) Q := by
      intro y hI hb
      refine l6 (rn_b A (J + 1) - (w + 1)) (w + 1) y (by omega) (Nat.le_refl _) hI (bm2_eq hb (fun j => by omega)) (fun y2 hI2 hb2 => l7 (w - rn_b A J) (rn_b A J) y2 (by omega) (Nat.le_refl _) hI2 (bm2_eq hb2 (fun j => by omega)) (fun y3 hI3 hb3 => l8 (rn_b A (c + 1) - (v + 1)) (v + 1) y3 (by omega) (Nat.le_refl _) hI3 (bm2_eq hb3 (fun j => by omega)) (fun y4 hI4 hb4 => ?_)))
      refine u_X13_smoothIn_9 ?_; unfold qm_X13_smoothIn_9
      refine w_cs0 (bm2_end hn (by omega) hb4) (fun y5 ⟨g1, g2⟩ => ?_)
      refine u_X13_smoothIn_12 ?_; unfold qm_X13_smoothIn_12
      rw [nI_1]
      exact aft (A.length - (c + 1)) (c + 1) (c + 1) y5 (by omega) (by omega) (Nat.le_refl _) (endI hI4 g2) (bmE2_eq g1 (fun j => by omega))
    have l5 : ∀ (k m : Nat) (y : ow_MS), m + k = J → I y → bm2 v y n A (fun j => j < v) c → Tt (fun K i9 => q_X13_smoothIn K i9 5 (nI c) (nI v) (nI w) 0 (nI c) (nI m) 0 o n 0 y) Q := by
      intro k
      induction k with
      | zero =>
        intro m y hm hI hb
        have hme : m = J := by omega
        rw [hme]
        refine u_X13_smoothIn_5 ?_; unfold qm_X13_smoothIn_5
        rw [nI_1 w]
        exact w_rdI (pl3 ho) (nI_1 _) (by omega) (bI hI (by omega)) (w_ltT (by omega) hJ3 (mid y hI hb))
      | succ k ih =>
        intro m y hm hI hb
        have m1 := mono (a := m + 1) (b := J) (by omega)
        refine u_X13_smoothIn_5 ?_; unfold qm_X13_smoothIn_5
        refine w_rdI (pl3 ho) (nI_1 _) (by omega) (bI hI (by omega)) (w_ltF (by omega) (by omega) ?_)
        rw [nI_1]
        exact ih (m + 1) y (by omega) hI hb
    have bef : ∀ (k m : Nat) (y : ow_MS), m + k = c → I y → bmE2 v y n A (fun j => j < rn_b A m) m → Tt (fun K i9 => q_X13_smoothIn K i9 2 (nI c) (nI v) (nI w) 0 (nI m) 0 0 o n 0 y) Q := by
      intro k
      induction k with
      | zero =>
        intro m y hm hI hb
        have hme : m = c := by omega
        subst hme
        refine u_X13_smoothIn_2 ?_; unfold qm_X13_smoothIn_2
        exact w_rdF (atI hI).2.1 (w_leF (by omega) (by omega) (w_ifT rfl (w_rdI (pl3 ho) rfl (by omega) (bI hI (by omega)) (l3 (v - rn_b A m) (rn_b A m) y (by omega) (Nat.le_refl _) hI hb.b (fun y2 hI2 hb2 => l5 J 0 y2 (by omega) hI2 hb2)))))
      | succ k ih =>
        intro m y hm hI hb
        have m1 := mono (a := m + 1) (b := c) (by omega)
        have m2 := rn_b_mono A m
        have m3 := mono (a := m + 1) (b := J) (by omega)
        refine u_X13_smoothIn_2 ?_; unfold qm_X13_smoothIn_2
        have g10 : Tt (fun K i9 => q_X13_smoothIn K i9 10 (nI c) (nI v) (nI w) 0 (nI m) 0 0 o n 0 y) Q := by
          refine c10 0 m m _ y (by omega) (by omega) (fun j hj => by omega) (fun hv9 j => by omega) (fun y2 hI2 hb2 => ?_) hI hb
          refine u_X13_smoothIn_12 ?_; unfold qm_X13_smoothIn_12
          rw [nI_1]
          exact ih (m + 1) y2 (by omega) hI2 (bmE2_eq hb2 (fun j => by omega))
        exact w_rdF (atI hI).2.1 (w_leF (by omega) (by omega) (w_ifF (fun e => by have := (nI_eq (by omega) (by omega)).mp e; omega) (w_ifT rfl (w_rdI (pl3 ho) rfl (by omega) (bI hI (by omega)) (w_lt (by omega) (by omega) (fun _ => g10) (fun _ => w_rdI (pl3 ho) (nI_1 _) (by omega) (bI hI (by omega)) (w_lt (by omega) (by omega) (fun h8 => by omega) (fun _ => g10))))))))
    refine e_X13_smoothIn ?_
    refine u_X13_smoothIn_0 ?_; unfold qm_X13_smoothIn_0
    refine w_cs0 (bm2_clear (A := A) (v := v) hn) (fun z3 ⟨b3, f3⟩ => w_cs0 (tn_signs hn ho hon) (fun z4 ⟨f4, s4⟩ => ?_))
    have hI4 : I z4 := ⟨fr_tr (fr_mono (fun g hg => by omega) f3) (fr_mono (fun g hg => by omega) f4), fun x hx => by rw [s4 x hx, (f3 (o + 6) (by omega)).2.1]⟩
    refine w_rdI (pl3 ho) (nI_1 _) (by omega) (bI hI4 (by omega)) (w_leT (by omega) (by omega) ?_)
    refine u_X13_smoothIn_1 ?_; unfold qm_X13_smoothIn_1
    exact bef c 0 z4 (by omega) hI4 (bmE2_eq (bmE2_fr f4 (fun g hg => by omega) b3) (fun j => ⟨fun h9 => h9.elim, fun h9 => by rw [rn_b0] at h9; omega⟩))
end
section
/-! 99zzzg.leaf -/
/-! leaf -/
theorem i32_as (x y c : Int32) : x + (y - c) = x + y - c := by
  rw [Int32.sub_eq_add_neg, ← Int32.add_assoc, ← Int32.sub_eq_add_neg]
/-- where a term stands -/
theorem lf_ix {j k t a : Nat} (hj : j ≤ 12) (hk : k ≤ j + 5) (ht : t ≤ k) (ha : 16 ≤ a) (ha2 : a ≤ 64) : 129 * (nI j - nI k + 20) + (nI a - 40) + 2 * nI t - nI k + 64 = nI (129 * (j + 20 - k) + a + 2 * t + 24 - k) := by
  have e1 : nI j - nI k + 20 = nI (j + 20 - k) := by
    have h1 : nI j - nI k + 20 = nI j + 20 - nI k := by
      rw [Int32.sub_eq_add_neg, Int32.add_assoc, Int32.add_comm (-nI k) 20, ← Int32.add_assoc, ← Int32.sub_eq_add_neg]
    rw [h1, show nI j + 20 = nI (j + 20) from nI_add j 20]
    exact pk_sub (by omega)
  rw [e1, show (129 : Int32) * nI (j + 20 - k) = nI (129 * (j + 20 - k)) from pk_mul 129 _, i32_as, nI_add, show nI (129 * (j + 20 - k) + a) - 40 = nI (129 * (j + 20 - k) + a - 40) from pk_sub (b := 40) (by omega), rn_mul2, nI_add, pk_sub (by omega), show nI (129 * (j + 20 - k) + a - 40 + 2 * t - k) + 64 = nI (129 * (j + 20 - k) + a - 40 + 2 * t - k + 64) from nI_add _ 64]
  congr 1
  omega
section LF
variable {z : ow_MS}
theorem u_X13_leaf_1 {x1 : Int32} {x4 : Int32} {x5 : Int32} {x6 : Int32} {x9 : Int32} {w2 : Int64} {w7 : Int64} {t2 : Int32} {y0 : Int64} {y1 : Int64} {z : ow_MS} {Q : ow_MS → Prop} (H : Tt (fun K k => qm_X13_leaf_1 K (q_X13_leaf K k) x1 x4 x5 x6 x9 w2 w7 t2 y0 y1 z) Q) : Tt (fun K k => q_X13_leaf K k 1 x1 x4 x5 x6 x9 w2 w7 t2 y0 y1 z) Q := w_un (fun _ _ => rfl) H
theorem u_X13_leaf_2 {x1 : Int32} {x4 : Int32} {x5 : Int32} {x6 : Int32} {x9 : Int32} {w2 : Int64} {w7 : Int64} {t2 : Int32} {y0 : Int64} {y1 : Int64} {z : ow_MS} {Q : ow_MS → Prop} (H : Tt (fun K k => qm_X13_leaf_2 K (q_X13_leaf K k) x1 x4 x5 x6 x9 w2 w7 t2 y0 y1 z) Q) : Tt (fun K k => q_X13_leaf K k 2 x1 x4 x5 x6 x9 w2 w7 t2 y0 y1 z) Q := w_un (fun _ _ => rfl) H
theorem e_X13_leaf {x1 : Int32} {w2 : Int64} {x4 : Int32} {x5 : Int32} {z : ow_MS} {Q : ow_MS → Prop} (H : Tt (fun K k => q_X13_leaf K k 0 x1 x4 x5 0 0 w2 0 0 0 0 z) Q) : Te (fun K => qe_X13_leaf K x1 w2 x4 x5 z) Q := w_te H
theorem u_X13_leaf_0 {x1 : Int32} {x4 : Int32} {x5 : Int32} {x6 : Int32} {x9 : Int32} {w2 : Int64} {w7 : Int64} {t2 : Int32} {y0 : Int64} {y1 : Int64} {z : ow_MS} {Q : ow_MS → Prop} (H : Tt (fun K k => qm_X13_leaf_0 K (q_X13_leaf K k) x1 x4 x5 x6 x9 w2 w7 t2 y0 y1 z) Q) : Tt (fun K k => q_X13_leaf K k 0 x1 x4 x5 x6 x9 w2 w7 t2 y0 y1 z) Q := w_un (fun _ _ => rfl) H
theorem tp_leaf {c j a : Nat} {s : Int64} (hc : 1 ≤ c) (hcj : c ≤ j + 6) (hj : j ≤ 12) (ha : 16 ≤ a) (ha2 : a ≤ 64) : Te (fun K => qe_X13_leaf K (nI c) s (nI a - 40) (nI j) z) (fun z1 => fr (fun g => g = 42 ∨ g = 44) z z1) := by
  have key : ∀ (d t : Nat) (w : Int64) (y : ow_MS), t + d = c → fr (fun g => g = 42 ∨ g = 44) z y → Tt (fun K i => q_X13_leaf K i 1 (nI c) (nI a - 40) (nI j) (nI (c - 1)) (nI t) s w 0 0 0 y) (fun z1 => fr (fun g => g = 42 ∨ g = 44) z z1) := by
    intro d
    induction d with
    | zero =>
      intro t w y ht hf
      refine u_X13_leaf_1 ?_; unfold qm_X13_leaf_1
      exact w_ltT (by omega) (by omega) (w_some hf)
    | succ d ih =>
      intro t w y ht hf
      have ix := lf_ix (j := j) (k := c - 1) (t := t) (a := a) hj (by omega) (by omega) ha ha2
      have hlt : 129 * (j + 20 - (c - 1)) + a + 2 * t + 24 - (c - 1) < 5289 := by omega
      have c2 : ∀ (y0 y1 : Int64), Tt (fun K i => q_X13_leaf K i 2 (nI c) (nI a - 40) (nI j) (nI (c - 1)) (nI t) s w (nI (129 * (j + 20 - (c - 1)) + a + 2 * t + 24 - (c - 1))) y0 y1 y) (fun z1 => fr (fun g => g = 42 ∨ g = 44) z z1) := by
        intro y0 y1
        refine u_X13_leaf_2 ?_; unfold qm_X13_leaf_2
        rw [nI_1]
        have hnz : (nI (t + 1)).toInt64 ≠ 0 := by
          rw [nI_l (by omega)]
          exact fun e => by
            have := (pk_lEQ (a := t + 1) (b := 0) (by omega) (by omega)).mp e
            omega
        exact w_wrJ ml44 rfl hlt (w_nzJ hnz (ih (t + 1) _ _ (by omega) (fr_J2 hf (Or.inr rfl))))
      refine u_X13_leaf_1 ?_; unfold qm_X13_leaf_1
      rw [ix]
      exact w_ltF (by omega) (by omega) (w_rdJ ml44 rfl hlt rfl (w_if (fun _ => c2 _ _) (fun _ => c2 _ _)))
  refine e_X13_leaf ?_
  refine u_X13_leaf_0 ?_; unfold qm_X13_leaf_0
  rw [show nI c - 1 = nI (c - 1) from pk_sub (b := 1) hc]
  exact w_rdF rfl (w_if (fun _ => w_rdJ ml42 rfl (by omega) rfl (w_if (fun _ => w_wrJ ml42 rfl (by omega) (w_some (fr_J (Or.inl rfl)))) (fun _ => w_wrJ ml42 rfl (by omega) (w_some (fr_J (Or.inl rfl)))))) (fun _ => key c 0 s z (by omega) fr_rf))
end LF
end
section
/-! 99zzzh.skein -/
/-! skein: what is left of it -/
theorem w_rdN {O : Type} {Q : O → Prop} {i : Nat} {x : Int32} {E : Nat → Nat → Nat → Option O} (hx : x = nI i) (hi : i < 15) (H : Tt (E (1000 * (i + 4))) Q) : Tt (fun K k => rdN x (fun n => E n K k)) Q := by
  have e : (fun K k => rdN x (fun n => E n K k)) = E (1000 * (i + 4)) := by
    funext K k
    unfold rdN
    rw [hx, nI_clamp (by omega), if_neg (fun h9 => h9.elim (nI_pos (by omega)) (by omega))]
  rw [e]
  exact H
theorem pnL {i : Nat} (hi : i < 15) : mw_net (1000 * (i + 4)) := ⟨i + 3, by omega, by omega⟩
/-- the crossings met before k are met over; f crossings are not met before k -/
def gPre (A : rn_L) (k : Nat) : Prop := ∀ v, v < k → v < A.flatten.length → (∀ w, w < v → crs A w ≠ crs A v) → uns A v = 0
def ouT (A : rn_L) (k f : Nat) : Prop := ∃ R : List Nat, R.length ≤ f ∧ ∀ v, v < A.flatten.length → (∃ w, w < k ∧ w < A.flatten.length ∧ crs A w = crs A v) ∨ crs A v ∈ R
/-- the first bad visit lies behind the prefix, and its crossing is one of those left -/
theorem ou_bad {A : rn_L} {k f v : Nat} (hg : gPre A k) (ho : ouT A k f) (hv : v < A.flatten.length) (hf : ∀ w, w < v → crs A w ≠ crs A v) (hb : uns A v ≠ 0) : k ≤ v ∧ ∃ R : List Nat, R.length + 1 ≤ f ∧ ∀ u, u < A.flatten.length → crs A u ≠ crs A v → (∃ w, w < k ∧ w < A.flatten.length ∧ crs A w = crs A u) ∨ crs A u ∈ R := by
  have hkv : k ≤ v := by
    rcases Nat.lt_or_ge v k with h9 | h9
    · exact absurd (hg v h9 hv hf) hb
    · exact h9
  obtain ⟨R, h1, h2⟩ := ho
  have hx : crs A v ∈ R := by
    rcases h2 v hv with ⟨w, hw1, hw2, hw3⟩ | h9
    · exact absurd hw3 (hf w (by omega))
    · exact h9
  refine ⟨hkv, R.erase (crs A v), ?_, fun u hu hne => (h2 u hu).imp id (fun h9 => (List.mem_erase_of_ne hne).mpr h9)⟩
  have h3 : 0 < R.length := List.length_pos_of_mem hx
  rw [List.length_erase_of_mem hx]
  omega
end
section
/-! 99zzzi.skein2 -/
/-! skein has an answer -/
/-- what stands where the first visits have kept their places -/
theorem sk_pre {A : rn_L} {C : List (List Nat)} {v : Nat} (h : ∀ j, j < v → C.flatten[j]? = some j) {j : Nat} (hj : j < v) : vAt (C.map (List.map (vAt A))) j = vAt A j := by
  refine vAt_eq ?_
  rw [fl_map, List.getElem?_map, h j hj]
  rfl
theorem sk_at {A : rn_L} {C : List (List Nat)} {u : Nat} (hu : u < (C.map (List.map (vAt A))).flatten.length) : ∃ i, i ∈ C.flatten ∧ vAt (C.map (List.map (vAt A))) u = vAt A i := by
  rw [fl_map, List.length_map] at hu
  refine ⟨C.flatten[u], List.getElem_mem hu, vAt_eq ?_⟩
  rw [fl_map, List.getElem?_map, List.getElem?_eq_getElem hu]
  rfl
/-- a crossing has two visits alone -/
theorem sk_two {A : rn_L} {v w i : Nat} (hd : rn_ok A.flatten) (hv : v < A.flatten.length) (hw : w < A.flatten.length) (hi : i < A.flatten.length) (hvw : v ≠ w) (e : crs A w = crs A v) (hiv : i ≠ v) (hiw : i ≠ w) : crs A i ≠ crs A v := fun e9 => by
  have h1 : rn_mt A.flatten v w := ⟨hvw, _, _, vAt_of hv, vAt_of hw, e.symm⟩
  have h2 : rn_mt A.flatten v i := ⟨fun h => hiv h.symm, _, _, vAt_of hv, vAt_of hi, e9.symm⟩
  exact hiw ((mtf_eq hd h2).symm.trans (mtf_eq hd h1))
/-- the net that is smoothed at its first bad visit -/
theorem sk_sm {A : rn_L} {C : List (List Nat)} {k f v w : Nat} (hF : wkF A.flatten) (hg : gPre A k) (ho : ouT A k f) (hv : v < A.flatten.length) (hw : w < A.flatten.length) (hvw : v < w) (e : crs A w = crs A v) (hf : ∀ u, u < v → crs A u ≠ crs A v) (hb : uns A v ≠ 0) (hgood : ∀ u, u < v → (∀ t, t < u → crs A t ≠ crs A u) → uns A u = 0) (hN : C.flatten.Nodup) (hm : ∀ j, j ∈ C.flatten ↔ j < A.flatten.length ∧ j ≠ v ∧ j ≠ w) (hp : ∀ j, j < v → C.flatten[j]? = some j) : ∃ f', f' + 1 ≤ f ∧ wkF (C.map (List.map (vAt A))).flatten ∧ gPre (C.map (List.map (vAt A))) v ∧ ouT (C.map (List.map (vAt A))) v f' ∧ (C.map (List.map (vAt A))).flatten.length ≤ A.flatten.length := by
  have hd := wkF_ok hF
  obtain ⟨hkv, R, hR, hcov⟩ := ou_bad hg ho hv hf hb
  have inj : ∀ i j, i < A.flatten.length → j < A.flatten.length → vAt A i = vAt A j → i = j := fun i j hi hj e => nodup_at hF.1 (vAt_of hi) (by rw [e]; exact vAt_of hj)
  have hlen : C.flatten.length ≤ A.flatten.length := by
    have := nodup_le C.flatten (List.range A.flatten.length) hN (fun j hj => List.mem_range.mpr ((hm j).mp hj).1)
    rw [List.length_range] at this
    exact this
  have hvl : v ≤ C.flatten.length := by
    rcases Nat.lt_or_ge C.flatten.length v with h9 | h9
    · have := hp _ h9
      rw [List.getElem?_eq_none (Nat.le_refl _)] at this
      cases this
    · exact h9
  refine ⟨R.length, by omega, ⟨?_, fun p hp2 => ?_⟩, fun u hu hul hfu => ?_, ⟨R, Nat.le_refl _, fun u hu => ?_⟩, ?_⟩
  · rw [fl_map]
    exact nodup_map hN (fun i j hi hj e => inj i j ((hm i).mp hi).1 ((hm j).mp hj).1 e)
  · rw [fl_map] at hp2 ⊢
    obtain ⟨j, hj, e1⟩ := List.mem_map.mp hp2
    obtain ⟨hjl, hjv, hjw⟩ := (hm j).mp hj
    obtain ⟨g1, g2, -⟩ := hF.2 _ (List.mem_of_getElem? (vAt_of hjl))
    rw [← e1]
    refine ⟨g1, g2, ?_⟩
    obtain ⟨n1, p1, p2, a1, a2, a3⟩ := mtf_mt hd hjl
    rw [vAt_of hjl] at a1
    cases a1
    have hml := mtf_lt hd hjl
    have e2 := vAt_eq a2
    obtain ⟨-, k2, -⟩ := hF.2 _ (List.mem_of_getElem? a2)
    have hcm := crs_mtf hd hjl
    have hnv := sk_two hd hv hw hjl (by omega) e hjv hjw
    refine List.mem_map.mpr ⟨mtf A j, (hm _).mpr ⟨hml, fun e9 => ?_, fun e9 => ?_⟩, ?_⟩
    · rw [e9] at hcm
      exact hnv hcm.symm
    · rw [e9] at hcm
      exact hnv (hcm.symm.trans e)
    · have hne : (vAt A j).2 ≠ p2.2 := fun e9 => n1 (inj j (mtf A j) hjl hml (by rw [e2]; exact Prod.ext a3 e9))
      rw [e2]
      exact Prod.ext a3.symm (by show p2.2 = 1 - (vAt A j).2; omega)
  · have h1 : vAt (C.map (List.map (vAt A))) u = vAt A u := sk_pre hp hu
    have h2 : uns (C.map (List.map (vAt A))) u = uns A u := by unfold uns; rw [h1]
    rw [h2]
    refine hgood u hu (fun t ht e9 => hfu t ht ?_)
    unfold crs at e9 ⊢
    rw [h1, sk_pre hp (by omega)]
    exact e9
  · obtain ⟨i, hi, e1⟩ := sk_at hu
    obtain ⟨hil, hiv, hiw⟩ := (hm i).mp hi
    have e2 : crs (C.map (List.map (vAt A))) u = crs A i := by unfold crs; rw [e1]
    rw [e2]
    rcases hcov i hil (sk_two hd hv hw hil (by omega) e hiv hiw) with ⟨t, ht1, ht2, ht3⟩ | h9
    · refine Or.inl ⟨t, by omega, by rw [fl_map, List.length_map]; omega, ?_⟩
      rw [← ht3]
      unfold crs
      rw [sk_pre hp (by omega)]
    · exact Or.inr h9
  · rw [fl_map, List.length_map]
    exact hlen
theorem flp_vAt {A : rn_L} {b : Nat → Bool} {u : Nat} (hu : u < A.flatten.length) : vAt (A.map (List.map (flp b))) u = flp b (vAt A u) := by
  refine vAt_eq ?_
  rw [fl_map2, List.getElem?_map, vAt_of hu]
  rfl
theorem flp_len {A : rn_L} {b : Nat → Bool} : (A.map (List.map (flp b))).flatten.length = A.flatten.length := by
  rw [fl_map2, List.length_map]
/-- the net that is changed at its first bad visit -/
theorem sk_ch {A : rn_L} {k f v x : Nat} (hF : wkF A.flatten) (hg : gPre A k) (ho : ouT A k f) (hv : v < A.flatten.length) (hx : x = crs A v) (hf : ∀ u, u < v → crs A u ≠ crs A v) (hb : uns A v ≠ 0) (hgood : ∀ u, u < v → (∀ t, t < u → crs A t ≠ crs A u) → uns A u = 0) : ∃ f', f' + 1 ≤ f ∧ wkF (A.map (List.map (flp (fun y => decide (y = x))))).flatten ∧ gPre (A.map (List.map (flp (fun y => decide (y = x))))) (v + 1) ∧ ouT (A.map (List.map (flp (fun y => decide (y = x))))) (v + 1) f' := by
  obtain ⟨hkv, R, hR, hcov⟩ := ou_bad hg ho hv hf hb
  have ec : ∀ {u}, u < A.flatten.length → crs (A.map (List.map (flp (fun y => decide (y = x))))) u = crs A u := fun hu => by
    unfold crs
    rw [flp_vAt hu, flp_1]
  have eu : ∀ {u}, u < A.flatten.length → uns (A.map (List.map (flp (fun y => decide (y = x))))) u = if crs A u = x then 1 - uns A u else uns A u := fun {u} hu => by
    unfold uns
    rw [flp_vAt hu, flp_2]
    by_cases h9 : crs A u = x
    · rw [if_pos h9, if_pos (by exact decide_eq_true h9)]
    · rw [if_neg h9]
      exact if_neg (fun h8 => h9 (of_decide_eq_true h8))
  refine ⟨R.length, by omega, by rw [fl_map2]; exact wkF_flp hF, fun u hu hul hfu => ?_, R, Nat.le_refl _, fun u hu => ?_⟩
  · rw [flp_len] at hul
    rw [eu hul]
    by_cases huv : u = v
    · rw [huv, if_pos hx.symm]
      omega
    · have h1 : u < v := by omega
      rw [if_neg (by rw [hx]; exact hf u h1)]
      refine hgood u h1 (fun t ht e9 => hfu t ht ?_)
      rw [ec (by omega), ec hul]
      exact e9
  · rw [flp_len] at hu
    rw [ec hu]
    by_cases h9 : crs A u = crs A v
    · exact Or.inl ⟨v, by omega, by rw [flp_len]; exact hv, by rw [ec hv]; exact h9.symm⟩
    · rcases hcov u hu h9 with ⟨t, t1, t2, t3⟩ | h8
      · exact Or.inl ⟨t, by omega, by rw [flp_len]; exact t2, by rw [ec t2]; exact t3⟩
      · exact Or.inr h8
/-- no circles at all -/
theorem tp_leaf0 {j : Nat} {a : Int32} {s : Int64} {z : ow_MS} (hj : j ≤ 12) : Te (fun K => qe_X13_leaf K (nI 0) s a (nI j) z) (fun z1 => fr (fun g => g = 42 ∨ g = 44) z z1) := by
  refine e_X13_leaf ?_
  refine u_X13_leaf_0 ?_; unfold qm_X13_leaf_0
  rw [show nI 0 - 1 = -1 from rfl]
  refine w_rdF rfl (w_if (fun _ => w_rdJ ml42 rfl (by omega) rfl (w_if (fun _ => w_wrJ ml42 rfl (by omega) (w_some (fr_J (Or.inl rfl)))) (fun _ => w_wrJ ml42 rfl (by omega) (w_some (fr_J (Or.inl rfl)))))) (fun _ => ?_))
  refine u_X13_leaf_1 ?_; unfold qm_X13_leaf_1
  exact w_ifT (by decide) (w_some fr_rf)
theorem sk_pw {a : Nat} (ha : 1 ≤ a) : nI a - 40 + (-1) = nI (a - 1) - 40 ∧ nI a - 40 + 1 = nI (a + 1) - 40 := by
  constructor
  · rw [Int32.sub_eq_add_neg, Int32.add_assoc, Int32.add_comm (-40) (-1), ← Int32.add_assoc, ← Int32.sub_eq_add_neg, show nI a + (-1) = nI (a - 1) from by rw [← Int32.sub_eq_add_neg]; exact pk_sub (b := 1) ha]
  · rw [Int32.sub_eq_add_neg, Int32.add_assoc, Int32.add_comm (-40) 1, ← Int32.add_assoc, ← Int32.sub_eq_add_neg, nI_1]
theorem sk_pw2 {a : Nat} (ha : 2 ≤ a) : nI a - 40 + (-2) = nI (a - 2) - 40 ∧ nI a - 40 + 2 = nI (a + 2) - 40 := by
  constructor
  · rw [Int32.sub_eq_add_neg, Int32.add_assoc, Int32.add_comm (-40) (-2), ← Int32.add_assoc, ← Int32.sub_eq_add_neg, show nI a + (-2) = nI (a - 2) from by rw [← Int32.sub_eq_add_neg]; exact pk_sub (b := 2) ha]
  · rw [Int32.sub_eq_add_neg, Int32.add_assoc, Int32.add_comm (-40) 2, ← Int32.add_assoc, ← Int32.sub_eq_add_neg, show nI a + 2 = nI (a + 2) from nI_add a 2]
/-- the handles that skein at a depth may change -/
abbrev skH (d g : Nat) : Prop := 1000 * (d + 5) ≤ g ∨ g = 41 ∨ g = 42 ∨ g = 44
def metR (A : rn_L) (v : Nat) (y : ow_MS) : Prop := ∀ x, x < 40 → (y.2.1 41 x = 0 ∧ ∀ u, u < v → crs A u ≠ x) ∨ (y.2.1 41 x = 1 ∧ ∃ u, u < v ∧ crs A u = x)
theorem w_qd {dd : Nat} {x1 x4 x5 : Int32} {w2 : Int64} {z : ow_MS} {Q : ow_MS → Prop} (H : Tt (fun K k => q_X13_skein K (qd_X13_skein K dd) k 0 x1 x4 x5 0 0 0 0 0 w2 0 0 0 0 0 0 0 0 0 z) Q) : Te (fun K => qd_X13_skein K (dd + 1) x1 w2 x4 x5 z) Q := w_te H
theorem u_X13_skein_5 {dd : Nat} {x1 : Int32} {x4 : Int32} {x5 : Int32} {x7 : Int32} {x8 : Int32} {x9 : Int32} {x10 : Int32} {x11 : Int32} {w2 : Int64} {r6 : Nat} {r12 : Nat} {t0 : Int32} {t1 : Int32} {t2 : Int32} {t3 : Int32} {y0 : Int64} {y1 : Int64} {y2 : Int64} {z : ow_MS} {Q : ow_MS → Prop} (H : Tt (fun K k => qm_X13_skein_5 K (qd_X13_skein K dd) (q_X13_skein K (qd_X13_skein K dd) k) x1 x4 x5 x7 x8 x9 x10 x11 w2 r6 r12 t0 t1 t2 t3 y0 y1 y2 z) Q) : Tt (fun K k => q_X13_skein K (qd_X13_skein K dd) k 5 x1 x4 x5 x7 x8 x9 x10 x11 w2 r6 r12 t0 t1 t2 t3 y0 y1 y2 z) Q := w_un (fun _ _ => rfl) H
theorem u_X13_skein_13 {dd : Nat} {x1 : Int32} {x4 : Int32} {x5 : Int32} {x7 : Int32} {x8 : Int32} {x9 : Int32} {x10 : Int32} {x11 : Int32} {w2 : Int64} {r6 : Nat} {r12 : Nat} {t0 : Int32} {t1 : Int32} {t2 : Int32} {t3 : Int32} {y0 : Int64} {y1 : Int64} {y2 : Int64} {z : ow_MS} {Q : ow_MS → Prop} (H : Tt (fun K k => qm_X13_skein_13 K (qd_X13_skein K dd) (q_X13_skein K (qd_X13_skein K dd) k) x1 x4 x5 x7 x8 x9 x10 x11 w2 r6 r12 t0 t1 t2 t3 y0 y1 y2 z) Q) : Tt (fun K k => q_X13_skein K (qd_X13_skein K dd) k 13 x1 x4 x5 x7 x8 x9 x10 x11 w2 r6 r12 t0 t1 t2 t3 y0 y1 y2 z) Q := w_un (fun _ _ => rfl) H
theorem u_X13_skein_8 {dd : Nat} {x1 : Int32} {x4 : Int32} {x5 : Int32} {x7 : Int32} {x8 : Int32} {x9 : Int32} {x10 : Int32} {x11 : Int32} {w2 : Int64} {r6 : Nat} {r12 : Nat} {t0 : Int32} {t1 : Int32} {t2 : Int32} {t3 : Int32} {y0 : Int64} {y1 : Int64} {y2 : Int64} {z : ow_MS} {Q : ow_MS → Prop} (H : Tt (fun K k => qm_X13_skein_8 K (qd_X13_skein K dd) (q_X13_skein K (qd_X13_skein K dd) k) x1 x4 x5 x7 x8 x9 x10 x11 w2 r6 r12 t0 t1 t2 t3 y0 y1 y2 z) Q) : Tt (fun K k => q_X13_skein K (qd_X13_skein K dd) k 8 x1 x4 x5 x7 x8 x9 x10 x11 w2 r6 r12 t0 t1 t2 t3 y0 y1 y2 z) Q := w_un (fun _ _ => rfl) H
theorem u_X13_skein_11 {dd : Nat} {x1 : Int32} {x4 : Int32} {x5 : Int32} {x7 : Int32} {x8 : Int32} {x9 : Int32} {x10 : Int32} {x11 : Int32} {w2 : Int64} {r6 : Nat} {r12 : Nat} {t0 : Int32} {t1 : Int32} {t2 : Int32} {t3 : Int32} {y0 : Int64} {y1 : Int64} {y2 : Int64} {z : ow_MS} {Q : ow_MS → Prop} (H : Tt (fun K k => qm_X13_skein_11 K (qd_X13_skein K dd) (q_X13_skein K (qd_X13_skein K dd) k) x1 x4 x5 x7 x8 x9 x10 x11 w2 r6 r12 t0 t1 t2 t3 y0 y1 y2 z) Q) : Tt (fun K k => q_X13_skein K (qd_X13_skein K dd) k 11 x1 x4 x5 x7 x8 x9 x10 x11 w2 r6 r12 t0 t1 t2 t3 y0 y1 y2 z) Q := w_un (fun _ _ => rfl) H
theorem u_X13_skein_12 {dd : Nat} {x1 : Int32} {x4 : Int32} {x5 : Int32} {x7 : Int32} {x8 : Int32} {x9 : Int32} {x10 : Int32} {x11 : Int32} {w2 : Int64} {r6 : Nat} {r12 : Nat} {t0 : Int32} {t1 : Int32} {t2 : Int32} {t3 : Int32} {y0 : Int64} {y1 : Int64} {y2 : Int64} {z : ow_MS} {Q : ow_MS → Prop} (H : Tt (fun K k => qm_X13_skein_12 K (qd_X13_skein K dd) (q_X13_skein K (qd_X13_skein K dd) k) x1 x4 x5 x7 x8 x9 x10 x11 w2 r6 r12 t0 t1 t2 t3 y0 y1 y2 z) Q) : Tt (fun K k => q_X13_skein K (qd_X13_skein K dd) k 12 x1 x4 x5 x7 x8 x9 x10 x11 w2 r6 r12 t0 t1 t2 t3 y0 y1 y2 z) Q := w_un (fun _ _ => rfl) H
theorem u_X13_skein_9 {dd : Nat} {x1 : Int32} {x4 : Int32} {x5 : Int32} {x7 : Int32} {x8 : Int32} {x9 : Int32} {x10 : Int32} {x11 : Int32} {w2 : Int64} {r6 : Nat} {r12 : Nat} {t0 : Int32} {t1 : Int32} {t2 : Int32} {t3 : Int32} {y0 : Int64} {y1 : Int64} {y2 : Int64} {z : ow_MS} {Q : ow_MS → Prop} (H : Tt (fun K k => qm_X13_skein_9 K (qd_X13_skein K dd) (q_X13_skein K (qd_X13_skein K dd) k) x1 x4 x5 x7 x8 x9 x10 x11 w2 r6 r12 t0 t1 t2 t3 y0 y1 y2 z) Q) : Tt (fun K k => q_X13_skein K (qd_X13_skein K dd) k 9 x1 x4 x5 x7 x8 x9 x10 x11 w2 r6 r12 t0 t1 t2 t3 y0 y1 y2 z) Q := w_un (fun _ _ => rfl) H
theorem u_X13_skein_10 {dd : Nat} {x1 : Int32} {x4 : Int32} {x5 : Int32} {x7 : Int32} {x8 : Int32} {x9 : Int32} {x10 : Int32} {x11 : Int32} {w2 : Int64} {r6 : Nat} {r12 : Nat} {t0 : Int32} {t1 : Int32} {t2 : Int32} {t3 : Int32} {y0 : Int64} {y1 : Int64} {y2 : Int64} {z : ow_MS} {Q : ow_MS → Prop} (H : Tt (fun K k => qm_X13_skein_10 K (qd_X13_skein K dd) (q_X13_skein K (qd_X13_skein K dd) k) x1 x4 x5 x7 x8 x9 x10 x11 w2 r6 r12 t0 t1 t2 t3 y0 y1 y2 z) Q) : Tt (fun K k => q_X13_skein K (qd_X13_skein K dd) k 10 x1 x4 x5 x7 x8 x9 x10 x11 w2 r6 r12 t0 t1 t2 t3 y0 y1 y2 z) Q := w_un (fun _ _ => rfl) H
theorem u_X13_skein_7 {dd : Nat} {x1 : Int32} {x4 : Int32} {x5 : Int32} {x7 : Int32} {x8 : Int32} {x9 : Int32} {x10 : Int32} {x11 : Int32} {w2 : Int64} {r6 : Nat} {r12 : Nat} {t0 : Int32} {t1 : Int32} {t2 : Int32} {t3 : Int32} {y0 : Int64} {y1 : Int64} {y2 : Int64} {z : ow_MS} {Q : ow_MS → Prop} (H : Tt (fun K k => qm_X13_skein_7 K (qd_X13_skein K dd) (q_X13_skein K (qd_X13_skein K dd) k) x1 x4 x5 x7 x8 x9 x10 x11 w2 r6 r12 t0 t1 t2 t3 y0 y1 y2 z) Q) : Tt (fun K k => q_X13_skein K (qd_X13_skein K dd) k 7 x1 x4 x5 x7 x8 x9 x10 x11 w2 r6 r12 t0 t1 t2 t3 y0 y1 y2 z) Q := w_un (fun _ _ => rfl) H
theorem u_X13_skein_6 {dd : Nat} {x1 : Int32} {x4 : Int32} {x5 : Int32} {x7 : Int32} {x8 : Int32} {x9 : Int32} {x10 : Int32} {x11 : Int32} {w2 : Int64} {r6 : Nat} {r12 : Nat} {t0 : Int32} {t1 : Int32} {t2 : Int32} {t3 : Int32} {y0 : Int64} {y1 : Int64} {y2 : Int64} {z : ow_MS} {Q : ow_MS → Prop} (H : Tt (fun K k => qm_X13_skein_6 K (qd_X13_skein K dd) (q_X13_skein K (qd_X13_skein K dd) k) x1 x4 x5 x7 x8 x9 x10 x11 w2 r6 r12 t0 t1 t2 t3 y0 y1 y2 z) Q) : Tt (fun K k => q_X13_skein K (qd_X13_skein K dd) k 6 x1 x4 x5 x7 x8 x9 x10 x11 w2 r6 r12 t0 t1 t2 t3 y0 y1 y2 z) Q := w_un (fun _ _ => rfl) H
theorem u_X13_skein_2 {dd : Nat} {x1 : Int32} {x4 : Int32} {x5 : Int32} {x7 : Int32} {x8 : Int32} {x9 : Int32} {x10 : Int32} {x11 : Int32} {w2 : Int64} {r6 : Nat} {r12 : Nat} {t0 : Int32} {t1 : Int32} {t2 : Int32} {t3 : Int32} {y0 : Int64} {y1 : Int64} {y2 : Int64} {z : ow_MS} {Q : ow_MS → Prop} (H : Tt (fun K k => qm_X13_skein_2 K (qd_X13_skein K dd) (q_X13_skein K (qd_X13_skein K dd) k) x1 x4 x5 x7 x8 x9 x10 x11 w2 r6 r12 t0 t1 t2 t3 y0 y1 y2 z) Q) : Tt (fun K k => q_X13_skein K (qd_X13_skein K dd) k 2 x1 x4 x5 x7 x8 x9 x10 x11 w2 r6 r12 t0 t1 t2 t3 y0 y1 y2 z) Q := w_un (fun _ _ => rfl) H
theorem u_X13_skein_4 {dd : Nat} {x1 : Int32} {x4 : Int32} {x5 : Int32} {x7 : Int32} {x8 : Int32} {x9 : Int32} {x10 : Int32} {x11 : Int32} {w2 : Int64} {r6 : Nat} {r12 : Nat} {t0 : Int32} {t1 : Int32} {t2 : Int32} {t3 : Int32} {y0 : Int64} {y1 : Int64} {y2 : Int64} {z : ow_MS} {Q : ow_MS → Prop} (H : Tt (fun K k => qm_X13_skein_4 K (qd_X13_skein K dd) (q_X13_skein K (qd_X13_skein K dd) k) x1 x4 x5 x7 x8 x9 x10 x11 w2 r6 r12 t0 t1 t2 t3 y0 y1 y2 z) Q) : Tt (fun K k => q_X13_skein K (qd_X13_skein K dd) k 4 x1 x4 x5 x7 x8 x9 x10 x11 w2 r6 r12 t0 t1 t2 t3 y0 y1 y2 z) Q := w_un (fun _ _ => rfl) H
theorem u_X13_skein_3 {dd : Nat} {x1 : Int32} {x4 : Int32} {x5 : Int32} {x7 : Int32} {x8 : Int32} {x9 : Int32} {x10 : Int32} {x11 : Int32} {w2 : Int64} {r6 : Nat} {r12 : Nat} {t0 : Int32} {t1 : Int32} {t2 : Int32} {t3 : Int32} {y0 : Int64} {y1 : Int64} {y2 : Int64} {z : ow_MS} {Q : ow_MS → Prop} (H : Tt (fun K k => qm_X13_skein_3 K (qd_X13_skein K dd) (q_X13_skein K (qd_X13_skein K dd) k) x1 x4 x5 x7 x8 x9 x10 x11 w2 r6 r12 t0 t1 t2 t3 y0 y1 y2 z) Q) : Tt (fun K k => q_X13_skein K (qd_X13_skein K dd) k 3 x1 x4 x5 x7 x8 x9 x10 x11 w2 r6 r12 t0 t1 t2 t3 y0 y1 y2 z) Q := w_un (fun _ _ => rfl) H
theorem u_X13_skein_1 {dd : Nat} {x1 : Int32} {x4 : Int32} {x5 : Int32} {x7 : Int32} {x8 : Int32} {x9 : Int32} {x10 : Int32} {x11 : Int32} {w2 : Int64} {r6 : Nat} {r12 : Nat} {t0 : Int32} {t1 : Int32} {t2 : Int32} {t3 : Int32} {y0 : Int64} {y1 : Int64} {y2 : Int64} {z : ow_MS} {Q : ow_MS → Prop} (H : Tt (fun K k => qm_X13_skein_1 K (qd_X13_skein K dd) (q_X13_skein K (qd_X13_skein K dd) k) x1 x4 x5 x7 x8 x9 x10 x11 w2 r6 r12 t0 t1 t2 t3 y0 y1 y2 z) Q) : Tt (fun K k => q_X13_skein K (qd_X13_skein K dd) k 1 x1 x4 x5 x7 x8 x9 x10 x11 w2 r6 r12 t0 t1 t2 t3 y0 y1 y2 z) Q := w_un (fun _ _ => rfl) H
theorem u_X13_skein_0 {dd : Nat} {x1 : Int32} {x4 : Int32} {x5 : Int32} {x7 : Int32} {x8 : Int32} {x9 : Int32} {x10 : Int32} {x11 : Int32} {w2 : Int64} {r6 : Nat} {r12 : Nat} {t0 : Int32} {t1 : Int32} {t2 : Int32} {t3 : Int32} {y0 : Int64} {y1 : Int64} {y2 : Int64} {z : ow_MS} {Q : ow_MS → Prop} (H : Tt (fun K k => qm_X13_skein_0 K (qd_X13_skein K dd) (q_X13_skein K (qd_X13_skein K dd) k) x1 x4 x5 x7 x8 x9 x10 x11 w2 r6 r12 t0 t1 t2 t3 y0 y1 y2 z) Q) : Tt (fun K k => q_X13_skein K (qd_X13_skein K dd) k 0 x1 x4 x5 x7 x8 x9 x10 x11 w2 r6 r12 t0 t1 t2 t3 y0 y1 y2 z) Q := w_un (fun _ _ => rfl) H
theorem tp_skein : ∀ (f depth dd k j a : Nat) (A : rn_L) (s : Int64) (z : ow_MS), f < dd → depth + f ≤ 12 → j ≤ depth → wkF A.flatten → A.flatten.length ≤ 24 → A.length ≤ 6 + j → rn_At z (1000 * (depth + 4)) A [] → gPre A k → ouT A k f → 40 ≤ a + 2 * depth → a ≤ 40 + 2 * depth → Te (fun K => qd_X13_skein K dd (nI depth) s (nI a - 40) (nI j) z) (fun z1 => fr (skH depth) z z1) := by
  intro f
  induction f using Nat.strongRecOn with
  | ind f ih =>
  intro depth dd k j a A s z hdd hdf hj hF hl hC hA hg ho ha1 ha2
  obtain ⟨dd, rfl⟩ : ∃ d', dd = d' + 1 := ⟨dd - 1, by omega⟩
  have hd := wkF_ok hF
  have hn : mw_net (1000 * (depth + 4)) := pnL (by omega)
  have hn2 : mw_net (1000 * (depth + 1 + 4)) := pnL (by omega)
  have cx : ∀ {i}, i < A.flatten.length → crs A i < 40 ∧ uns A i < 2 := fun hi => by
    obtain ⟨g1, g2, -⟩ := hF.2 _ (List.mem_of_getElem? (vAt_of hi))
    exact ⟨g1, g2⟩
  let Q : ow_MS → Prop := fun z1 => fr (skH depth) z z1
  have mono41 : ∀ {y : ow_MS}, fr (fun g => g = 41) z y → fr (skH depth) z y := fun hf => fr_mono (fun g hg => Or.inr (Or.inl hg)) hf
  have aA : ∀ {y : ow_MS}, fr (fun g => g = 41) z y → rn_At y (1000 * (depth + 4)) A [] := fun hf => fr_At hf (fun g hg => by omega) hA
  have aV : ∀ {y : ow_MS}, fr (fun g => g = 41) z y → y.1 (1000 * (depth + 4) + 1) = nI A.flatten.length := fun hf => by rw [(aA hf).1, List.append_nil]
  have c5 : ∀ (x8 : Int32) (y : ow_MS), fr (fun g => g = 41) z y → Tt (fun K i => q_X13_skein K (qd_X13_skein K dd) i 5 (nI depth) (nI a - 40) (nI j) (-1) x8 0 0 0 s (1000 * (depth + 4)) 0 0 0 0 0 0 0 0 y) Q := by
    intro x8 y hf
    refine u_X13_skein_5 ?_; unfold qm_X13_skein_5
    refine w_ifT rfl (w_rdF (aA hf).2.1 (w_cs0 (R := fun z1 => fr (fun g => g = 42 ∨ g = 44) y z1) ?_ (fun z1 h9 => w_some ?_)))
    · rcases Nat.eq_zero_or_pos A.length with h0 | h0
      · rw [h0]; exact tp_leaf0 (by omega)
      · exact tp_leaf h0 (by omega) (by omega) (by omega) (by omega)
    · exact fr_tr (mono41 hf) (fr_mono (fun g hg => Or.inr (Or.inr hg)) h9)
  have bad : ∀ (v : Nat) (x8 : Int32) (y : ow_MS), fr (fun g => g = 41) z y → v < A.flatten.length → (∀ u, u < v → crs A u ≠ crs A v) → uns A v ≠ 0 → (∀ u, u < v → (∀ t, t < u → crs A t ≠ crs A u) → uns A u = 0) → Tt (fun K i => q_X13_skein K (qd_X13_skein K dd) i 5 (nI depth) (nI a - 40) (nI j) (nI v) x8 0 0 0 s (1000 * (depth + 4)) 0 0 0 0 0 0 0 0 y) Q := by
    intro v x8 y hf hv hfst hb hgood
    have hAy := aA hf
    obtain ⟨g1, g2, g3⟩ := rn_c_in A v hv
    have hml := mtf_lt hd hv
    have hmc := crs_mtf hd hv
    have hmn := mtf_ne hd hv
    have hvm : v < mtf A v := by
      rcases Nat.lt_or_ge (mtf A v) v with h8 | h8
      · exact absurd hmc (hfst _ h8)
      · omega
    obtain ⟨fc, hfc, kF, kg, ko⟩ := sk_ch (x := crs A v) hF hg ho hv rfl hfst hb hgood
    have c13 : ∀ (a' : Nat) (x : Int32) (x11 : Int32) (s1 : Int64) (y5 : ow_MS), x = nI a' - 40 → 40 ≤ a' + 2 * (depth + 1) → a' ≤ 40 + 2 * (depth + 1) → fr (skH depth) z y5 → rn_At y5 (1000 * (depth + 1 + 4)) (A.map (List.map (flp (fun y => decide (y = crs A v))))) [] → Tt (fun K i => q_X13_skein K (qd_X13_skein K dd) i 13 (nI depth) (nI a - 40) (nI j) (nI v) (nI (rn_c A v)) (nI (crs A v)) (nI (mtf A v)) x11 s (1000 * (depth + 4)) (1000 * (depth + 1 + 4)) x 0 (nI (depth + 1)) 0 0 s1 0 y5) Q := by
      intro a' x x11 s1 y5 hx h1 h2 hf5 hA5
      rw [hx]
      refine u_X13_skein_13 ?_; unfold qm_X13_skein_13
      refine w_cs0 (ih fc (by omega) (depth + 1) dd (v + 1) j a' _ s1 y5 (by omega) (by omega) (by omega) kF (by rw [flp_len]; exact hl) (by rw [List.length_map]; exact hC) hA5 kg ko h1 h2) (fun z6 h6 => w_some ?_)
      exact fr_tr hf5 (fr_mono (fun g hg => by unfold skH at hg ⊢; omega) h6)
    have c8 : ∀ (t0 : Int32), Tt (fun K i => q_X13_skein K (qd_X13_skein K dd) i 8 (nI depth) (nI a - 40) (nI j) (nI v) (nI (rn_c A v)) (nI (crs A v)) (nI (mtf A v)) 0 s (1000 * (depth + 4)) 0 t0 0 0 0 0 0 0 y) Q := by
      intro t0
      refine u_X13_skein_8 ?_; unfold qm_X13_skein_8
      rw [show nI depth + 1 = nI (depth + 1) from nI_1 _]
      refine w_rdN rfl (by omega) (w_cs0 (tp_smoothIn2 hn hn2 (by omega) hl (by omega) hAy g1 g2 g3 hvm hml) (fun z2 ⟨⟨q, hq, C, b1, b2, b3, b4, b5⟩, s2, f2⟩ => ?_))
      obtain ⟨fs, hfs, mF, mg, mo, ml⟩ := sk_sm hF hg ho hv hml hvm hmc hfst hb hgood b3 b4 (fun i hi => b5 i hi ⟨by omega, by omega, by omega⟩)
      have hz2 : fr (skH depth) z z2 := fr_tr (mono41 hf) (fr_mono (fun g hg => Or.inl (by omega)) f2)
      have hA2 : rn_At z2 (1000 * (depth + 4)) A [] := fr_At f2 (fun g hg => by omega) hAy
      have c11 : ∀ (a' : Nat) (x : Int32) (s1 : Int64), x = nI a' - 40 → 40 ≤ a' + 2 * (depth + 1) → a' ≤ 40 + 2 * (depth + 1) → Tt (fun K i => q_X13_skein K (qd_X13_skein K dd) i 11 (nI depth) (nI a - 40) (nI j) (nI v) (nI (rn_c A v)) (nI (crs A v)) (nI (mtf A v)) t0 s (1000 * (depth + 4)) (1000 * (depth + 1 + 4)) x 0 (nI (depth + 1)) 0 0 s1 0 z2) Q := by
        intro a' x s1 hx h1 h2
        rw [hx]
        refine u_X13_skein_11 ?_; unfold qm_X13_skein_11
        rw [show nI depth + 1 = nI (depth + 1) from nI_1 _, show nI j + 1 = nI (j + 1) from nI_1 _]
        refine w_cs0 (ih fs (by omega) (depth + 1) dd v (j + 1) a' _ s1 z2 (by omega) (by omega) (by omega) mF (by omega) (by rw [List.length_map, b1]; omega) b2 mg mo h1 h2) (fun z3 h3 => ?_)
        have hA3 : rn_At z3 (1000 * (depth + 4)) A [] := fr_At h3 (fun g hg => by unfold skH at hg; omega) hA2
        refine w_cs0 (tn_copy hn2 hn (by omega) (by omega) (by omega) hA3) (fun z4 ⟨hA4, f4, _⟩ => w_cs0 (tp_changeIn hn2 (by omega) (cx hv).1 (fun u hu => ⟨(cx hu).2, (cx hu).1⟩) hA4) (fun z5 ⟨hA5, f5, _⟩ => ?_))
        have hz5 : fr (skH depth) z z5 := fr_tr hz2 (fr_tr (fr_mono (fun g hg => by unfold skH at hg ⊢; omega) h3) (fr_tr (fr_mono (fun g hg => Or.inl (by omega)) f4) (fr_mono (fun g hg => Or.inl (by omega)) f5)))
        refine w_rdF rfl (w_if (fun _ => c13 40 _ _ _ z5 rfl (by omega) (by omega) hz5 hA5) (fun _ => w_if (fun _ => ?_) (fun _ => ?_)))
        · refine u_X13_skein_12 ?_; unfold qm_X13_skein_12
          exact c13 (a - 2) _ _ _ z5 (sk_pw2 (by omega)).1 (by omega) (by omega) hz5 hA5
        · refine u_X13_skein_12 ?_; unfold qm_X13_skein_12
          exact c13 (a + 2) _ _ _ z5 (sk_pw2 (by omega)).2 (by omega) (by omega) hz5 hA5
      have c9 : ∀ (y0 : Int64), Tt (fun K i => q_X13_skein K (qd_X13_skein K dd) i 9 (nI depth) (nI a - 40) (nI j) (nI v) (nI (rn_c A v)) (nI (crs A v)) (nI (mtf A v)) t0 s (1000 * (depth + 4)) (1000 * (depth + 1 + 4)) 0 (nI (depth + 1)) 0 0 y0 0 0 z2) Q := by
        intro y0
        refine u_X13_skein_9 ?_; unfold qm_X13_skein_9
        refine w_rdF rfl (w_if (fun _ => c11 40 _ _ rfl (by omega) (by omega)) (fun _ => w_if (fun _ => ?_) (fun _ => ?_)))
        · refine u_X13_skein_10 ?_; unfold qm_X13_skein_10
          exact c11 (a - 1) _ _ (sk_pw (by omega)).1 (by omega) (by omega)
        · refine u_X13_skein_10 ?_; unfold qm_X13_skein_10
          exact c11 (a + 1) _ _ (sk_pw (by omega)).2 (by omega) (by omega)
      exact w_if (fun _ => c9 _) (fun _ => c9 _)
    have c7 : ∀ (d w : Nat), w + d = mtf A v → v < w → Tt (fun K i => q_X13_skein K (qd_X13_skein K dd) i 7 (nI depth) (nI a - 40) (nI j) (nI v) (nI (rn_c A v)) (nI (crs A v)) (nI w) 0 s (1000 * (depth + 4)) 0 0 0 0 0 0 0 0 y) Q := by
      intro d
      induction d with
      | zero =>
        intro w hw hvw
        have hw : w = mtf A v := by omega
        subst hw
        refine u_X13_skein_7 ?_; unfold qm_X13_skein_7
        exact w_rdI (pl4 hn) rfl (by omega) (at_cu hAy hml).1 (w_ifT (by rw [hmc]) (w_rdI (pl6 hn) rfl (cx hv).1 rfl (w_if (fun _ => c8 _) (fun _ => c8 _))))
      | succ d ih7 =>
        intro w hw hvw
        have hwl : w < A.flatten.length := by omega
        refine u_X13_skein_7 ?_; unfold qm_X13_skein_7
        rw [show nI w + 1 = nI (w + 1) from nI_1 _]
        refine w_rdI (pl4 hn) rfl (by omega) (at_cu hAy hwl).1 (w_ifF (fun e9 => ?_) (ih7 (w + 1) (by omega) (by omega)))
        have e8 := (nI_eq (by have := (cx hwl).1; omega) (by have := (cx hv).1; omega)).mp e9
        exact sk_two hd hv hml hwl (by omega) hmc (by omega) (by omega) e8
    have c6 : ∀ (d c : Nat), c + d = rn_c A v → Tt (fun K i => q_X13_skein K (qd_X13_skein K dd) i 6 (nI depth) (nI a - 40) (nI j) (nI v) (nI c) 0 0 0 s (1000 * (depth + 4)) 0 0 0 0 0 0 0 0 y) Q := by
      intro d
      induction d with
      | zero =>
        intro c hc
        have hc : c = rn_c A v := by omega
        subst hc
        refine u_X13_skein_6 ?_; unfold qm_X13_skein_6
        rw [show nI (rn_c A v) + 1 = nI (rn_c A v + 1) from nI_1 _, show nI v + 1 = nI (v + 1) from nI_1 _]
        exact w_rdI (pl3 hn) rfl (by omega) (hAy.2.2.1 _ (by omega)) (w_ltT (by have := rn_b_le A (rn_c A v + 1); unfold rn_b at this; omega) g3 (w_rdI (pl4 hn) rfl (by omega) (at_cu hAy hv).1 (c7 (mtf A v - (v + 1)) (v + 1) (by omega) (by omega))))
      | succ d ih6 =>
        intro c hc
        refine u_X13_skein_6 ?_; unfold qm_X13_skein_6
        rw [show nI c + 1 = nI (c + 1) from nI_1 _]
        have hle : rn_b A (c + 1) ≤ rn_b A (rn_c A v) := rn_b_mono2 (by omega)
        exact w_rdI (pl3 hn) rfl (by omega) (hAy.2.2.1 _ (by omega)) (w_ltF (by omega) (show rn_b A (c + 1) ≤ v by omega) (ih6 (c + 1) (by omega)))
    refine u_X13_skein_5 ?_; unfold qm_X13_skein_5
    exact w_ifF (rn_neg1 (by omega)) (c6 (rn_c A v) 0 (by omega))
  have scan : ∀ (d v : Nat) (y : ow_MS), v + d = A.flatten.length → fr (fun g => g = 41) z y → metR A v y → (∀ u, u < v → (∀ t, t < u → crs A t ≠ crs A u) → uns A u = 0) → Tt (fun K i => q_X13_skein K (qd_X13_skein K dd) i 2 (nI depth) (nI a - 40) (nI j) (-1) (nI v) 0 0 0 s (1000 * (depth + 4)) 0 0 0 0 0 0 0 0 y) Q := by
    intro d
    induction d with
    | zero =>
      intro v y hv hf hm hgd
      refine u_X13_skein_2 ?_; unfold qm_X13_skein_2
      exact w_rdF (aV hf) (w_leT (by omega) (by omega) (c5 _ y hf))
    | succ d ihs =>
      intro v y hv hf hm hgd
      have hvl : v < A.flatten.length := by omega
      have hcv := cx hvl
      have next : ∀ (y2 : ow_MS), fr (fun g => g = 41) z y2 → metR A (v + 1) y2 → (∀ u, u < v + 1 → (∀ t, t < u → crs A t ≠ crs A u) → uns A u = 0) → Tt (fun K i => q_X13_skein K (qd_X13_skein K dd) i 4 (nI depth) (nI a - 40) (nI j) (-1) (nI v) (nI (crs A v)) 0 0 s (1000 * (depth + 4)) 0 0 0 0 0 0 0 0 y2) Q := by
        intro y2 hf2 hm2 hg2
        refine u_X13_skein_4 ?_; unfold qm_X13_skein_4
        rw [show nI v + 1 = nI (v + 1) from nI_1 _]
        exact ihs (v + 1) y2 (by omega) hf2 hm2 hg2
      refine u_X13_skein_2 ?_; unfold qm_X13_skein_2
      refine w_rdF (aV hf) (w_leF (by omega) hvl (w_ifT rfl (w_rdI (pl4 hn) rfl (by omega) (at_cu (aA hf) hvl).1 (w_rdI ml41 rfl hcv.1 rfl ?_))))
      rcases hm _ hcv.1 with ⟨e0, hno⟩ | ⟨e1, u, hu, hue⟩
      · rw [e0]
        have hf2 : fr (fun g => g = 41) z (usI y 41 (crs A v) (vp_nar .boolean 1)) := fr_I2 hf rfl
        refine w_ifT rfl (w_wrZ ml41 rfl hcv.1 (w_rdI (pl5 hn) rfl (by omega) (at_cu (aA hf2) hvl).2 (w_if (fun h9 => ?_) (fun h9 => ?_))))
        · have hb : uns A v ≠ 0 := fun e => by rw [e] at h9; exact absurd h9 (by decide)
          refine u_X13_skein_3 ?_; unfold qm_X13_skein_3
          refine u_X13_skein_4 ?_; unfold qm_X13_skein_4
          rw [show nI v + 1 = nI (v + 1) from nI_1 _]
          refine u_X13_skein_2 ?_; unfold qm_X13_skein_2
          exact w_rdF (aV hf2) (w_le (by omega) (by omega) (fun _ => bad v _ _ hf2 hvl hno hb hgd) (fun _ => w_ifF (rn_neg1 (by omega)) (bad v _ _ hf2 hvl hno hb hgd)))
        · have hb : uns A v = 0 := by
            rcases Nat.eq_zero_or_pos (uns A v) with h8 | h8
            · exact h8
            · exact absurd (show nI (uns A v) = 1 by rw [show uns A v = 1 by omega]; rfl) h9
          refine u_X13_skein_3 ?_; unfold qm_X13_skein_3
          refine next _ hf2 (fun x hx => ?_) (fun u hu hfu => ?_)
          · by_cases hxv : x = crs A v
            · rw [hxv]
              exact Or.inr ⟨po_usI_at.trans (by decide), v, by omega, rfl⟩
            · rcases hm x hx with ⟨a1, a2⟩ | ⟨a1, u, hu, a2⟩
              · refine Or.inl ⟨rd_ne hxv a1, fun u hu e => ?_⟩
                by_cases huv : u = v
                · rw [huv] at e
                  exact hxv e.symm
                · exact a2 u (by omega) e
              · exact Or.inr ⟨rd_ne hxv a1, u, by omega, a2⟩
          · by_cases huv : u = v
            · rw [huv]; exact hb
            · exact hgd u (by omega) hfu
      · rw [e1]
        refine w_ifF (by decide) (next y hf (fun x hx => ?_) (fun t ht hft => ?_))
        · rcases hm x hx with ⟨a1, a2⟩ | ⟨a1, t, ht, a2⟩
          · refine Or.inl ⟨a1, fun t ht e => ?_⟩
            by_cases htv : t = v
            · rw [htv] at e
              exact a2 u hu (hue.trans e)
            · exact a2 t (by omega) e
          · exact Or.inr ⟨a1, t, by omega, a2⟩
        · by_cases htv : t = v
          · rw [htv] at hft
            exact absurd hue (hft u hu)
          · exact hgd t (by omega) hft
  have clr : ∀ (d i : Nat) (y : ow_MS), i + d = 40 → fr (fun g => g = 41) z y → (∀ x, x < i → y.2.1 41 x = 0) → Tt (fun K t => q_X13_skein K (qd_X13_skein K dd) t 1 (nI depth) (nI a - 40) (nI j) (nI i) 0 0 0 0 s (1000 * (depth + 4)) 0 0 0 0 0 0 0 0 y) Q := by
    intro d
    induction d with
    | zero =>
      intro i y hi hf hx
      refine u_X13_skein_1 ?_; unfold qm_X13_skein_1
      exact w_leT (a := 40) (by omega) (by omega) (scan A.flatten.length 0 y (by omega) hf (fun x h9 => Or.inl ⟨hx x (by omega), fun u hu => absurd hu (by omega)⟩) (fun u hu => absurd hu (by omega)))
    | succ d ihc =>
      intro i y hi hf hx
      refine u_X13_skein_1 ?_; unfold qm_X13_skein_1
      rw [show nI i + 1 = nI (i + 1) from nI_1 _]
      refine w_leF (a := 40) (by omega) (by omega) (w_wrZ ml41 rfl (by omega) (ihc (i + 1) _ (by omega) (fr_I2 hf rfl) (fun x h9 => ?_)))
      by_cases hxi : x = i
      · rw [hxi]
        exact po_usI_at.trans (by decide)
      · exact rd_ne hxi (hx x (by omega))
  refine w_qd ?_
  refine u_X13_skein_0 ?_; unfold qm_X13_skein_0
  exact w_rdN rfl (by omega) (clr 40 0 z (by omega) fr_rf (fun x hx => absurd hx (by omega)))
end
section
/-! 99zzzj.conway -/
/-! conway and two have an answer -/
theorem i32_rng {x : Int32} {c : Nat} (hc : c ≤ 1000) (h1 : ¬ x < -(nI c)) (h2 : ¬ nI c < x) : ∃ a, a ≤ 2 * c ∧ x = nI a - nI c := by
  have e1 : (nI c).toInt = c := nI_toInt (by omega)
  have e2 : (-(nI c)).toInt = -(c : Int) := by
    rw [Int32.toInt_neg, e1]
    exact Int.bmod_eq_of_le (by omega) (by omega)
  have g1 : -(c : Int) ≤ x.toInt := by
    rw [Int32.lt_iff_toInt_lt, e2] at h1
    omega
  have g2 : x.toInt ≤ (c : Int) := by
    rw [Int32.lt_iff_toInt_lt, e1] at h2
    omega
  refine ⟨(x.toInt + c).toNat, by omega, ?_⟩
  apply Int32.toInt_inj.mp
  have e3 : (nI (x.toInt + c).toNat).toInt = x.toInt + c := by
    rw [nI_toInt (by omega)]
    omega
  rw [Int32.toInt_sub, e1, e3]
  rw [Int.bmod_eq_of_le (by omega) (by omega)]
  omega
section CONW
variable {X : (Nat → Nat → Int32) → Prop} {z : ow_MS}
theorem gI_cash {P : Nat → Prop} {z z1 : ow_MS} (hf : fr P z z1) (hP : ∀ g, P g → (g = 43 ∨ g = 45 ∨ g = 50 ∨ g = 65 ∨ g = 67) ∨ ¬ per g) (hr : gCash z1) (h : gI X z) : gI X z1 := by
  obtain ⟨h1, h2, h3, h4, h5, h6, h7⟩ := h
  have no : ∀ g, per g → ¬ (g = 43 ∨ g = 45 ∨ g = 50 ∨ g = 65 ∨ g = 67) → ¬ P g := fun g hg hn h9 => (hP g h9).elim hn (fun h8 => h8 hg)
  exact ⟨gTape_fr hf (no 11 (by decide) (by decide)) h1, gRows_fr hf (no 12 (by decide) (by decide)) h2, gList_fr hf (no 20 (by decide) (by decide)) (no 21 (by decide) (by decide)) (no 22 (by decide) (by decide)) h3, gSum_fr hf (no 35 (by decide) (by decide)) (no 39 (by decide) (by decide)) (no 36 (by decide) (by decide)) h4, hr, gBrs_fr hf (no 94 (by decide) (by decide)) (no 95 (by decide) (by decide)) (no 96 (by decide) (by decide)) h6, gX_fr hf (fun g hg h9 => no g (by unfold per; omega) (by omega) hg) h7⟩
/-- a row of 32 that is copied -/
theorem rc_cpy {z z1 : ow_MS} {h o g : Nat} {T : List Nat} (hr : rc_At z h o T) (he : ∀ i, i < 32 → z1.2.1 g i = z.2.1 h (o + i)) : rc_At z1 g 0 T := by
  obtain ⟨h1, h2, h3, h4⟩ := hr
  refine ⟨h1, h2, by rw [he 0 (by omega)]; exact h3, fun k t hk => ?_⟩
  have := (List.getElem?_eq_some_iff.mp hk).1
  rw [Nat.zero_add, he (k + 1) (by omega)]
  exact h4 k t hk
theorem tp_skein0 {A : rn_L} {c : Nat} (hok : okF A.flatten c) (hc : c ≤ 12) (hC : A.length ≤ 6) (hA : rn_At z 4000 A []) : Te (fun K => qe_X13_skein K 0 1 0 0 z) (fun z1 => fr (skH 0) z z1) := by
  have hl := okF_len hok
  have hw : wkF A.flatten := okF_wk (by omega) hok
  have ho : ouT A 0 c := ⟨List.range c, by rw [List.length_range]; exact Nat.le_refl _, fun v hv => Or.inr (List.mem_range.mpr ((hok.2 _).mp (List.mem_of_getElem? (vAt_of hv))).1)⟩
  exact tp_skein c 0 16 0 0 40 A 1 z (by omega) (by omega) (Nat.le_refl _) hw (by omega) (by omega) hA (fun v hv => absurd hv (by omega)) ho (by omega) (by omega)
theorem u_X13_conway_4 {x1 : Int32} {x2 : Int32} {x3 : Int32} {z : ow_MS} {Q : (Int32 × ow_MS) → Prop} (H : Tt (fun K k => qm_X13_conway_4 K (q_X13_conway K k) x1 x2 x3 z) Q) : Tt (fun K k => q_X13_conway K k 4 x1 x2 x3 z) Q := w_un (fun _ _ => rfl) H
theorem u_X13_conway_3 {x1 : Int32} {x2 : Int32} {x3 : Int32} {z : ow_MS} {Q : (Int32 × ow_MS) → Prop} (H : Tt (fun K k => qm_X13_conway_3 K (q_X13_conway K k) x1 x2 x3 z) Q) : Tt (fun K k => q_X13_conway K k 3 x1 x2 x3 z) Q := w_un (fun _ _ => rfl) H
theorem e_X13_conway {x1 : Int32} {x2 : Int32} {z : ow_MS} {Q : (Int32 × ow_MS) → Prop} (H : Tt (fun K k => q_X13_conway K k 0 x1 x2 0 z) Q) : Te (fun K => qe_X13_conway K x1 x2 z) Q := w_te H
theorem u_X13_conway_0 {x1 : Int32} {x2 : Int32} {x3 : Int32} {z : ow_MS} {Q : (Int32 × ow_MS) → Prop} (H : Tt (fun K k => qm_X13_conway_0 K (q_X13_conway K k) x1 x2 x3 z) Q) : Tt (fun K k => q_X13_conway K k 0 x1 x2 x3 z) Q := w_un (fun _ _ => rfl) H
theorem u_X13_conway_2 {x1 : Int32} {x2 : Int32} {x3 : Int32} {z : ow_MS} {Q : (Int32 × ow_MS) → Prop} (H : Tt (fun K k => qm_X13_conway_2 K (q_X13_conway K k) x1 x2 x3 z) Q) : Tt (fun K k => q_X13_conway K k 2 x1 x2 x3 z) Q := w_un (fun _ _ => rfl) H
theorem u_X13_conway_1 {x1 : Int32} {x2 : Int32} {x3 : Int32} {z : ow_MS} {Q : (Int32 × ow_MS) → Prop} (H : Tt (fun K k => qm_X13_conway_1 K (q_X13_conway K k) x1 x2 x3 z) Q) : Tt (fun K k => q_X13_conway K k 1 x1 x2 x3 z) Q := w_un (fun _ _ => rfl) H
theorem tp_conway {d k : Int32} (h : gI X z) : Te (fun K => qe_X13_conway K d k z) (fun r => gI X r.2) := by
  have h1 := gI_1 (c := 0) h
  have c4 : ∀ {x1 x2 : Int32} {y : ow_MS}, gI X y → Tt (fun K i => q_X13_conway K i 4 x1 x2 0 y) (fun r => gI X r.2) := by
    intro x1 x2 y hy
    refine u_X13_conway_4 ?_; unfold qm_X13_conway_4
    exact w_some hy
  have c3 : ∀ {x1 x2 : Int32} {y : ow_MS}, gI X y → Tt (fun K i => q_X13_conway K i 3 x1 x2 0 y) (fun r => gI X r.2) := by
    intro x1 x2 y hy
    refine u_X13_conway_3 ?_; unfold qm_X13_conway_3
    refine w_if (fun _ => c4 hy) (fun h0 => w_if (fun h9 => ?_) (fun _ => c4 hy))
    obtain ⟨a, ha, rfl⟩ := nI_of h0
    exact w_rdJ ml42 rfl ((nI_ltI (b := 40) ha (by omega)).mp h9) rfl (w_some hy)
  refine e_X13_conway ?_
  refine u_X13_conway_0 ?_; unfold qm_X13_conway_0
  refine w_wrF (w_has h1.2.1 (w_ifT rfl (w_fail h1)) (fun e A sg he hx hv hne => w_ifF (by decide) ?_))
  subst hx
  obtain ⟨⟨T1, k1⟩, kC⟩ := h1.2.2.2.2.1
  have hTl := hv.1.1
  rw [show (32 : Int32) * nI e = nI (32 * e) from pk_mul 32 e]
  refine w_cs1 (tr_same (o := 32 * e) (p := 0) ml12 ml43 (by omega) (by omega) (by omega) (by omega) hv.1 k1) (fun a y e9 => ?_)
  cases e9
  refine w_if (fun _ => ?_) (fun _ => c3 h1)
  obtain ⟨c, hok, hc⟩ := hv.2.1
  have lp2 : ∀ (dd i : Nat) (y1 y : ow_MS), i + dd = 32 → gI X y1 → y1.2.1 12 = (usF z 1 0).2.1 12 → fr (fun g => g = 43) y1 y → (∀ t, t < i → y.2.1 43 t = y1.2.1 12 (32 * e + t)) → Tt (fun K t => q_X13_conway K t 2 (nI e) k (nI i) y) (fun r => gI X r.2) := by
    intro dd
    induction dd with
    | zero =>
      intro i y1 y hi g1 e12 hf ht
      refine u_X13_conway_2 ?_; unfold qm_X13_conway_2
      refine w_leT (a := 32) (by omega) (by omega) (c3 (gI_cash hf (fun g hg => Or.inl (Or.inl hg)) ?_ g1))
      obtain ⟨-, ⟨T2, k2⟩, ⟨T3, k3⟩, ⟨T4, k4⟩, cc, k5, k6⟩ := g1.2.2.2.2.1
      have hrow : rc_At y1 12 (32 * e) (tk sg A) := by
        obtain ⟨a1, a2, a3, a4⟩ := hv.1
        exact ⟨a1, a2, by rw [e12]; exact a3, fun k t hk => by rw [e12]; exact a4 k t hk⟩
      exact ⟨⟨_, rc_cpy hrow (fun t h9 => ht t (by omega))⟩, ⟨T2, rc_fr hf (by decide) k2⟩, ⟨T3, rc_fr hf (by decide) k3⟩, ⟨T4, rc_fr hf (by decide) k4⟩, cc, k5, by rw [(hf 67 (by decide)).1]; exact k6⟩
    | succ dd ih =>
      intro i y1 y hi g1 e12 hf ht
      refine u_X13_conway_2 ?_; unfold qm_X13_conway_2
      rw [show (32 : Int32) * nI e = nI (32 * e) from pk_mul 32 e, nI_add, nI_1]
      refine w_leF (a := 32) (by omega) (by omega) (w_rdI ml12 rfl (by omega) rfl (w_wrI ml43 rfl (by omega) (ih (i + 1) y1 _ (by omega) g1 e12 (fr_I2 hf rfl) (fun t h9 => ?_))))
      by_cases hti : t = i
      · rw [hti, po_usI_at, (hf 12 (by decide)).2.1]
      · exact rd_ne hti (ht t (by omega))
  have lp1 : ∀ (dd i : Nat) (y : ow_MS), i + dd = 40 → fr (fun g => g = 42) (usF z 1 0) y → Tt (fun K t => q_X13_conway K t 1 (nI e) k (nI i) y) (fun r => gI X r.2) := by
    intro dd
    induction dd with
    | zero =>
      intro i y hi hf
      have g1 : gI X y := gI_fr hf (fun g hg => by rw [hg]; decide) h1
      have hvy : vRow y 12 (32 * e) A sg := ⟨rc_fr hf (by decide) hv.1, hv.2⟩
      refine u_X13_conway_1 ?_; unfold qm_X13_conway_1
      refine w_leT (a := 40) (by omega) (by omega) (w_rdN (i := 0) rfl (by omega) (w_cs0 (to_open (pnL (by omega)) he hvy) (fun z2 ⟨o2, f2⟩ => w_okZ (Or.inl rfl) (w_wrF ?_))))
      have hA : rn_At (usF z2 46 0) 4000 A [] := fr_At (fr_F (P := fun g => g = 46) rfl) (fun g hg => by omega) o2.1.1
      refine w_cs0 (tp_skein0 hok hc hv.2.2 hA) (fun z3 f3 => ?_)
      have hf3 : fr (fun g => 4000 ≤ g ∨ g = 46 ∨ g = 41 ∨ g = 42 ∨ g = 44) y z3 := fr_tr (fr_mono (fun g hg => by omega) f2) (fr_tr (fr_F (Or.inr (Or.inl rfl))) (fr_mono (fun g hg => by unfold skH at hg; omega) f3))
      have g3 : gI X z3 := gI_fr hf3 (fun g hg => by unfold per; omega) g1
      exact lp2 32 0 z3 z3 (by omega) g3 (by rw [(hf3 12 (by omega)).2.1, (hf 12 (by decide)).2.1]) fr_rf (fun t ht => absurd ht (by omega))
    | succ dd ih =>
      intro i y hi hf
      refine u_X13_conway_1 ?_; unfold qm_X13_conway_1
      rw [nI_1]
      exact w_leF (a := 40) (by omega) (by omega) (w_wrJ ml42 rfl (by omega) (ih (i + 1) _ (by omega) (fr_J2 hf rfl)))
  exact lp1 40 0 _ (by omega) fr_rf
theorem u_X13_two_4 {x1 : Int32} {x2 : Int32} {x3 : Int32} {x4 : Int32} {z : ow_MS} {Q : (Int32 × ow_MS) → Prop} (H : Tt (fun K k => qm_X13_two_4 K (q_X13_two K k) x1 x2 x3 x4 z) Q) : Tt (fun K k => q_X13_two K k 4 x1 x2 x3 x4 z) Q := w_un (fun _ _ => rfl) H
theorem u_X13_two_3 {x1 : Int32} {x2 : Int32} {x3 : Int32} {x4 : Int32} {z : ow_MS} {Q : (Int32 × ow_MS) → Prop} (H : Tt (fun K k => qm_X13_two_3 K (q_X13_two K k) x1 x2 x3 x4 z) Q) : Tt (fun K k => q_X13_two K k 3 x1 x2 x3 x4 z) Q := w_un (fun _ _ => rfl) H
theorem e_X13_two {x1 : Int32} {x2 : Int32} {x3 : Int32} {z : ow_MS} {Q : (Int32 × ow_MS) → Prop} (H : Tt (fun K k => q_X13_two K k 0 x1 x2 x3 0 z) Q) : Te (fun K => qe_X13_two K x1 x2 x3 z) Q := w_te H
theorem u_X13_two_0 {x1 : Int32} {x2 : Int32} {x3 : Int32} {x4 : Int32} {z : ow_MS} {Q : (Int32 × ow_MS) → Prop} (H : Tt (fun K k => qm_X13_two_0 K (q_X13_two K k) x1 x2 x3 x4 z) Q) : Tt (fun K k => q_X13_two K k 0 x1 x2 x3 x4 z) Q := w_un (fun _ _ => rfl) H
theorem u_X13_two_2 {x1 : Int32} {x2 : Int32} {x3 : Int32} {x4 : Int32} {z : ow_MS} {Q : (Int32 × ow_MS) → Prop} (H : Tt (fun K k => qm_X13_two_2 K (q_X13_two K k) x1 x2 x3 x4 z) Q) : Tt (fun K k => q_X13_two K k 2 x1 x2 x3 x4 z) Q := w_un (fun _ _ => rfl) H
theorem u_X13_two_1 {x1 : Int32} {x2 : Int32} {x3 : Int32} {x4 : Int32} {z : ow_MS} {Q : (Int32 × ow_MS) → Prop} (H : Tt (fun K k => qm_X13_two_1 K (q_X13_two K k) x1 x2 x3 x4 z) Q) : Tt (fun K k => q_X13_two K k 1 x1 x2 x3 x4 z) Q := w_un (fun _ _ => rfl) H
theorem tp_two {b k j : Int32} (h : gI X z) : Te (fun K => qe_X13_two K b k j z) (fun r => gI X r.2) := by
  have h1 := gI_1 (c := 0) h
  have c4 : ∀ {x1 x2 x3 : Int32} {y : ow_MS}, gI X y → Tt (fun K i => q_X13_two K i 4 x1 x2 x3 0 y) (fun r => gI X r.2) := by
    intro x1 x2 x3 y hy
    refine u_X13_two_4 ?_; unfold qm_X13_two_4
    exact w_some hy
  have c3 : ∀ {x1 x2 x3 : Int32} {y : ow_MS}, gI X y → Tt (fun K i => q_X13_two K i 3 x1 x2 x3 0 y) (fun r => gI X r.2) := by
    intro x1 x2 x3 y hy
    refine u_X13_two_3 ?_; unfold qm_X13_two_3
    refine w_if (fun _ => c4 hy) (fun h2 => w_if (fun _ => c4 hy) (fun h3 => w_if (fun _ => c4 hy) (fun h4 => w_if (fun h5 => ?_) (fun _ => c4 hy))))
    obtain ⟨a, ha, rfl⟩ := i32_rng (c := 64) (by omega) h2 h3
    obtain ⟨t, ht, rfl⟩ := i32_rng (x := x3) (c := 20) (by omega) h4 (fun h9 => by
      rw [Int32.lt_iff_toInt_lt] at h9
      rw [Int32.le_iff_toInt_le] at h5
      exact absurd h9 (Int.not_lt.mpr h5))
    have e1 : nI t - nI 20 + 20 = nI t := by
      show nI t - 20 + 20 = nI t
      exact Int32.sub_add_cancel _ _
    have e2 : (129 : Int32) * (nI t - nI 20 + 20) + (nI a - nI 64) + 64 = nI (129 * t + a) := by
      rw [e1, show (129 : Int32) * nI t = nI (129 * t) from pk_mul 129 t, i32_as, nI_add]
      show nI (129 * t + a) - 64 + 64 = _
      exact Int32.sub_add_cancel _ _
    rw [e2]
    exact w_rdJ ml44 rfl (by omega) rfl (w_some hy)
  refine e_X13_two ?_
  refine u_X13_two_0 ?_; unfold qm_X13_two_0
  refine w_wrF (w_hasB h1.2.2.2.2.2.1 (w_ifT rfl (w_fail h1)) (fun c n l hc hx hh => w_ifF (by decide) ?_))
  subst hx
  have p2 := hh.2.1
  have p3 := hh.2.2.1
  refine w_rdI ml95 rfl (by omega) hh.2.2.2.2.1 (w_le (b := 10) (by omega) (by omega) (fun h12 => w_cs0 (tp_close hc hh) (fun y ⟨⟨q, q1, q2⟩, q3, q4⟩ => ?_)) (fun _ => w_fail h1))
  have g1 : gI X y := gI_fr q4 (fun g hg => by unfold frK at hg; unfold per; omega) h1
  refine w_cs0 (tm_pack (h := 27) (o := 0) pn3 (by omega) ml27 (by omega) (by omega) (close_net (by omega) p2 q1 q2 q3)) (fun y2 ⟨r2, f2, _⟩ => ?_)
  have g2 : gI X y2 := gI_fr f2 (fun g hg => by unfold frQ at hg; unfold per; omega) g1
  obtain ⟨A, sg, hv⟩ := r2
  obtain ⟨_, ⟨T1, k1⟩, kC⟩ := g2.2.2.2.2.1
  have hTl := hv.1.1
  refine w_cs1 (tr_same (o := 0) (p := 0) ml27 ml45 (by omega) (by omega) (by omega) (by omega) hv.1 k1) (fun a y9 e9 => ?_)
  cases e9
  refine w_if (fun _ => ?_) (fun _ => c3 g2)
  obtain ⟨cc, hok, hcc⟩ := hv.2.1
  have lp2 : ∀ (dd i : Nat) (y1 y : ow_MS), i + dd = 32 → gI X y1 → y1.2.1 27 = y2.2.1 27 → fr (fun g => g = 45) y1 y → (∀ t, t < i → y.2.1 45 t = y1.2.1 27 (0 + t)) → Tt (fun K t => q_X13_two K t 2 (nI c) k j (nI i) y) (fun r => gI X r.2) := by
    intro dd
    induction dd with
    | zero =>
      intro i y1 y hi g1 e12 hf ht
      refine u_X13_two_2 ?_; unfold qm_X13_two_2
      refine w_leT (a := 32) (by omega) (by omega) (c3 (gI_cash hf (fun g hg => Or.inl (Or.inr (Or.inl hg))) ?_ g1))
      obtain ⟨⟨T2, k2⟩, -, ⟨T3, k3⟩, ⟨T4, k4⟩, cc, k5, k6⟩ := g1.2.2.2.2.1
      have hrow : rc_At y1 27 0 (tk sg A) := by
        obtain ⟨a1, a2, a3, a4⟩ := hv.1
        exact ⟨a1, a2, by rw [e12]; exact a3, fun k t hk => by rw [e12]; exact a4 k t hk⟩
      exact ⟨⟨T2, rc_fr hf (by decide) k2⟩, ⟨_, rc_cpy hrow (fun t h9 => ht t (by omega))⟩, ⟨T3, rc_fr hf (by decide) k3⟩, ⟨T4, rc_fr hf (by decide) k4⟩, cc, k5, by rw [(hf 67 (by decide)).1]; exact k6⟩
    | succ dd ih =>
      intro i y1 y hi g1 e12 hf ht
      refine u_X13_two_2 ?_; unfold qm_X13_two_2
      rw [nI_1]
      refine w_leF (a := 32) (by omega) (by omega) (w_rdI ml27 rfl (by omega) rfl (w_wrI ml45 rfl (by omega) (ih (i + 1) y1 _ (by omega) g1 e12 (fr_I2 hf rfl) (fun t h9 => ?_))))
      by_cases hti : t = i
      · rw [hti, po_usI_at, (hf 27 (by decide)).2.1, Nat.zero_add]
      · exact rd_ne hti (ht t (by omega))
  have lp1 : ∀ (dd i : Nat) (y : ow_MS), i + dd = 5289 → fr (fun g => g = 44) y2 y → Tt (fun K t => q_X13_two K t 1 (nI c) k j (nI i) y) (fun r => gI X r.2) := by
    intro dd
    induction dd with
    | zero =>
      intro i y hi hf
      have g3 : gI X y := gI_fr hf (fun g hg => by rw [hg]; decide) g2
      have hvy : rc_At y 27 0 (tk sg A) := rc_fr hf (by decide) hv.1
      have hlA := okF_len hok
      have hC := hv.2.2
      refine u_X13_two_1 ?_; unfold qm_X13_two_1
      refine w_leT (a := 5289) (by omega) (by omega) (w_rdN (i := 0) rfl (by omega) (w_cs0 (tr_unpack (o := 0) (pnL (by omega)) (by omega) ml27 (by omega) (by omega) (by omega) (by omega) (fun p hp => by have := (hok.2 p).mp hp; omega) hvy) (fun z2 ⟨hA, _, f4⟩ => w_okZ (Or.inr rfl) (w_wrF ?_))))
      have hA2 : rn_At (usF z2 46 1) 4000 A [] := fr_At (fr_F (P := fun g => g = 46) rfl) (fun g hg => by omega) hA
      refine w_cs0 (tp_skein0 hok hcc hC hA2) (fun z3 f3 => ?_)
      have hf3 : fr (fun g => 4000 ≤ g ∨ g = 46 ∨ g = 41 ∨ g = 42 ∨ g = 44) y z3 := fr_tr (fr_mono (fun g hg => by omega) f4) (fr_tr (fr_F (Or.inr (Or.inl rfl))) (fr_mono (fun g hg => by unfold skH at hg; omega) f3))
      exact lp2 32 0 z3 z3 (by omega) (gI_fr hf3 (fun g hg => by unfold per; omega) g3) (by rw [(hf3 27 (by omega)).2.1, (hf 27 (by decide)).2.1]) fr_rf (fun t ht => absurd ht (by omega))
    | succ dd ih =>
      intro i y hi hf
      refine u_X13_two_1 ?_; unfold qm_X13_two_1
      rw [nI_1]
      exact w_leF (a := 5289) (by omega) (by omega) (w_wrJ ml44 rfl (by omega) (ih (i + 1) _ (by omega) (fr_J2 hf rfl)))
  exact lp1 5289 0 _ (by omega) fr_rf
end CONW
end
section
/-! 99zzzk.uf -/
/-! signed numbers -/
abbrev iI (i : Int) : Int32 := Int32.ofInt i
theorem nI_iI (a : Nat) : nI a = iI (a : Int) := (Int32.ofInt_eq_ofNat).symm
theorem iI_add (a b : Int) : iI a + iI b = iI (a + b) := (Int32.ofInt_add a b).symm
theorem iI_sub (a b : Int) : iI a - iI b = iI (a - b) := (Int32.ofInt_sub a b).symm
theorem iI_mul (a b : Int) : iI a * iI b = iI (a * b) := (Int32.ofInt_mul a b).symm
theorem iI_nI {i : Int} {a : Nat} (h : i = (a : Int)) : iI i = nI a := by rw [h, nI_iI]
theorem iI_toInt {i : Int} (h1 : -(2 ^ 31 : Int) ≤ i) (h2 : i < 2 ^ 31) : (iI i).toInt = i := by
  rw [Int32.toInt_ofInt]
  exact Int.bmod_eq_of_le (by show -((4294967296 : Nat) : Int) / 2 ≤ i; omega) (by show i < ((4294967296 : Nat) + 1 : Int) / 2; omega)
theorem iI_le {a b : Int} (h1 : -(2 ^ 31 : Int) ≤ a) (h2 : a < 2 ^ 31) (h3 : -(2 ^ 31 : Int) ≤ b) (h4 : b < 2 ^ 31) : iI a ≤ iI b ↔ a ≤ b := by
  rw [Int32.le_iff_toInt_le, iI_toInt h1 h2, iI_toInt h3 h4]
theorem iI_lt {a b : Int} (h1 : -(2 ^ 31 : Int) ≤ a) (h2 : a < 2 ^ 31) (h3 : -(2 ^ 31 : Int) ≤ b) (h4 : b < 2 ^ 31) : iI a < iI b ↔ a < b := by
  rw [Int32.lt_iff_toInt_lt, iI_toInt h1 h2, iI_toInt h3 h4]
/-! union and find -/
def rtF (p : Nat → Nat) : Nat → Nat → Nat
  | 0, g => g
  | k + 1, g => if p g = g then g else rtF p k (p g)
def rt (p : Nat → Nat) (g : Nat) : Nat := rtF p g g
def dn (p : Nat → Nat) : Prop := ∀ g, p g ≤ g
theorem rtF_eq {p : Nat → Nat} (hp : dn p) : ∀ (g k j : Nat), g ≤ k → g ≤ j → rtF p k g = rtF p j g := by
  intro g
  induction g using Nat.strongRecOn with
  | ind g ih =>
  intro k j hk hj
  have h1 := hp g
  cases k with
  | zero =>
    have hg : g = 0 := by omega
    subst hg
    cases j with
    | zero => rfl
    | succ j => 
      show 0 = if p 0 = 0 then 0 else rtF p j (p 0)
      rw [if_pos (by omega)]
  | succ k =>
    cases j with
    | zero =>
      have hg : g = 0 := by omega
      subst hg
      show (if p 0 = 0 then 0 else rtF p k (p 0)) = 0
      rw [if_pos (by omega)]
    | succ j =>
      show (if p g = g then g else rtF p k (p g)) = if p g = g then g else rtF p j (p g)
      by_cases hg : p g = g
      · rw [if_pos hg, if_pos hg]
      · rw [if_neg hg, if_neg hg]
        exact ih (p g) (by omega) k j (by omega) (by omega)
theorem rt_root {p : Nat → Nat} {g : Nat} (h : p g = g) : rt p g = g := by
  unfold rt
  cases g with
  | zero => rfl
  | succ g => 
    show (if p (g + 1) = g + 1 then g + 1 else _) = g + 1
    rw [if_pos h]
theorem rt_step {p : Nat → Nat} {g : Nat} (hp : dn p) (h : p g ≠ g) : rt p g = rt p (p g) := by
  have h1 := hp g
  unfold rt
  cases g with
  | zero => omega
  | succ g =>
    show (if p (g + 1) = g + 1 then g + 1 else rtF p g (p (g + 1))) = _
    rw [if_neg h]
    exact rtF_eq hp _ _ _ (by omega) (Nat.le_refl _)
theorem rt_in {p : Nat → Nat} (hp : dn p) : ∀ g, p (rt p g) = rt p g ∧ rt p g ≤ g := by
  intro g
  induction g using Nat.strongRecOn with
  | ind g ih =>
  by_cases h : p g = g
  · rw [rt_root h]
    exact ⟨h, Nat.le_refl _⟩
  · have h1 := hp g
    rw [rt_step hp h]
    have := ih (p g) (by omega)
    exact ⟨this.1, by omega⟩
def pup (p : Nat → Nat) (m r : Nat) : Nat → Nat := fun x => if x = m then r else p x
theorem rt_pup {p : Nat → Nat} {m r : Nat} (hp : dn p) (hm : p m = m) (hr : p r = r) (hlt : r < m) : dn (pup p m r) ∧ ∀ g, rt (pup p m r) g = if rt p g = m then r else rt p g := by
  have hd : dn (pup p m r) := fun g => by
    unfold pup
    by_cases h : g = m
    · rw [if_pos h]; omega
    · rw [if_neg h]; exact hp g
  refine ⟨hd, fun g => ?_⟩
  induction g using Nat.strongRecOn with
  | ind g ih =>
  by_cases h : p g = g
  · rw [rt_root h]
    by_cases hg : g = m
    · rw [if_pos hg]
      have e1 : pup p m r g = r := if_pos hg
      rw [rt_step hd (by rw [e1]; omega), e1]
      refine rt_root ?_
      unfold pup
      rw [if_neg (by omega)]
      exact hr
    · rw [if_neg hg]
      refine rt_root ?_
      unfold pup
      rw [if_neg hg]
      exact h
  · have hg : g ≠ m := fun e => h (by rw [e]; exact hm)
    have e1 : pup p m r g = p g := if_neg hg
    have h1 := hp g
    rw [rt_step hd (by rw [e1]; exact h), e1, rt_step hp h]
    exact ih (p g) (by omega)
/-- two are united: the greater root goes under the lesser one -/
def un (p : Nat → Nat) (g h : Nat) : Nat → Nat := if rt p h ≤ rt p g then pup p (rt p g) (rt p h) else pup p (rt p h) (rt p g)
theorem un_same {p : Nat → Nat} {m : Nat} (hm : p m = m) : pup p m m = p := by
  funext x
  unfold pup
  by_cases h : x = m
  · rw [if_pos h, h, hm]
  · rw [if_neg h]
theorem un_dn {p : Nat → Nat} {g h : Nat} (hp : dn p) : dn (un p g h) := by
  obtain ⟨g1, -⟩ := rt_in hp g
  obtain ⟨h1, -⟩ := rt_in hp h
  unfold un
  by_cases h9 : rt p h ≤ rt p g
  · rw [if_pos h9]
    by_cases h8 : rt p h = rt p g
    · rw [h8, un_same g1]; exact hp
    · exact (rt_pup hp g1 h1 (by omega)).1
  · rw [if_neg h9]
    exact (rt_pup hp h1 g1 (by omega)).1
theorem un_j {p : Nat → Nat} {g h : Nat} (hp : dn p) : rt (un p g h) g = rt (un p g h) h := by
  obtain ⟨g1, -⟩ := rt_in hp g
  obtain ⟨h1, -⟩ := rt_in hp h
  unfold un
  by_cases h9 : rt p h ≤ rt p g
  · rw [if_pos h9]
    by_cases h8 : rt p h = rt p g
    · rw [h8, un_same g1, h8]
    · have := (rt_pup hp g1 h1 (by omega)).2
      rw [this g, this h, if_pos rfl, if_neg h8]
  · rw [if_neg h9]
    have := (rt_pup hp h1 g1 (by omega)).2
    rw [this g, this h, if_pos rfl, if_neg (by omega)]
theorem un_k {p : Nat → Nat} {g h a b : Nat} (hp : dn p) (e : rt p a = rt p b) : rt (un p g h) a = rt (un p g h) b := by
  obtain ⟨g1, -⟩ := rt_in hp g
  obtain ⟨h1, -⟩ := rt_in hp h
  unfold un
  by_cases h9 : rt p h ≤ rt p g
  · rw [if_pos h9]
    by_cases h8 : rt p h = rt p g
    · rw [h8, un_same g1, e]
    · have := (rt_pup hp g1 h1 (by omega)).2
      rw [this a, this b, e]
  · rw [if_neg h9]
    have := (rt_pup hp h1 g1 (by omega)).2
    rw [this a, this b, e]
/-! how many labels there are -/
def dLe (V : Nat) (L : Nat → Nat) (k : Nat) : Prop := ∃ R : List Nat, R.length ≤ k ∧ ∀ x, x < V → L x ∈ R
def mgL (L : Nat → Nat) : List (Nat × Nat) → Nat → Nat
  | [] => L
  | (a, b) :: E => mgL (fun x => if L x = L a then L b else L x) E
theorem mgL_k {V : Nat} : ∀ (E : List (Nat × Nat)) (L : Nat → Nat) (k : Nat), dLe V (mgL L E) k → dLe V L (k + E.length)
  | [], L, k, h => h
  | (a, b) :: E, L, k, h => by
    obtain ⟨R, h1, h2⟩ := mgL_k E _ k h
    refine ⟨L a :: R, by rw [List.length_cons, List.length_cons]; omega, fun x hx => ?_⟩
    have := h2 x hx
    by_cases h9 : L x = L a
    · rw [h9]; exact List.mem_cons_self
    · have this : (if L x = L a then L b else L x) ∈ R := this
      rw [if_neg h9] at this
      exact List.mem_cons_of_mem _ this
theorem mgL_e : ∀ (E : List (Nat × Nat)) (L : Nat → Nat) (x y : Nat), L x = L y → mgL L E x = mgL L E y
  | [], L, x, y, h => h
  | (a, b) :: E, L, x, y, h => mgL_e E _ x y (by rw [h])
theorem mgL_m : ∀ (E : List (Nat × Nat)) (L : Nat → Nat) (a b : Nat), (a, b) ∈ E → mgL L E a = mgL L E b
  | [], L, a, b, h => by cases h
  | (c, d) :: E, L, a, b, h => by
    rcases List.mem_cons.mp h with h9 | h9
    · obtain ⟨rfl, rfl⟩ := Prod.mk.inj h9
      refine mgL_e E _ a b ?_
      show (if L a = L a then L b else L a) = if L b = L a then L b else L b
      rw [if_pos rfl]
      by_cases h8 : L b = L a
      · rw [if_pos h8]
      · rw [if_neg h8]
    · exact mgL_m E _ a b h9
/-! the loops of a state -/
def ufR (y : ow_MS) (p : Nat → Nat) : Prop := dn p ∧ ∀ g, g < 48 → y.2.1 47 g = nI (p g)
/-- at a crossing ends are joined as in smoothing -/
def alS (sg : Nat → Bool) (st : Int32) (x : Nat) : Bool := !(sg x == decide (((st >>> (nI x &&& 31)) &&& 1) ≠ 1))
def lpS (A : rn_L) (sg : Nat → Bool) (st : Int32) (v : Nat) (p : Nat → Nat) : Nat → Nat := if uns A v = 0 then (if alS sg st (crs A v) then un (un p (rn_pv A v) (mtf A v)) (rn_pv A (mtf A v)) v else un (un p (rn_pv A v) (rn_pv A (mtf A v))) v (mtf A v)) else p
def lpA (A : rn_L) (sg : Nat → Bool) (st : Int32) : Nat → Nat → Nat
  | 0 => fun x => x
  | v + 1 => lpS A sg st v (lpA A sg st v)
theorem lpS_dn {A : rn_L} {sg : Nat → Bool} {st : Int32} {v : Nat} {p : Nat → Nat} (hp : dn p) : dn (lpS A sg st v p) := by
  unfold lpS
  by_cases h1 : uns A v = 0
  · rw [if_pos h1]
    by_cases h2 : alS sg st (crs A v) = true
    · rw [if_pos h2]; exact un_dn (un_dn hp)
    · rw [if_neg h2]; exact un_dn (un_dn hp)
  · rw [if_neg h1]; exact hp
theorem lpA_dn {A : rn_L} {sg : Nat → Bool} {st : Int32} : ∀ v, dn (lpA A sg st v)
  | 0 => fun g => Nat.le_refl g
  | v + 1 => lpS_dn (lpA_dn v)
theorem lpS_k {A : rn_L} {sg : Nat → Bool} {st : Int32} {v a b : Nat} {p : Nat → Nat} (hp : dn p) (e : rt p a = rt p b) : rt (lpS A sg st v p) a = rt (lpS A sg st v p) b := by
  unfold lpS
  by_cases h1 : uns A v = 0
  · rw [if_pos h1]
    by_cases h2 : alS sg st (crs A v) = true
    · rw [if_pos h2]; exact un_k (un_dn hp) (un_k hp e)
    · rw [if_neg h2]; exact un_k (un_dn hp) (un_k hp e)
  · rw [if_neg h1]; exact e
/-- what is joined at an over visit -/
def ljn (A : rn_L) (p : Nat → Nat) (v : Nat) : Prop := (rt p (rn_pv A v) = rt p (mtf A v) ∧ rt p (rn_pv A (mtf A v)) = rt p v) ∨ (rt p (rn_pv A v) = rt p (rn_pv A (mtf A v)) ∧ rt p v = rt p (mtf A v))
theorem lpS_j {A : rn_L} {sg : Nat → Bool} {st : Int32} {v : Nat} {p : Nat → Nat} (hp : dn p) (h1 : uns A v = 0) : ljn A (lpS A sg st v p) v := by
  unfold lpS
  rw [if_pos h1]
  by_cases h2 : alS sg st (crs A v) = true
  · rw [if_pos h2]
    exact Or.inl ⟨un_k (un_dn hp) (un_j hp), un_j (un_dn hp)⟩
  · rw [if_neg h2]
    exact Or.inr ⟨un_k (un_dn hp) (un_j hp), un_j (un_dn hp)⟩
theorem lpA_j {A : rn_L} {sg : Nat → Bool} {st : Int32} : ∀ (V v : Nat), v < V → uns A v = 0 → ljn A (lpA A sg st V) v
  | 0, v, h, _ => by omega
  | V + 1, v, h, hu => by
    show ljn A (lpS A sg st V (lpA A sg st V)) v
    by_cases hv : v = V
    · rw [hv]
      rw [hv] at hu
      exact lpS_j (lpA_dn V) hu
    · have := lpA_j (sg := sg) (st := st) V v (by omega) hu
      rcases this with ⟨a, b⟩ | ⟨a, b⟩
      · exact Or.inl ⟨lpS_k (lpA_dn V) a, lpS_k (lpA_dn V) b⟩
      · exact Or.inr ⟨lpS_k (lpA_dn V) a, lpS_k (lpA_dn V) b⟩
section UF
variable {z : ow_MS}
theorem u_X13_root_1 {x1 : Int32} {x2 : Int32} {z : ow_MS} {Q : (Int32 × ow_MS) → Prop} (H : Tt (fun K k => qm_X13_root_1 K (q_X13_root K k) x1 x2 z) Q) : Tt (fun K k => q_X13_root K k 1 x1 x2 z) Q := w_un (fun _ _ => rfl) H
theorem e_X13_root {x1 : Int32} {z : ow_MS} {Q : (Int32 × ow_MS) → Prop} (H : Tt (fun K k => q_X13_root K k 0 x1 0 z) Q) : Te (fun K => qe_X13_root K x1 z) Q := w_te H
theorem u_X13_root_0 {x1 : Int32} {x2 : Int32} {z : ow_MS} {Q : (Int32 × ow_MS) → Prop} (H : Tt (fun K k => qm_X13_root_0 K (q_X13_root K k) x1 x2 z) Q) : Tt (fun K k => q_X13_root K k 0 x1 x2 z) Q := w_un (fun _ _ => rfl) H
theorem tp_root {p : Nat → Nat} (hu : ufR z p) : ∀ {g : Nat}, g < 48 → Te (fun K => qe_X13_root K (nI g) z) (fun r => r = (nI (rt p g), z)) := by
  intro g hg
  have key : ∀ (r : Nat), r < 48 → rt p r = rt p g → Tt (fun K i => q_X13_root K i 1 (nI g) (nI r) z) (fun r => r = (nI (rt p g), z)) := by
    intro r
    induction r using Nat.strongRecOn with
    | ind r ih =>
    intro hr e
    have h1 := hu.1 r
    refine u_X13_root_1 ?_; unfold qm_X13_root_1
    refine w_rdI ml47 rfl hr (hu.2 r hr) (w_eqN (by omega) (by omega) (fun h9 => w_some ?_) (fun h9 => w_rdI ml47 rfl hr (hu.2 r hr) (ih (p r) (by omega) (by omega) ?_)))
    · rw [← e, rt_root h9]
    · rw [← e, rt_step hu.1 h9]
  refine e_X13_root ?_
  refine u_X13_root_0 ?_; unfold qm_X13_root_0
  exact key g hg rfl
theorem e_X13_unite {x1 : Int32} {x2 : Int32} {z : ow_MS} {Q : ow_MS → Prop} (H : Tt (fun K _ => qm_X13_unite_0 K x1 x2 z) Q) : Te (fun K => qe_X13_unite K x1 x2 z) Q := w_te0 H
theorem tp_unite {p : Nat → Nat} {g h : Nat} (hu : ufR z p) (hg : g < 48) (hh : h < 48) : Te (fun K => qe_X13_unite K (nI g) (nI h) z) (fun z1 => ufR z1 (un p g h) ∧ fr (fun g => g = 47) z z1) := by
  have g1 := (rt_in hu.1 g).2
  have h1 := (rt_in hu.1 h).2
  refine e_X13_unite ?_; unfold qm_X13_unite_0
  refine w_cs1 (tp_root hu hg) (fun a y e9 => ?_)
  cases e9
  refine w_cs1 (tp_root hu hh) (fun a y e9 => ?_)
  cases e9
  refine w_le (by omega) (by omega) (fun h9 => w_wrI ml47 rfl (by omega) (w_some ⟨⟨un_dn hu.1, fun x hx => ?_⟩, fr_I rfl⟩)) (fun h9 => w_wrI ml47 rfl (by omega) (w_some ⟨⟨un_dn hu.1, fun x hx => ?_⟩, fr_I rfl⟩))
  · unfold un
    rw [if_pos h9]
    unfold pup
    by_cases hx2 : x = rt p g
    · rw [if_pos hx2, hx2, po_usI_at]
    · rw [if_neg hx2, po_usI_ne hx2]
      exact hu.2 x hx
  · unfold un
    rw [if_neg (by omega)]
    unfold pup
    by_cases hx2 : x = rt p h
    · rw [if_pos hx2, hx2, po_usI_at]
    · rw [if_neg hx2, po_usI_ne hx2]
      exact hu.2 x hx
theorem pv_lt {A : rn_L} {v : Nat} (hv : v < A.flatten.length) : rn_pv A v < A.flatten.length := by
  obtain ⟨h1, h2, h3⟩ := rn_c_in A v hv
  have := rn_b_le A (rn_c A v + 1)
  unfold rn_pv
  split <;> omega
theorem u_X13_loops_2 {x2 : Int32} {x3 : Int32} {x4 : Int32} {x5 : Int32} {r1 : Nat} {t0 : Int32} {z : ow_MS} {Q : ow_MS → Prop} (H : Tt (fun K k => qm_X13_loops_2 K (q_X13_loops K k) x2 x3 x4 x5 r1 t0 z) Q) : Tt (fun K k => q_X13_loops K k 2 x2 x3 x4 x5 r1 t0 z) Q := w_un (fun _ _ => rfl) H
theorem u_X13_loops_5 {x2 : Int32} {x3 : Int32} {x4 : Int32} {x5 : Int32} {r1 : Nat} {t0 : Int32} {z : ow_MS} {Q : ow_MS → Prop} (H : Tt (fun K k => qm_X13_loops_5 K (q_X13_loops K k) x2 x3 x4 x5 r1 t0 z) Q) : Tt (fun K k => q_X13_loops K k 5 x2 x3 x4 x5 r1 t0 z) Q := w_un (fun _ _ => rfl) H
theorem u_X13_loops_4 {x2 : Int32} {x3 : Int32} {x4 : Int32} {x5 : Int32} {r1 : Nat} {t0 : Int32} {z : ow_MS} {Q : ow_MS → Prop} (H : Tt (fun K k => qm_X13_loops_4 K (q_X13_loops K k) x2 x3 x4 x5 r1 t0 z) Q) : Tt (fun K k => q_X13_loops K k 4 x2 x3 x4 x5 r1 t0 z) Q := w_un (fun _ _ => rfl) H
theorem u_X13_loops_3 {x2 : Int32} {x3 : Int32} {x4 : Int32} {x5 : Int32} {r1 : Nat} {t0 : Int32} {z : ow_MS} {Q : ow_MS → Prop} (H : Tt (fun K k => qm_X13_loops_3 K (q_X13_loops K k) x2 x3 x4 x5 r1 t0 z) Q) : Tt (fun K k => q_X13_loops K k 3 x2 x3 x4 x5 r1 t0 z) Q := w_un (fun _ _ => rfl) H
theorem u_X13_loops_1 {x2 : Int32} {x3 : Int32} {x4 : Int32} {x5 : Int32} {r1 : Nat} {t0 : Int32} {z : ow_MS} {Q : ow_MS → Prop} (H : Tt (fun K k => qm_X13_loops_1 K (q_X13_loops K k) x2 x3 x4 x5 r1 t0 z) Q) : Tt (fun K k => q_X13_loops K k 1 x2 x3 x4 x5 r1 t0 z) Q := w_un (fun _ _ => rfl) H
theorem e_X13_loops {r1 : Nat} {x2 : Int32} {z : ow_MS} {Q : ow_MS → Prop} (H : Tt (fun K k => q_X13_loops K k 0 x2 0 0 0 r1 0 z) Q) : Te (fun K => qe_X13_loops K r1 x2 z) Q := w_te H
theorem u_X13_loops_0 {x2 : Int32} {x3 : Int32} {x4 : Int32} {x5 : Int32} {r1 : Nat} {t0 : Int32} {z : ow_MS} {Q : ow_MS → Prop} (H : Tt (fun K k => qm_X13_loops_0 K (q_X13_loops K k) x2 x3 x4 x5 r1 t0 z) Q) : Tt (fun K k => q_X13_loops K k 0 x2 x3 x4 x5 r1 t0 z) Q := w_un (fun _ _ => rfl) H
theorem tp_loops {n : Nat} {A : rn_L} {sg : Nat → Bool} {st : Int32} (hn : mw_net n) (hA : oNet z n A sg) : Te (fun K => qe_X13_loops K n st z) (fun z1 => ufR z1 (lpA A sg st A.flatten.length) ∧ fr (fun g => g = 47) z z1) := by
  have hl := hA.len
  have hd := wkF_ok hA.wk
  have hmn := net_mod hn
  let Q : ow_MS → Prop := fun z1 => ufR z1 (lpA A sg st A.flatten.length) ∧ fr (fun g => g = 47) z z1
  have oA : ∀ {y : ow_MS}, fr (fun g => g = 47) z y → oNet y n A sg := fun hf => oNet_fr hf (fun g hg => by omega) hA
  have key : ∀ (d v : Nat) (y : ow_MS), v + d = A.flatten.length → ufR y (lpA A sg st v) → fr (fun g => g = 47) z y → Tt (fun K i => q_X13_loops K i 2 st (nI v) 0 0 n 0 y) Q := by
    intro d
    induction d with
    | zero =>
      intro v y hv hu hf
      have hv : v = A.flatten.length := by omega
      subst hv
      refine u_X13_loops_2 ?_; unfold qm_X13_loops_2
      exact w_rdF (oA hf).1.V (w_leT (by omega) (by omega) (w_some ⟨hu, hf⟩))
    | succ d ih =>
      intro v y hv hu hf
      have hvl : v < A.flatten.length := by omega
      have hO := oA hf
      obtain ⟨c1, c2, c3⟩ := hO.cx hvl
      have hml := mtf_lt hd hvl
      have hp1 := pv_lt hvl
      have hp2 := pv_lt hml
      have c5 : ∀ (x4 : Int32) (y2 : ow_MS), ufR y2 (lpA A sg st (v + 1)) → fr (fun g => g = 47) z y2 → Tt (fun K i => q_X13_loops K i 5 st (nI v) x4 0 n 0 y2) Q := by
        intro x4 y2 hu2 hf2
        refine u_X13_loops_5 ?_; unfold qm_X13_loops_5
        rw [nI_1]
        exact ih (v + 1) y2 (by omega) hu2 hf2
      refine u_X13_loops_2 ?_; unfold qm_X13_loops_2
      refine w_rdF hO.1.V (w_leF (by omega) hvl (w_rdI (pl7 hn) rfl (by omega) (lk_m hd hO.1 hvl) (w_rdI (pl5 hn) rfl (by omega) (lk_cu hO.1 hvl).2 (w_eqN (b := 0) (by omega) (by omega) (fun hu0 => ?_) (fun hu0 => ?_)))))
      · have c3' : ∀ (b : Bool), decide (((st >>> (nI (crs A v) &&& 31)) &&& 1) ≠ 1) = b → Tt (fun K i => q_X13_loops K i 3 st (nI v) (nI (mtf A v)) 0 n (bZ (!b)) y) Q := by
          intro b hb
          have c4 : ∀ (t : Bool), sg (crs A v) = t → Tt (fun K i => q_X13_loops K i 4 st (nI v) (nI (mtf A v)) (bZ (!b)) n (bZ (!t)) y) Q := by
            intro t ht
            have hal : alS sg st (crs A v) = !(t == b) := by
              unfold alS
              rw [hb, ht]
            refine u_X13_loops_4 ?_; unfold qm_X13_loops_4
            refine w_if (fun h9 => ?_) (fun h9 => ?_)
            · have htb : t = b := by cases t <;> cases b <;> first | rfl | exact absurd h9 (by decide)
              have hal2 : ¬ alS sg st (crs A v) = true := by rw [hal, htb]; simp
              refine w_rdI (pl10 hn) rfl (by omega) (lk_p hO.1 hvl) (w_rdI (pl10 hn) rfl (by omega) (lk_p hO.1 hml) (w_cs0 (tp_unite hu (by omega) (by omega)) (fun y1 ⟨u1, f1⟩ => w_cs0 (tp_unite u1 (by omega) (by omega)) (fun y2 ⟨u2, f2⟩ => c5 _ y2 ?_ (fr_tr hf (fr_tr f1 f2))))))
              show ufR y2 (lpS A sg st v (lpA A sg st v))
              unfold lpS
              rw [if_pos hu0, if_neg hal2]
              exact u2
            · have htb : t ≠ b := fun e => h9 (by rw [e])
              have hal2 : alS sg st (crs A v) = true := by
                rw [hal]
                cases t <;> cases b <;> first | rfl | exact absurd rfl htb
              refine w_rdI (pl10 hn) rfl (by omega) (lk_p hO.1 hvl) (w_cs0 (tp_unite hu (by omega) (by omega)) (fun y1 ⟨u1, f1⟩ => w_rdI (pl10 hn) rfl (by omega) (lk_p (oA (fr_tr hf f1)).1 hml) (w_cs0 (tp_unite u1 (by omega) (by omega)) (fun y2 ⟨u2, f2⟩ => c5 _ y2 ?_ (fr_tr hf (fr_tr f1 f2))))))
              show ufR y2 (lpS A sg st v (lpA A sg st v))
              unfold lpS
              rw [if_pos hu0, if_pos hal2]
              exact u2
          refine u_X13_loops_3 ?_; unfold qm_X13_loops_3
          refine w_rdI (pl4 hn) rfl (by omega) (lk_cu hO.1 hvl).1 (w_rdI (pl6 hn) rfl (by omega) c3 (w_if (fun h9 => ?_) (fun h9 => ?_)))
          · refine c4 true ?_
            cases hs : sg (crs A v) with
            | true => rfl
            | false => rw [hs] at h9; exact absurd h9 (by decide)
          · refine c4 false ?_
            cases hs : sg (crs A v) with
            | false => rfl
            | true => rw [hs] at h9; exact absurd (by decide) h9
        refine w_rdI (pl4 hn) rfl (by omega) (lk_cu hO.1 hvl).1 (w_if (fun h9 => c3' false (decide_eq_false (fun h8 => h8 h9))) (fun h9 => c3' true (decide_eq_true h9)))
      · refine c5 _ y ?_ hf
        show ufR y (lpS A sg st v (lpA A sg st v))
        unfold lpS
        rw [if_neg hu0]
        exact hu
  have ini : ∀ (d i : Nat) (y : ow_MS), i + d = 48 → (∀ g, g < i → y.2.1 47 g = nI g) → fr (fun g => g = 47) z y → Tt (fun K t => q_X13_loops K t 1 st (nI i) 0 0 n 0 y) Q := by
    intro d
    induction d with
    | zero =>
      intro i y hi hg hf
      refine u_X13_loops_1 ?_; unfold qm_X13_loops_1
      exact w_leT (a := 48) (by omega) (by omega) (key A.flatten.length 0 y (by omega) ⟨fun g => Nat.le_refl g, fun g h9 => hg g (by omega)⟩ hf)
    | succ d ih =>
      intro i y hi hg hf
      refine u_X13_loops_1 ?_; unfold qm_X13_loops_1
      rw [nI_1]
      refine w_leF (a := 48) (by omega) (by omega) (w_wrI ml47 rfl (by omega) (ih (i + 1) _ (by omega) (fun g h9 => ?_) (fr_I2 hf rfl)))
      by_cases hgi : g = i
      · rw [hgi, po_usI_at]
      · exact rd_ne hgi (hg g (by omega))
  refine e_X13_loops ?_
  refine u_X13_loops_0 ?_; unfold qm_X13_loops_0
  exact ini 48 0 z (by omega) (fun g hg => absurd hg (by omega)) fr_rf
def rtsN (p : Nat → Nat) (V : Nat) : Nat := ((List.range V).filter (fun g => decide (p g = g))).length
theorem rtsN_s {p : Nat → Nat} {V : Nat} : rtsN p (V + 1) = rtsN p V + if p V = V then 1 else 0 := by
  unfold rtsN
  rw [List.range_succ, List.filter_append, List.length_append]
  by_cases h : p V = V
  · rw [if_pos h, List.filter_cons_of_pos (p := fun g => decide (p g = g)) (decide_eq_true h)]
    rfl
  · rw [if_neg h, List.filter_cons_of_neg (p := fun g => decide (p g = g)) (by simpa using h)]
    rfl
theorem u_X13_countLoops_1 {x2 : Int32} {x3 : Int32} {r1 : Nat} {t0 : Int32} {t1 : Int32} {z : ow_MS} {Q : (Int32 × ow_MS) → Prop} (H : Tt (fun K k => qm_X13_countLoops_1 K (q_X13_countLoops K k) x2 x3 r1 t0 t1 z) Q) : Tt (fun K k => q_X13_countLoops K k 1 x2 x3 r1 t0 t1 z) Q := w_un (fun _ _ => rfl) H
theorem u_X13_countLoops_2 {x2 : Int32} {x3 : Int32} {r1 : Nat} {t0 : Int32} {t1 : Int32} {z : ow_MS} {Q : (Int32 × ow_MS) → Prop} (H : Tt (fun K k => qm_X13_countLoops_2 K (q_X13_countLoops K k) x2 x3 r1 t0 t1 z) Q) : Tt (fun K k => q_X13_countLoops K k 2 x2 x3 r1 t0 t1 z) Q := w_un (fun _ _ => rfl) H
theorem e_X13_countLoops {r1 : Nat} {z : ow_MS} {Q : (Int32 × ow_MS) → Prop} (H : Tt (fun K k => q_X13_countLoops K k 0 0 0 r1 0 0 z) Q) : Te (fun K => qe_X13_countLoops K r1 z) Q := w_te H
theorem u_X13_countLoops_0 {x2 : Int32} {x3 : Int32} {r1 : Nat} {t0 : Int32} {t1 : Int32} {z : ow_MS} {Q : (Int32 × ow_MS) → Prop} (H : Tt (fun K k => qm_X13_countLoops_0 K (q_X13_countLoops K k) x2 x3 r1 t0 t1 z) Q) : Tt (fun K k => q_X13_countLoops K k 0 x2 x3 r1 t0 t1 z) Q := w_un (fun _ _ => rfl) H
theorem tp_countL {n V : Nat} {p : Nat → Nat} (hV : z.1 (n + 1) = nI V) (hV2 : V ≤ 48) (hu : ufR z p) : Te (fun K => qe_X13_countLoops K n z) (fun r => r = (nI (rtsN p V), z)) := by
  have key : ∀ (d v : Nat), v + d = V → Tt (fun K i => q_X13_countLoops K i 1 (nI (rtsN p v)) (nI v) n 0 0 z) (fun r => r = (nI (rtsN p V), z)) := by
    intro d
    induction d with
    | zero =>
      intro v hv
      have hv : v = V := by omega
      subst hv
      refine u_X13_countLoops_1 ?_; unfold qm_X13_countLoops_1
      exact w_rdF hV (w_leT (by omega) (by omega) (w_some rfl))
    | succ d ih =>
      intro v hv
      have h1 := hu.1 v
      refine u_X13_countLoops_1 ?_; unfold qm_X13_countLoops_1
      refine w_rdF hV (w_leF (by omega) (by omega) (w_rdI ml47 rfl (by omega) (hu.2 v (by omega)) (w_eqN (by omega) (by omega) (fun h9 => ?_) (fun h9 => ?_))))
      · refine u_X13_countLoops_2 ?_; unfold qm_X13_countLoops_2
        have := ih (v + 1) (by omega)
        rw [rtsN_s, if_pos h9] at this
        rw [nI_1, nI_1]
        exact this
      · refine u_X13_countLoops_2 ?_; unfold qm_X13_countLoops_2
        have := ih (v + 1) (by omega)
        rw [rtsN_s, if_neg h9] at this
        rw [nI_1]
        have e : nI (rtsN p v) + 0 = nI (rtsN p v + 0) := by
          rw [Nat.add_zero]
          exact Int32.add_zero _
        rw [e]
        exact this
  refine e_X13_countLoops ?_
  refine u_X13_countLoops_0 ?_; unfold qm_X13_countLoops_0
  exact key V 0 (by omega)
/-- components with visits -/
def neC (A : rn_L) : Nat := ((List.range A.length).filter (fun c => decide (rn_b A c < rn_b A (c + 1)))).length
def eC (A : rn_L) : Nat := ((List.range A.length).filter (fun c => !decide (rn_b A c < rn_b A (c + 1)))).length
theorem filt_sum {α : Type} (q : α → Bool) : ∀ l : List α, (l.filter q).length + (l.filter (fun a => !q a)).length = l.length
  | [] => rfl
  | a :: l => by
    have := filt_sum q l
    cases h : q a with
    | true =>
      rw [List.filter_cons_of_pos h, List.filter_cons_of_neg (by rw [h]; decide), List.length_cons, List.length_cons]
      omega
    | false =>
      rw [List.filter_cons_of_neg (by rw [h]; decide), List.filter_cons_of_pos (by rw [h]; rfl), List.length_cons, List.length_cons]
      omega
theorem neC_eC (A : rn_L) : neC A + eC A = A.length := by
  have := filt_sum (fun c => decide (rn_b A c < rn_b A (c + 1))) (List.range A.length)
  rw [List.length_range] at this
  exact this
/-- a label that stays from each visit to the one before it is one for each component -/
theorem lab_c {A : rn_L} {M : Nat → Nat} (h : ∀ v, v < A.flatten.length → M (rn_pv A v) = M v) : ∀ v, v < A.flatten.length → M v = M (rn_b A (rn_c A v)) := by
  intro v
  induction v using Nat.strongRecOn with
  | ind v ih =>
  intro hv
  obtain ⟨h1, h2, h3⟩ := rn_c_in A v hv
  by_cases hb : rn_b A (rn_c A v) = v
  · rw [hb]
  · have e1 : rn_pv A v = v - 1 := by
      unfold rn_pv
      rw [if_pos (by omega)]
    have h4 := h v hv
    rw [e1] at h4
    have e2 : rn_c A (v - 1) = rn_c A v := rn_c_of A _ _ (by omega) (by omega)
    have := ih (v - 1) (by omega) (by omega)
    rw [e2] at this
    rw [← h4, this]
/-- the over visits -/
def ovs (A : rn_L) (V : Nat) : List Nat := (List.range V).filter (fun u => decide (uns A u = 0))
theorem ovs_le {A : rn_L} {c : Nat} (hok : okF A.flatten c) : (ovs A A.flatten.length).length ≤ c := by
  have hn : ((ovs A A.flatten.length).map (crs A)).Nodup := by
    refine nodup_map (List.nodup_range.filter _) (fun i j hi hj e => ?_)
    have hi := List.mem_filter.mp hi
    have hj := List.mem_filter.mp hj
    have hil := List.mem_range.mp hi.1
    have hjl := List.mem_range.mp hj.1
    have e1 := of_decide_eq_true hi.2
    have e2 := of_decide_eq_true hj.2
    refine nodup_at hok.1 (vAt_of hil) (?_ : A.flatten[j]? = some (vAt A i))
    rw [vAt_of hjl, show vAt A j = vAt A i from Prod.ext e.symm (e2.trans e1.symm)]
  have := nodup_le _ (List.range c) hn (fun a ha => by
    obtain ⟨u, hu, e⟩ := List.mem_map.mp ha
    have hul := List.mem_range.mp (List.mem_filter.mp hu).1
    rw [← e]
    exact List.mem_range.mpr ((hok.2 _).mp (List.mem_of_getElem? (vAt_of hul))).1)
  rw [List.length_map, List.length_range] at this
  exact this
theorem mtf_uns {A : rn_L} {v : Nat} (hF : wkF A.flatten) (hv : v < A.flatten.length) (h : uns A v ≠ 0) : uns A (mtf A v) = 0 := by
  have hd := wkF_ok hF
  obtain ⟨n1, p1, p2, a1, a2, a3⟩ := mtf_mt hd hv
  rw [vAt_of hv] at a1
  cases a1
  have e2 := vAt_eq a2
  obtain ⟨-, k2, -⟩ := hF.2 _ (List.mem_of_getElem? a2)
  obtain ⟨-, k3, -⟩ := hF.2 _ (List.mem_of_getElem? (vAt_of hv))
  have hne : (vAt A v).2 ≠ p2.2 := fun e9 => n1 (nodup_at hF.1 (vAt_of hv) (by rw [a2]; congr 1; exact Prod.ext a3.symm e9.symm))
  show (vAt A (mtf A v)).2 = 0
  rw [e2]
  have : (vAt A v).2 ≠ 0 := h
  omega
/-- there are not more loops than crossings and components with visits -/
theorem loops_le {A : rn_L} {c : Nat} {sg : Nat → Bool} {st : Int32} (hok : okF A.flatten c) (hc : c ≤ 40) : rtsN (lpA A sg st A.flatten.length) A.flatten.length ≤ c + neC A := by
  have hF := okF_wk hc hok
  have hd := wkF_ok hF
  let p := lpA A sg st A.flatten.length
  have hp : dn p := lpA_dn _
  let E : List (Nat × Nat) := (ovs A A.flatten.length).map (fun v => (rn_pv A v, v))
  let M := mgL (rt p) E
  have hE : ∀ v, v < A.flatten.length → uns A v = 0 → M (rn_pv A v) = M v := fun v hv hu => mgL_m E (rt p) _ _ (List.mem_map.mpr ⟨v, List.mem_filter.mpr ⟨List.mem_range.mpr hv, decide_eq_true hu⟩, rfl⟩)
  have hM : ∀ v, v < A.flatten.length → M (rn_pv A v) = M v := by
    intro v hv
    by_cases hu : uns A v = 0
    · exact hE v hv hu
    · have hml := mtf_lt hd hv
      have hmu := mtf_uns hF hv hu
      have hj := lpA_j (sg := sg) (st := st) _ _ hml hmu
      have hmm := mtf_mtf hd hv
      have h1 := hE _ hml hmu
      rcases hj with ⟨a, b⟩ | ⟨a, b⟩
      · rw [hmm] at a b
        have a2 : M (rn_pv A (mtf A v)) = M v := mgL_e E (rt p) _ _ a
        have b2 : M (rn_pv A v) = M (mtf A v) := mgL_e E (rt p) _ _ b
        rw [b2, ← h1, a2]
      · rw [hmm] at a b
        have a2 : M (rn_pv A (mtf A v)) = M (rn_pv A v) := mgL_e E (rt p) _ _ a
        have b2 : M (mtf A v) = M v := mgL_e E (rt p) _ _ b
        rw [← a2, h1, b2]
  have hlab := lab_c hM
  have hdl : dLe A.flatten.length M (neC A) := by
    refine ⟨((List.range A.length).filter (fun c => decide (rn_b A c < rn_b A (c + 1)))).map (fun c => M (rn_b A c)), by rw [List.length_map]; exact Nat.le_refl _, fun v hv => ?_⟩
    obtain ⟨h1, h2, h3⟩ := rn_c_in A v hv
    rw [hlab v hv]
    exact List.mem_map.mpr ⟨rn_c A v, List.mem_filter.mpr ⟨List.mem_range.mpr h1, decide_eq_true (by omega)⟩, rfl⟩
  obtain ⟨R, hR, hcov⟩ := mgL_k E (rt p) _ hdl
  have hEl : E.length ≤ c := by
    rw [List.length_map]
    exact ovs_le hok
  have := nodup_le ((List.range A.flatten.length).filter (fun g => decide (p g = g))) R (List.nodup_range.filter _) (fun g hg => by
    have hg := List.mem_filter.mp hg
    have h2 := hcov g (List.mem_range.mp hg.1)
    rw [rt_root (of_decide_eq_true hg.2)] at h2
    exact h2)
  show ((List.range A.flatten.length).filter (fun g => decide (p g = g))).length ≤ _
  omega
end UF
end
section
/-! 99zzzl.jones -/
/-! jones has an answer -/
def pcF : Nat → Nat → Nat
  | 0, _ => 0
  | n + 1, k => k % 2 + pcF n (k / 2)
theorem pcF_le : ∀ (n c k : Nat), k < 2 ^ c → pcF n k ≤ c
  | 0, c, k, _ => Nat.zero_le _
  | n + 1, 0, k, h => by
    have hk : k = 0 := by simpa using h
    subst hk
    have := pcF_le n 0 0 (by decide)
    show 0 + pcF n 0 ≤ 0
    omega
  | n + 1, c + 1, k, h => by
    have := pcF_le n c (k / 2) (by rw [Nat.pow_succ] at h; omega)
    show k % 2 + pcF n (k / 2) ≤ c + 1
    omega
def pc (k : Nat) : Nat := pcF 32 k
theorem bc_4096 : ∀ a : Fin 64, ∀ b : Fin 64, ow_bc (nI (64 * a.val + b.val)) = nI (pc (64 * a.val + b.val)) := by decide +kernel
theorem bc_pc {k : Nat} (h : k < 4096) : ow_bc (nI k) = nI (pc k) := by
  have := bc_4096 ⟨k / 64, by omega⟩ ⟨k % 64, by omega⟩
  rw [show 64 * (k / 64) + k % 64 = k by omega] at this
  exact this
theorem pc_le {c k : Nat} (h : k < 2 ^ c) : pc k ≤ c := pcF_le 32 c k h
theorem shl_31 : ∀ c : Fin 31, (1 : Int32) <<< (nI c.val &&& 31) = nI (2 ^ c.val) := by decide +kernel
theorem shl1 {c : Nat} (h : c < 31) : (1 : Int32) <<< (nI c &&& 31) = nI (2 ^ c) := shl_31 ⟨c, h⟩
theorem two_mono {a b : Nat} (h : a ≤ b) : 2 ^ a ≤ 2 ^ b := Nat.pow_le_pow_right (by decide) h
section JON
variable {X : (Nat → Nat → Int32) → Prop} {z : ow_MS}
def eCn (A : rn_L) (k : Nat) : Nat := ((List.range k).filter (fun c => !decide (rn_b A c < rn_b A (c + 1)))).length
theorem eCn_s {A : rn_L} {k : Nat} : eCn A (k + 1) = eCn A k + if rn_b A k = rn_b A (k + 1) then 1 else 0 := by
  unfold eCn
  have hm := rn_b_mono A k
  rw [List.range_succ, List.filter_append, List.length_append]
  by_cases h : rn_b A k = rn_b A (k + 1)
  · rw [if_pos h, List.filter_cons_of_pos (p := fun c => !decide (rn_b A c < rn_b A (c + 1))) (by rw [decide_eq_false (by omega)]; rfl)]
    rfl
  · rw [if_neg h, List.filter_cons_of_neg (p := fun c => !decide (rn_b A c < rn_b A (c + 1))) (by rw [decide_eq_true (by omega)]; decide)]
    rfl
theorem tp_circles2 {n : Nat} {A : rn_L} (hn : mw_net n) (hlen : A.flatten.length ≤ 40) (hcn : A.length ≤ 39) (hA : rn_At z n A []) : Te (fun K => qe_X13_circlesOf K n z) (fun r => r = (nI (eC A), z)) := by
  have key : ∀ (d c : Nat), c + d = A.length → Tt (fun K i => q_X13_circlesOf K i 1 (nI (eCn A c)) (nI c) n 0 0 z) (fun r => r = (nI (eC A), z)) := by
    intro d
    induction d with
    | zero =>
      intro c hc
      have hc : c = A.length := by omega
      subst hc
      refine u_X13_circlesOf_1 ?_; unfold qm_X13_circlesOf_1
      exact w_rdF hA.2.1 (w_leT (by omega) (by omega) (w_some rfl))
    | succ d ih =>
      intro c hc
      have hb1 := rn_b_le A c
      have hb2 := rn_b_le A (c + 1)
      refine u_X13_circlesOf_1 ?_; unfold qm_X13_circlesOf_1
      refine w_rdF hA.2.1 (w_leF (by omega) (by omega) (w_cs1 (R := fun r => r = (bZ (decide (rn_b A c = rn_b A (c + 1))), z)) ?_ (fun a z1 e => ?_)))
      · refine e_X12_isCircle ?_; unfold qm_X12_isCircle_0
        rw [nI_1]
        refine w_rdI (pl3 hn) rfl (by omega) (hA.2.2.1 c (by omega)) (w_rdI (pl3 hn) rfl (by omega) (hA.2.2.1 (c + 1) (by omega)) (w_eqN (by unfold rn_b at hb1; omega) (by unfold rn_b at hb2; omega) (fun h9 => w_okZ (Or.inr rfl) (w_some ?_)) (fun h9 => w_okZ (Or.inl rfl) (w_some ?_))))
        · rw [decide_eq_true (show rn_b A c = rn_b A (c + 1) from h9)]
          rfl
        · rw [decide_eq_false (show ¬ rn_b A c = rn_b A (c + 1) from h9)]
          rfl
      · cases e
        have := ih (c + 1) (by omega)
        rw [eCn_s] at this
        by_cases h9 : rn_b A c = rn_b A (c + 1)
        · rw [if_pos h9] at this
          rw [decide_eq_true h9]
          refine w_ifF (by decide) ?_
          refine u_X13_circlesOf_2 ?_; unfold qm_X13_circlesOf_2
          rw [nI_1, nI_1]
          exact this
        · rw [if_neg h9] at this
          rw [decide_eq_false h9]
          refine w_ifT rfl ?_
          refine u_X13_circlesOf_2 ?_; unfold qm_X13_circlesOf_2
          rw [nI_1, Int32.add_zero]
          exact this
  refine e_X13_circlesOf ?_
  refine u_X13_circlesOf_0 ?_; unfold qm_X13_circlesOf_0
  exact key A.length 0 (by omega)
/-- the writhe of the first visits -/
def wrN (A : rn_L) (sg : Nat → Bool) : Nat → Int
  | 0 => 0
  | v + 1 => wrN A sg v + if uns A v = 0 then (if sg (crs A v) then -1 else 1) else 0
theorem wrN_le {A : rn_L} {sg : Nat → Bool} : ∀ v, -((ovs A v).length : Int) ≤ wrN A sg v ∧ wrN A sg v ≤ (ovs A v).length
  | 0 => by
    show -((0 : Nat) : Int) ≤ 0 ∧ (0 : Int) ≤ (0 : Nat)
    decide
  | v + 1 => by
    have ih := wrN_le (A := A) (sg := sg) v
    have e : (ovs A (v + 1)).length = (ovs A v).length + if uns A v = 0 then 1 else 0 := by
      unfold ovs
      rw [List.range_succ, List.filter_append, List.length_append]
      by_cases h : uns A v = 0
      · rw [if_pos h, List.filter_cons_of_pos (p := fun u => decide (uns A u = 0)) (decide_eq_true h)]
        rfl
      · rw [if_neg h, List.filter_cons_of_neg (p := fun u => decide (uns A u = 0)) (by simpa using h)]
        rfl
    rw [e]
    show _ ≤ wrN A sg v + _ ∧ wrN A sg v + _ ≤ _
    by_cases h : uns A v = 0
    · rw [if_pos h, if_pos h]
      cases sg (crs A v) <;> simp <;> omega
    · rw [if_neg h, if_neg h]
      omega
theorem tp_writhe2 {n : Nat} {A : rn_L} {sg : Nat → Bool} (hn : mw_net n) (hA : oNet z n A sg) : Te (fun K => qe_X13_writheOf K n z) (fun r => r = (iI (wrN A sg A.flatten.length), z)) := by
  have hl := hA.len
  have key : ∀ (d v : Nat), v + d = A.flatten.length → Tt (fun K i => q_X13_writheOf K i 1 (iI (wrN A sg v)) (nI v) n 0 0 z) (fun r => r = (iI (wrN A sg A.flatten.length), z)) := by
    intro d
    induction d with
    | zero =>
      intro v hv
      have hv : v = A.flatten.length := by omega
      subst hv
      refine u_X13_writheOf_1 ?_; unfold qm_X13_writheOf_1
      exact w_rdF hA.1.V (w_leT (by omega) (by omega) (w_some rfl))
    | succ d ih =>
      intro v hv
      have hvl : v < A.flatten.length := by omega
      obtain ⟨c1, c2, c3⟩ := hA.cx hvl
      have := ih (v + 1) (by omega)
      have e : wrN A sg (v + 1) = wrN A sg v + if uns A v = 0 then (if sg (crs A v) then -1 else 1) else 0 := rfl
      rw [e, ← iI_add] at this
      refine u_X13_writheOf_1 ?_; unfold qm_X13_writheOf_1
      refine w_rdF hA.1.V (w_leF (by omega) hvl (w_rdI (pl5 hn) rfl (by omega) (lk_cu hA.1 hvl).2 (w_eqN (b := 0) (by omega) (by omega) (fun h9 => w_rdI (pl4 hn) rfl (by omega) (lk_cu hA.1 hvl).1 (w_rdI (pl6 hn) rfl (by omega) c3 ?_)) (fun h9 => ?_))))
      · rw [if_pos h9] at this
        refine u_X13_writheOf_2 ?_; unfold qm_X13_writheOf_2
        rw [nI_1]
        cases hs : sg (crs A v) with
        | true =>
          rw [hs] at this
          exact this
        | false =>
          rw [hs] at this
          exact this
      · rw [if_neg h9] at this
        refine u_X13_writheOf_2 ?_; unfold qm_X13_writheOf_2
        rw [nI_1]
        exact this
  refine e_X13_writheOf ?_
  refine u_X13_writheOf_0 ?_; unfold qm_X13_writheOf_0
  exact key A.flatten.length 0 (by omega)
/-- the term's place in the Jones row -/
theorem jn_ix {l t ze c : Nat} {w : Int} (hl : l ≤ 23) (hl1 : 1 ≤ l) (ht : t < l) (hz : ze ≤ c) (hc : c ≤ 12) (h1 : -12 ≤ w) (h2 : w ≤ 12) : ∃ k, k < 201 ∧ ((((2 * (nI l - 1)) - (4 * nI t)) + nI ze) - (nI c - nI ze) - (3 * iI w)) + 100 = nI k := by
  refine ⟨(2 * ((l : Int) - 1) - 4 * t + ze - (c - ze) - 3 * w + 100).toNat, by omega, ?_⟩
  rw [nI_iI l, nI_iI t, nI_iI ze, nI_iI c]
  show (((iI 2 * (iI l - iI 1)) - (iI 4 * iI t)) + iI ze) - (iI c - iI ze) - (iI 3 * iI w) + iI 100 = _
  rw [iI_sub, iI_mul, iI_mul, iI_sub, iI_add, iI_sub, iI_sub, iI_mul, iI_sub, iI_add]
  exact iI_nI (by omega)
theorem u_X13_makeJones_4 {x2 : Int32} {x3 : Int32} {x4 : Int32} {x5 : Int32} {x10 : Int32} {x11 : Int32} {x12 : Int32} {x13 : Int32} {w6 : Int64} {w8 : Int64} {w14 : Int64} {r1 : Nat} {t2 : Int32} {y0 : Int64} {y1 : Int64} {z : ow_MS} {Q : ow_MS → Prop} (H : Tt (fun K k => qm_X13_makeJones_4 K (q_X13_makeJones K k) x2 x3 x4 x5 x10 x11 x12 x13 w6 w8 w14 r1 t2 y0 y1 z) Q) : Tt (fun K k => q_X13_makeJones K k 4 x2 x3 x4 x5 x10 x11 x12 x13 w6 w8 w14 r1 t2 y0 y1 z) Q := w_un (fun _ _ => rfl) H
theorem u_X13_makeJones_6 {x2 : Int32} {x3 : Int32} {x4 : Int32} {x5 : Int32} {x10 : Int32} {x11 : Int32} {x12 : Int32} {x13 : Int32} {w6 : Int64} {w8 : Int64} {w14 : Int64} {r1 : Nat} {t2 : Int32} {y0 : Int64} {y1 : Int64} {z : ow_MS} {Q : ow_MS → Prop} (H : Tt (fun K k => qm_X13_makeJones_6 K (q_X13_makeJones K k) x2 x3 x4 x5 x10 x11 x12 x13 w6 w8 w14 r1 t2 y0 y1 z) Q) : Tt (fun K k => q_X13_makeJones K k 6 x2 x3 x4 x5 x10 x11 x12 x13 w6 w8 w14 r1 t2 y0 y1 z) Q := w_un (fun _ _ => rfl) H
theorem u_X13_makeJones_7 {x2 : Int32} {x3 : Int32} {x4 : Int32} {x5 : Int32} {x10 : Int32} {x11 : Int32} {x12 : Int32} {x13 : Int32} {w6 : Int64} {w8 : Int64} {w14 : Int64} {r1 : Nat} {t2 : Int32} {y0 : Int64} {y1 : Int64} {z : ow_MS} {Q : ow_MS → Prop} (H : Tt (fun K k => qm_X13_makeJones_7 K (q_X13_makeJones K k) x2 x3 x4 x5 x10 x11 x12 x13 w6 w8 w14 r1 t2 y0 y1 z) Q) : Tt (fun K k => q_X13_makeJones K k 7 x2 x3 x4 x5 x10 x11 x12 x13 w6 w8 w14 r1 t2 y0 y1 z) Q := w_un (fun _ _ => rfl) H
theorem u_X13_makeJones_9 {x2 : Int32} {x3 : Int32} {x4 : Int32} {x5 : Int32} {x10 : Int32} {x11 : Int32} {x12 : Int32} {x13 : Int32} {w6 : Int64} {w8 : Int64} {w14 : Int64} {r1 : Nat} {t2 : Int32} {y0 : Int64} {y1 : Int64} {z : ow_MS} {Q : ow_MS → Prop} (H : Tt (fun K k => qm_X13_makeJones_9 K (q_X13_makeJones K k) x2 x3 x4 x5 x10 x11 x12 x13 w6 w8 w14 r1 t2 y0 y1 z) Q) : Tt (fun K k => q_X13_makeJones K k 9 x2 x3 x4 x5 x10 x11 x12 x13 w6 w8 w14 r1 t2 y0 y1 z) Q := w_un (fun _ _ => rfl) H
theorem u_X13_makeJones_8 {x2 : Int32} {x3 : Int32} {x4 : Int32} {x5 : Int32} {x10 : Int32} {x11 : Int32} {x12 : Int32} {x13 : Int32} {w6 : Int64} {w8 : Int64} {w14 : Int64} {r1 : Nat} {t2 : Int32} {y0 : Int64} {y1 : Int64} {z : ow_MS} {Q : ow_MS → Prop} (H : Tt (fun K k => qm_X13_makeJones_8 K (q_X13_makeJones K k) x2 x3 x4 x5 x10 x11 x12 x13 w6 w8 w14 r1 t2 y0 y1 z) Q) : Tt (fun K k => q_X13_makeJones K k 8 x2 x3 x4 x5 x10 x11 x12 x13 w6 w8 w14 r1 t2 y0 y1 z) Q := w_un (fun _ _ => rfl) H
theorem u_X13_makeJones_5 {x2 : Int32} {x3 : Int32} {x4 : Int32} {x5 : Int32} {x10 : Int32} {x11 : Int32} {x12 : Int32} {x13 : Int32} {w6 : Int64} {w8 : Int64} {w14 : Int64} {r1 : Nat} {t2 : Int32} {y0 : Int64} {y1 : Int64} {z : ow_MS} {Q : ow_MS → Prop} (H : Tt (fun K k => qm_X13_makeJones_5 K (q_X13_makeJones K k) x2 x3 x4 x5 x10 x11 x12 x13 w6 w8 w14 r1 t2 y0 y1 z) Q) : Tt (fun K k => q_X13_makeJones K k 5 x2 x3 x4 x5 x10 x11 x12 x13 w6 w8 w14 r1 t2 y0 y1 z) Q := w_un (fun _ _ => rfl) H
theorem u_X13_makeJones_3 {x2 : Int32} {x3 : Int32} {x4 : Int32} {x5 : Int32} {x10 : Int32} {x11 : Int32} {x12 : Int32} {x13 : Int32} {w6 : Int64} {w8 : Int64} {w14 : Int64} {r1 : Nat} {t2 : Int32} {y0 : Int64} {y1 : Int64} {z : ow_MS} {Q : ow_MS → Prop} (H : Tt (fun K k => qm_X13_makeJones_3 K (q_X13_makeJones K k) x2 x3 x4 x5 x10 x11 x12 x13 w6 w8 w14 r1 t2 y0 y1 z) Q) : Tt (fun K k => q_X13_makeJones K k 3 x2 x3 x4 x5 x10 x11 x12 x13 w6 w8 w14 r1 t2 y0 y1 z) Q := w_un (fun _ _ => rfl) H
theorem u_X13_makeJones_2 {x2 : Int32} {x3 : Int32} {x4 : Int32} {x5 : Int32} {x10 : Int32} {x11 : Int32} {x12 : Int32} {x13 : Int32} {w6 : Int64} {w8 : Int64} {w14 : Int64} {r1 : Nat} {t2 : Int32} {y0 : Int64} {y1 : Int64} {z : ow_MS} {Q : ow_MS → Prop} (H : Tt (fun K k => qm_X13_makeJones_2 K (q_X13_makeJones K k) x2 x3 x4 x5 x10 x11 x12 x13 w6 w8 w14 r1 t2 y0 y1 z) Q) : Tt (fun K k => q_X13_makeJones K k 2 x2 x3 x4 x5 x10 x11 x12 x13 w6 w8 w14 r1 t2 y0 y1 z) Q := w_un (fun _ _ => rfl) H
theorem u_X13_makeJones_1 {x2 : Int32} {x3 : Int32} {x4 : Int32} {x5 : Int32} {x10 : Int32} {x11 : Int32} {x12 : Int32} {x13 : Int32} {w6 : Int64} {w8 : Int64} {w14 : Int64} {r1 : Nat} {t2 : Int32} {y0 : Int64} {y1 : Int64} {z : ow_MS} {Q : ow_MS → Prop} (H : Tt (fun K k => qm_X13_makeJones_1 K (q_X13_makeJones K k) x2 x3 x4 x5 x10 x11 x12 x13 w6 w8 w14 r1 t2 y0 y1 z) Q) : Tt (fun K k => q_X13_makeJones K k 1 x2 x3 x4 x5 x10 x11 x12 x13 w6 w8 w14 r1 t2 y0 y1 z) Q := w_un (fun _ _ => rfl) H
theorem e_X13_makeJones {r1 : Nat} {z : ow_MS} {Q : ow_MS → Prop} (H : Tt (fun K k => q_X13_makeJones K k 0 0 0 0 0 0 0 0 0 0 0 0 r1 0 0 0 z) Q) : Te (fun K => qe_X13_makeJones K r1 z) Q := w_te H
theorem u_X13_makeJones_0 {x2 : Int32} {x3 : Int32} {x4 : Int32} {x5 : Int32} {x10 : Int32} {x11 : Int32} {x12 : Int32} {x13 : Int32} {w6 : Int64} {w8 : Int64} {w14 : Int64} {r1 : Nat} {t2 : Int32} {y0 : Int64} {y1 : Int64} {z : ow_MS} {Q : ow_MS → Prop} (H : Tt (fun K k => qm_X13_makeJones_0 K (q_X13_makeJones K k) x2 x3 x4 x5 x10 x11 x12 x13 w6 w8 w14 r1 t2 y0 y1 z) Q) : Tt (fun K k => q_X13_makeJones K k 0 x2 x3 x4 x5 x10 x11 x12 x13 w6 w8 w14 r1 t2 y0 y1 z) Q := w_un (fun _ _ => rfl) H
theorem tp_makeJones {n : Nat} {A : rn_L} {sg : Nat → Bool} (hn : mw_net n) (hA : oNet z n A sg) : Te (fun K => qe_X13_makeJones K n z) (fun z1 => fr (fun g => g = 47 ∨ g = 48 ∨ g = 51) z z1) := by
  obtain ⟨c, hok, hc⟩ := hA.2.2.1
  have hV := okF_len hok
  have hC := hA.2.2.2
  have hmn := net_mod hn
  have hov := ovs_le hok
  have hw := wrN_le (A := A) (sg := sg) A.flatten.length
  have hne := neC_eC A
  generalize hwn : wrN A sg A.flatten.length = w at hw
  have hw1 : -12 ≤ w := by omega
  have hw2 : w ≤ 12 := by omega
  let Q : ow_MS → Prop := fun z1 => fr (fun g => g = 47 ∨ g = 48 ∨ g = 51) z z1
  have oA : ∀ {y : ow_MS}, fr (fun g => g = 47 ∨ g = 48 ∨ g = 51) z y → oNet y n A sg := fun hf => oNet_fr hf (fun g hg => by omega) hA
  have c4 : ∀ (d l : Nat) (y : ow_MS), l + d = 24 → 1 ≤ l → fr (fun g => g = 47 ∨ g = 48 ∨ g = 51) z y → Tt (fun K i => q_X13_makeJones K i 4 (nI c) (nI (eC A)) (iI w) (nI l) 0 0 0 0 0 0 0 n 0 0 0 y) Q := by
    intro d
    induction d with
    | zero =>
      intro l y hl hl1 hf
      refine u_X13_makeJones_4 ?_; unfold qm_X13_makeJones_4
      exact w_leT (a := 24) (by omega) (by omega) (w_some hf)
    | succ d ih =>
      intro l y hl hl1 hf
      have c6 : ∀ (d2 t : Nat) (w6 w8 : Int64) (y : ow_MS), t + d2 = l → fr (fun g => g = 47 ∨ g = 48 ∨ g = 51) z y → Tt (fun K i => q_X13_makeJones K i 6 (nI c) (nI (eC A)) (iI w) (nI l) (nI t) 0 0 0 w6 w8 0 n 0 0 0 y) Q := by
        intro d2
        induction d2 with
        | zero =>
          intro t w6 w8 y ht hf
          refine u_X13_makeJones_6 ?_; unfold qm_X13_makeJones_6
          rw [nI_1]
          exact w_leT (by omega) (by omega) (ih (l + 1) y (by omega) (by omega) hf)
        | succ d2 ih2 =>
          intro t w6 w8 y ht hf
          have c7 : ∀ (d3 ze : Nat) (y : ow_MS), ze + d3 = c + 1 → fr (fun g => g = 47 ∨ g = 48 ∨ g = 51) z y → Tt (fun K i => q_X13_makeJones K i 7 (nI c) (nI (eC A)) (iI w) (nI l) (nI t) ((2 * (nI l - 1)) - (4 * nI t)) (nI ze) 0 w6 w8 0 n 0 0 0 y) Q := by
            intro d3
            induction d3 with
            | zero =>
              intro ze y hz hf
              have hnz : (nI (t + 1)).toInt64 ≠ 0 := by
                rw [nI_l (by omega)]
                exact fun e => by
                  have := (pk_lEQ (a := t + 1) (b := 0) (by omega) (by omega)).mp e
                  omega
              refine u_X13_makeJones_7 ?_; unfold qm_X13_makeJones_7
              rw [show nI t + 1 = nI (t + 1) from nI_1 _]
              exact w_ltT (by omega) (by omega) (w_nzJ hnz (ih2 (t + 1) _ _ y (by omega) hf))
            | succ d3 ih3 =>
              intro ze y hz hf
              obtain ⟨k, hk, ek⟩ := jn_ix (l := l) (t := t) (ze := ze) (c := c) (w := w) (by omega) hl1 (by omega) (by omega) hc hw1 hw2
              have c9 : ∀ (x13 : Int32) (w14 : Int64) (y : ow_MS), fr (fun g => g = 47 ∨ g = 48 ∨ g = 51) z y → Tt (fun K i => q_X13_makeJones K i 9 (nI c) (nI (eC A)) (iI w) (nI l) (nI t) ((2 * (nI l - 1)) - (4 * nI t)) (nI ze) x13 w6 w8 w14 n 0 0 0 y) Q := by
                intro x13 w14 y hf
                refine u_X13_makeJones_9 ?_; unfold qm_X13_makeJones_9
                rw [show nI ze + 1 = nI (ze + 1) from nI_1 _]
                exact ih3 (ze + 1) y (by omega) hf
              have c8 : ∀ (x13 : Int32) (w14 y0 y1 : Int64) (y : ow_MS), fr (fun g => g = 47 ∨ g = 48 ∨ g = 51) z y → Tt (fun K i => q_X13_makeJones K i 8 (nI c) (nI (eC A)) (iI w) (nI l) (nI t) ((2 * (nI l - 1)) - (4 * nI t)) (nI ze) x13 w6 w8 w14 n (nI k) y0 y1 y) Q := by
                intro x13 w14 y0 y1 y hf
                refine u_X13_makeJones_8 ?_; unfold qm_X13_makeJones_8
                exact w_wrJ ml48 rfl hk (c9 _ _ _ (fr_J2 hf (Or.inr (Or.inl rfl))))
              refine u_X13_makeJones_7 ?_; unfold qm_X13_makeJones_7
              rw [ek]
              refine w_ltF (by omega) (by omega) (w_rdJ (i := 24 * ze + l) ml51 (by rw [show (24 : Int32) * nI ze = nI (24 * ze) from pk_mul 24 ze, nI_add]) (by omega) rfl (w_if (fun _ => c9 _ _ _ hf) (fun _ => w_rdJ ml48 rfl hk rfl (w_if (fun _ => c8 _ _ _ _ _ hf) (fun _ => c8 _ _ _ _ _ hf)))))
          refine u_X13_makeJones_6 ?_; unfold qm_X13_makeJones_6
          exact w_leF (by omega) (by omega) (c7 (c + 1) 0 y (by omega) hf)
      have c5 : ∀ (y0 : Int64), Tt (fun K i => q_X13_makeJones K i 5 (nI c) (nI (eC A)) (iI w) (nI l) 0 0 0 0 0 0 0 n 0 y0 0 y) Q := by
        intro y0
        refine u_X13_makeJones_5 ?_; unfold qm_X13_makeJones_5
        exact c6 l 0 _ _ y (by omega) hf
      refine u_X13_makeJones_4 ?_; unfold qm_X13_makeJones_4
      exact w_leF (a := 24) (by omega) (by omega) (w_if (fun _ => c5 _) (fun _ => c5 _))
  have c3 : ∀ (d k : Nat) (y : ow_MS), k + d = 201 → fr (fun g => g = 47 ∨ g = 48 ∨ g = 51) z y → Tt (fun K i => q_X13_makeJones K i 3 (nI c) (nI (eC A)) (nI k) 0 0 0 0 0 0 0 0 n 0 0 0 y) Q := by
    intro d
    induction d with
    | zero =>
      intro k y hk hf
      refine u_X13_makeJones_3 ?_; unfold qm_X13_makeJones_3
      refine w_ltT (a := 200) (by omega) (by omega) (w_cs1 (tp_writhe2 hn (oA hf)) (fun a y1 e => ?_))
      cases e
      rw [hwn]
      exact c4 23 1 y (by omega) (by omega) hf
    | succ d ih =>
      intro k y hk hf
      refine u_X13_makeJones_3 ?_; unfold qm_X13_makeJones_3
      rw [nI_1]
      exact w_ltF (a := 200) (by omega) (by omega) (w_wrJ ml48 rfl (by omega) (ih (k + 1) _ (by omega) (fr_J2 hf (Or.inr (Or.inl rfl)))))
  have h2c : 2 ^ c ≤ 4096 := two_mono (b := 12) hc
  have c2 : ∀ (d s : Nat) (y : ow_MS), s + d = 2 ^ c → fr (fun g => g = 47 ∨ g = 48 ∨ g = 51) z y → Tt (fun K i => q_X13_makeJones K i 2 (nI c) (nI (eC A)) (nI s) 0 0 0 0 0 0 0 0 n 0 0 0 y) Q := by
    intro d
    induction d with
    | zero =>
      intro s y hs hf
      refine u_X13_makeJones_2 ?_; unfold qm_X13_makeJones_2
      rw [shl1 (by omega)]
      exact w_leT (by omega) (by omega) (c3 201 0 y (by omega) hf)
    | succ d ih =>
      intro s y hs hf
      have hpc := pc_le (c := c) (k := s) (by omega)
      refine u_X13_makeJones_2 ?_; unfold qm_X13_makeJones_2
      rw [shl1 (by omega)]
      refine w_leF (by omega) (by omega) (w_cs0 (tp_loops (st := nI s) hn (oA hf)) (fun y1 ⟨u1, f1⟩ => ?_))
      have hf1 : fr (fun g => g = 47 ∨ g = 48 ∨ g = 51) z y1 := fr_tr hf (fr_mono (fun g hg => Or.inl hg) f1)
      have hlp := loops_le (sg := sg) (st := nI s) hok (by omega)
      refine w_cs1 (tp_countL (oA hf1).1.V (by omega) u1) (fun a y2 e => ?_)
      cases e
      generalize rtsN (lpA A sg (nI s) A.flatten.length) A.flatten.length = r at hlp
      have ei : ((24 : Int32) * (nI c - ow_bc (nI s))) + nI r + nI (eC A) = nI (24 * (c - pc s) + r + eC A) := by
        rw [bc_pc (by omega), pk_sub hpc, show (24 : Int32) * nI (c - pc s) = nI (24 * (c - pc s)) from pk_mul 24 _, nI_add, nI_add]
      rw [ei, nI_1]
      exact w_rdJ ml51 rfl (by omega) rfl (w_wrJ ml51 rfl (by omega) (ih (s + 1) _ (by omega) (fr_J2 hf1 (Or.inr (Or.inr rfl)))))
  have c1 : ∀ (d k : Nat) (y : ow_MS), k + d = 312 → fr (fun g => g = 47 ∨ g = 48 ∨ g = 51) z y → Tt (fun K i => q_X13_makeJones K i 1 (nI c) (nI (eC A)) (nI k) 0 0 0 0 0 0 0 0 n 0 0 0 y) Q := by
    intro d
    induction d with
    | zero =>
      intro k y hk hf
      refine u_X13_makeJones_1 ?_; unfold qm_X13_makeJones_1
      exact w_leT (a := 312) (by omega) (by omega) (c2 (2 ^ c) 0 y (by omega) hf)
    | succ d ih =>
      intro k y hk hf
      refine u_X13_makeJones_1 ?_; unfold qm_X13_makeJones_1
      rw [nI_1]
      exact w_leF (a := 312) (by omega) (by omega) (w_wrJ ml51 rfl (by omega) (ih (k + 1) _ (by omega) (fr_J2 hf (Or.inr (Or.inr rfl)))))
  refine e_X13_makeJones ?_
  refine u_X13_makeJones_0 ?_; unfold qm_X13_makeJones_0
  refine w_rdF hA.1.V (w_nzI (by decide) (w_cs1 (tp_circles2 hn (by omega) (by omega) hA.1.1) (fun a y e => ?_)))
  cases e
  rw [hV, show nI (2 * c) / 2 = nI c from by rw [show nI (2 * c) / 2 = nI (2 * c / 2) from pk_div (d := 2) (by omega) (by omega) (by omega)]; congr 1; omega]
  exact c1 312 0 z (by omega) fr_rf
theorem u_X13_jones_3 {x1 : Int32} {x2 : Int32} {x3 : Int32} {z : ow_MS} {Q : (Int32 × ow_MS) → Prop} (H : Tt (fun K k => qm_X13_jones_3 K (q_X13_jones K k) x1 x2 x3 z) Q) : Tt (fun K k => q_X13_jones K k 3 x1 x2 x3 z) Q := w_un (fun _ _ => rfl) H
theorem u_X13_jones_2 {x1 : Int32} {x2 : Int32} {x3 : Int32} {z : ow_MS} {Q : (Int32 × ow_MS) → Prop} (H : Tt (fun K k => qm_X13_jones_2 K (q_X13_jones K k) x1 x2 x3 z) Q) : Tt (fun K k => q_X13_jones K k 2 x1 x2 x3 z) Q := w_un (fun _ _ => rfl) H
theorem e_X13_jones {x1 : Int32} {x2 : Int32} {z : ow_MS} {Q : (Int32 × ow_MS) → Prop} (H : Tt (fun K k => q_X13_jones K k 0 x1 x2 0 z) Q) : Te (fun K => qe_X13_jones K x1 x2 z) Q := w_te H
theorem u_X13_jones_0 {x1 : Int32} {x2 : Int32} {x3 : Int32} {z : ow_MS} {Q : (Int32 × ow_MS) → Prop} (H : Tt (fun K k => qm_X13_jones_0 K (q_X13_jones K k) x1 x2 x3 z) Q) : Tt (fun K k => q_X13_jones K k 0 x1 x2 x3 z) Q := w_un (fun _ _ => rfl) H
theorem u_X13_jones_1 {x1 : Int32} {x2 : Int32} {x3 : Int32} {z : ow_MS} {Q : (Int32 × ow_MS) → Prop} (H : Tt (fun K k => qm_X13_jones_1 K (q_X13_jones K k) x1 x2 x3 z) Q) : Tt (fun K k => q_X13_jones K k 1 x1 x2 x3 z) Q := w_un (fun _ _ => rfl) H
theorem tp_jones {d k : Int32} (h : gI X z) : Te (fun K => qe_X13_jones K d k z) (fun r => gI X r.2) := by
  have h1 := gI_1 (c := 0) h
  have c3 : ∀ {x1 x2 : Int32} {y : ow_MS}, gI X y → Tt (fun K i => q_X13_jones K i 3 x1 x2 0 y) (fun r => gI X r.2) := by
    intro x1 x2 y hy
    refine u_X13_jones_3 ?_; unfold qm_X13_jones_3
    exact w_some hy
  have c2 : ∀ {x1 x2 : Int32} {y : ow_MS}, gI X y → Tt (fun K i => q_X13_jones K i 2 x1 x2 0 y) (fun r => gI X r.2) := by
    intro x1 x2 y hy
    refine u_X13_jones_2 ?_; unfold qm_X13_jones_2
    refine w_if (fun _ => c3 hy) (fun h0 => w_if (fun h9 => ?_) (fun _ => c3 hy))
    obtain ⟨a, ha, rfl⟩ := i32_rng (x := x2) (c := 100) (by omega) h0 (fun h8 => by
      rw [Int32.lt_iff_toInt_lt] at h8
      rw [Int32.le_iff_toInt_le] at h9
      exact absurd h8 (Int.not_lt.mpr h9))
    rw [show nI a - nI 100 + 100 = nI a from Int32.sub_add_cancel _ _]
    exact w_rdJ ml48 rfl (by omega) rfl (w_some hy)
  refine e_X13_jones ?_
  refine u_X13_jones_0 ?_; unfold qm_X13_jones_0
  refine w_wrF (w_has h1.2.1 (w_ifT rfl (w_fail h1)) (fun e A sg he hx hv hne => w_ifF (by decide) ?_))
  subst hx
  obtain ⟨_, _, ⟨T1, k1⟩, kC⟩ := h1.2.2.2.2.1
  have hTl := hv.1.1
  rw [show (32 : Int32) * nI e = nI (32 * e) from pk_mul 32 e]
  refine w_cs1 (tr_same (o := 32 * e) (p := 0) ml12 ml50 (by omega) (by omega) (by omega) (by omega) hv.1 k1) (fun a y e9 => ?_)
  cases e9
  refine w_if (fun _ => ?_) (fun _ => c2 h1)
  have lp2 : ∀ (dd i : Nat) (y1 y : ow_MS), i + dd = 32 → gI X y1 → y1.2.1 12 = (usF z 1 0).2.1 12 → fr (fun g => g = 50) y1 y → (∀ t, t < i → y.2.1 50 t = y1.2.1 12 (32 * e + t)) → Tt (fun K t => q_X13_jones K t 1 (nI e) k (nI i) y) (fun r => gI X r.2) := by
    intro dd
    induction dd with
    | zero =>
      intro i y1 y hi g1 e12 hf ht
      refine u_X13_jones_1 ?_; unfold qm_X13_jones_1
      refine w_leT (a := 32) (by omega) (by omega) (c2 (gI_cash hf (fun g hg => Or.inl (Or.inr (Or.inr (Or.inl hg)))) ?_ g1))
      obtain ⟨⟨T2, k2⟩, ⟨T3, k3⟩, -, ⟨T4, k4⟩, cc, k5, k6⟩ := g1.2.2.2.2.1
      have hrow : rc_At y1 12 (32 * e) (tk sg A) := by
        obtain ⟨a1, a2, a3, a4⟩ := hv.1
        exact ⟨a1, a2, by rw [e12]; exact a3, fun k t hk => by rw [e12]; exact a4 k t hk⟩
      exact ⟨⟨T2, rc_fr hf (by decide) k2⟩, ⟨T3, rc_fr hf (by decide) k3⟩, ⟨_, rc_cpy hrow (fun t h9 => ht t (by omega))⟩, ⟨T4, rc_fr hf (by decide) k4⟩, cc, k5, by rw [(hf 67 (by decide)).1]; exact k6⟩
    | succ dd ih =>
      intro i y1 y hi g1 e12 hf ht
      refine u_X13_jones_1 ?_; unfold qm_X13_jones_1
      rw [show (32 : Int32) * nI e = nI (32 * e) from pk_mul 32 e, nI_add, nI_1]
      refine w_leF (a := 32) (by omega) (by omega) (w_rdI ml12 rfl (by omega) rfl (w_wrI ml50 rfl (by omega) (ih (i + 1) y1 _ (by omega) g1 e12 (fr_I2 hf rfl) (fun t h9 => ?_))))
      by_cases hti : t = i
      · rw [hti, po_usI_at, (hf 12 (by decide)).2.1]
      · exact rd_ne hti (ht t (by omega))
  refine w_cs0 (to_open pn1 he hv) (fun z2 ⟨o2, f2⟩ => w_cs0 (tp_makeJones pn1 o2) (fun z3 f3 => ?_))
  have hf3 : fr (fun g => 1000 ≤ g ∨ g = 47 ∨ g = 48 ∨ g = 51) (usF z 1 0) z3 := fr_tr (fr_mono (fun g hg => by omega) f2) (fr_mono (fun g hg => by omega) f3)
  exact lp2 32 0 z3 z3 (by omega) (gI_fr hf3 (fun g hg => by unfold per; omega) h1) (hf3 12 (by omega)).2.1 fr_rf (fun t ht => absurd ht (by omega))
end JON
end
section
/-! 99zzzm.arcs -/
/-! the arcs of the reference -/
def inR (y : ow_MS) (h v m : Nat) : Prop := ∃ i, i < m ∧ y.2.1 h v = nI i
theorem inR_mono {y : ow_MS} {h v m k : Nat} (hm : m ≤ k) (h9 : inR y h v m) : inR y h v k := by
  obtain ⟨i, h1, h2⟩ := h9
  exact ⟨i, by omega, h2⟩
theorem inR_fr {P : Nat → Prop} {y y1 : ow_MS} {h v m : Nat} (hf : fr P y y1) (hP : ¬ P h) (h9 : inR y h v m) : inR y1 h v m := by
  obtain ⟨i, h1, h2⟩ := h9
  exact ⟨i, h1, by rw [(hf h hP).2.1]; exact h2⟩
theorem inR_set {y : ow_MS} {h v m i : Nat} (hi : i < m) : inR (usI y h v (nI i)) h v m := ⟨i, hi, po_usI_at⟩
theorem inR_keep {y : ow_MS} {h v m w : Nat} {x : Int32} (h9 : inR y h v m) (hx : ∃ i, i < m ∧ x = nI i) : inR (usI y h w x) h v m := by
  by_cases hv : v = w
  · obtain ⟨i, hi, e⟩ := hx
    rw [hv]
    exact ⟨i, hi, po_usI_at.trans e⟩
  · obtain ⟨i, h1, h2⟩ := h9
    exact ⟨i, h1, rd_ne hv h2⟩
theorem inR_ot {y : ow_MS} {h v m w g : Nat} {x : Int32} (hg : h ≠ g) (h9 : inR y h v m) : inR (usI y g w x) h v m := by
  obtain ⟨i, h1, h2⟩ := h9
  exact ⟨i, h1, rd_ot hg h2⟩
/-- how many visits under stand before v -/
def uN (A : rn_L) : Nat → Nat
  | 0 => 0
  | v + 1 => uN A v + if uns A v = 0 then 0 else 1
theorem uN_mono {A : rn_L} {a : Nat} : ∀ b, a ≤ b → uN A a ≤ uN A b
  | 0, h => by rw [show a = 0 by omega]; exact Nat.le_refl _
  | b + 1, h => by
    by_cases e : a = b + 1
    · rw [e]; exact Nat.le_refl _
    · have := uN_mono (A := A) (a := a) b (by omega)
      show uN A a ≤ uN A b + _
      omega
theorem uN_ov {A : rn_L} : ∀ V, uN A V + (ovs A V).length = V
  | 0 => rfl
  | v + 1 => by
    have ih := uN_ov (A := A) v
    have e : (ovs A (v + 1)).length = (ovs A v).length + if uns A v = 0 then 1 else 0 := by
      unfold ovs
      rw [List.range_succ, List.filter_append, List.length_append]
      by_cases h : uns A v = 0
      · rw [if_pos h, List.filter_cons_of_pos (p := fun u => decide (uns A u = 0)) (decide_eq_true h)]
        rfl
      · rw [if_neg h, List.filter_cons_of_neg (p := fun u => decide (uns A u = 0)) (by simpa using h)]
        rfl
    rw [e]
    show uN A v + _ + _ = _
    by_cases h : uns A v = 0
    · rw [if_pos h, if_pos h]; omega
    · rw [if_neg h, if_neg h]; omega
theorem ok_u {A : rn_L} {c x : Nat} (h : okF A.flatten c) (hx : x < c) (u : Nat) (hu : u < 2) : ∃ t, t < A.flatten.length ∧ crs A t = x ∧ uns A t = u := by
  obtain ⟨t, ht, e⟩ := List.getElem_of_mem ((h.2 (x, u)).mpr ⟨hx, hu⟩)
  refine ⟨t, ht, ?_, ?_⟩
  · unfold crs
    rw [vAt_eq (List.getElem?_eq_getElem ht), e]
  · unfold uns
    rw [vAt_eq (List.getElem?_eq_getElem ht), e]
/-- half the visits are under -/
theorem uN_c {A : rn_L} {c : Nat} (hok : okF A.flatten c) : uN A A.flatten.length ≤ c := by
  have h1 := uN_ov (A := A) A.flatten.length
  have h2 := okF_len hok
  have h3 : c ≤ (ovs A A.flatten.length).length := by
    have := nodup_le (List.range c) ((ovs A A.flatten.length).map (crs A)) List.nodup_range (fun x hx => by
      obtain ⟨t, t1, t2, t3⟩ := ok_u hok (List.mem_range.mp hx) 0 (by omega)
      exact List.mem_map.mpr ⟨t, List.mem_filter.mpr ⟨List.mem_range.mpr t1, decide_eq_true t3⟩, t2⟩)
    rw [List.length_range, List.length_map] at this
    exact this
  omega
/-- what makeArcs leaves: a arcs, and the three of each crossing -/
def arcI (y : ow_MS) (c a : Nat) : Prop := y.1 58 = nI a ∧ ∀ x, x < c → inR y 61 x a ∧ inR y 62 x a ∧ inR y 63 x a
abbrev arcH (g : Nat) : Prop := 58 ≤ g ∧ g ≤ 63
section ARC
variable {z : ow_MS}
theorem u_X13_makeArcs_8 {x2 : Int32} {x3 : Int32} {x4 : Int32} {r1 : Nat} {t0 : Int32} {z : ow_MS} {Q : ow_MS → Prop} (H : Tt (fun K k => qm_X13_makeArcs_8 K (q_X13_makeArcs K k) x2 x3 x4 r1 t0 z) Q) : Tt (fun K k => q_X13_makeArcs K k 8 x2 x3 x4 r1 t0 z) Q := w_un (fun _ _ => rfl) H
theorem u_X13_makeArcs_9 {x2 : Int32} {x3 : Int32} {x4 : Int32} {r1 : Nat} {t0 : Int32} {z : ow_MS} {Q : ow_MS → Prop} (H : Tt (fun K k => qm_X13_makeArcs_9 K (q_X13_makeArcs K k) x2 x3 x4 r1 t0 z) Q) : Tt (fun K k => q_X13_makeArcs K k 9 x2 x3 x4 r1 t0 z) Q := w_un (fun _ _ => rfl) H
theorem u_X13_makeArcs_1 {x2 : Int32} {x3 : Int32} {x4 : Int32} {r1 : Nat} {t0 : Int32} {z : ow_MS} {Q : ow_MS → Prop} (H : Tt (fun K k => qm_X13_makeArcs_1 K (q_X13_makeArcs K k) x2 x3 x4 r1 t0 z) Q) : Tt (fun K k => q_X13_makeArcs K k 1 x2 x3 x4 r1 t0 z) Q := w_un (fun _ _ => rfl) H
theorem u_X13_makeArcs_7 {x2 : Int32} {x3 : Int32} {x4 : Int32} {r1 : Nat} {t0 : Int32} {z : ow_MS} {Q : ow_MS → Prop} (H : Tt (fun K k => qm_X13_makeArcs_7 K (q_X13_makeArcs K k) x2 x3 x4 r1 t0 z) Q) : Tt (fun K k => q_X13_makeArcs K k 7 x2 x3 x4 r1 t0 z) Q := w_un (fun _ _ => rfl) H
theorem u_X13_makeArcs_4 {x2 : Int32} {x3 : Int32} {x4 : Int32} {r1 : Nat} {t0 : Int32} {z : ow_MS} {Q : ow_MS → Prop} (H : Tt (fun K k => qm_X13_makeArcs_4 K (q_X13_makeArcs K k) x2 x3 x4 r1 t0 z) Q) : Tt (fun K k => q_X13_makeArcs K k 4 x2 x3 x4 r1 t0 z) Q := w_un (fun _ _ => rfl) H
theorem u_X13_makeArcs_6 {x2 : Int32} {x3 : Int32} {x4 : Int32} {r1 : Nat} {t0 : Int32} {z : ow_MS} {Q : ow_MS → Prop} (H : Tt (fun K k => qm_X13_makeArcs_6 K (q_X13_makeArcs K k) x2 x3 x4 r1 t0 z) Q) : Tt (fun K k => q_X13_makeArcs K k 6 x2 x3 x4 r1 t0 z) Q := w_un (fun _ _ => rfl) H
theorem u_X13_makeArcs_5 {x2 : Int32} {x3 : Int32} {x4 : Int32} {r1 : Nat} {t0 : Int32} {z : ow_MS} {Q : ow_MS → Prop} (H : Tt (fun K k => qm_X13_makeArcs_5 K (q_X13_makeArcs K k) x2 x3 x4 r1 t0 z) Q) : Tt (fun K k => q_X13_makeArcs K k 5 x2 x3 x4 r1 t0 z) Q := w_un (fun _ _ => rfl) H
theorem u_X13_makeArcs_2 {x2 : Int32} {x3 : Int32} {x4 : Int32} {r1 : Nat} {t0 : Int32} {z : ow_MS} {Q : ow_MS → Prop} (H : Tt (fun K k => qm_X13_makeArcs_2 K (q_X13_makeArcs K k) x2 x3 x4 r1 t0 z) Q) : Tt (fun K k => q_X13_makeArcs K k 2 x2 x3 x4 r1 t0 z) Q := w_un (fun _ _ => rfl) H
theorem u_X13_makeArcs_3 {x2 : Int32} {x3 : Int32} {x4 : Int32} {r1 : Nat} {t0 : Int32} {z : ow_MS} {Q : ow_MS → Prop} (H : Tt (fun K k => qm_X13_makeArcs_3 K (q_X13_makeArcs K k) x2 x3 x4 r1 t0 z) Q) : Tt (fun K k => q_X13_makeArcs K k 3 x2 x3 x4 r1 t0 z) Q := w_un (fun _ _ => rfl) H
theorem e_X13_makeArcs {r1 : Nat} {z : ow_MS} {Q : ow_MS → Prop} (H : Tt (fun K k => q_X13_makeArcs K k 0 0 0 0 r1 0 z) Q) : Te (fun K => qe_X13_makeArcs K r1 z) Q := w_te H
theorem u_X13_makeArcs_0 {x2 : Int32} {x3 : Int32} {x4 : Int32} {r1 : Nat} {t0 : Int32} {z : ow_MS} {Q : ow_MS → Prop} (H : Tt (fun K k => qm_X13_makeArcs_0 K (q_X13_makeArcs K k) x2 x3 x4 r1 t0 z) Q) : Tt (fun K k => q_X13_makeArcs K k 0 x2 x3 x4 r1 t0 z) Q := w_un (fun _ _ => rfl) H
theorem tp_arcs {n c : Nat} {A : rn_L} {sg : Nat → Bool} (hn : mw_net n) (hA : oNet z n A sg) (hok : okF A.flatten c) : Te (fun K => qe_X13_makeArcs K n z) (fun z1 => (∃ a, a ≤ c + A.length ∧ arcI z1 c a) ∧ fr arcH z z1) := by
  have hl := hA.len
  have hC := hA.2.2.2
  have hmn := net_mod hn
  have hV := okF_len hok
  have hUc := uN_c hok
  let Q : ow_MS → Prop := fun z1 => (∃ a, a ≤ c + A.length ∧ arcI z1 c a) ∧ fr arcH z z1
  have oA : ∀ {y : ow_MS}, fr arcH z y → oNet y n A sg := fun hf => oNet_fr hf (fun g hg => by unfold arcH at hg; omega) hA
  have c8 : ∀ (d v a : Nat) (y : ow_MS), v + d = A.flatten.length → a ≤ c + A.length → fr arcH z y → y.1 58 = nI a → (∀ u, u < A.flatten.length → inR y 59 u a ∧ (uns A u ≠ 0 → inR y 60 u a)) → (∀ u, u < v → (uns A u = 0 → inR y 61 (crs A u) a) ∧ (uns A u ≠ 0 → inR y 62 (crs A u) a ∧ inR y 63 (crs A u) a)) → Tt (fun K i => q_X13_makeArcs K i 8 (nI v) 0 0 n 0 y) Q := by
    intro d
    induction d with
    | zero =>
      intro v a y hv ha hf h58 hR hD
      refine u_X13_makeArcs_8 ?_; unfold qm_X13_makeArcs_8
      refine w_rdF (oA hf).1.V (w_leT (by omega) (by omega) (w_some ⟨⟨a, ha, h58, fun x hx => ?_⟩, hf⟩))
      obtain ⟨t, t1, t2, t3⟩ := ok_u hok hx 0 (by omega)
      obtain ⟨s, s1, s2, s3⟩ := ok_u hok hx 1 (by omega)
      have k1 := (hD t (by omega)).1 t3
      have k2 := (hD s (by omega)).2 (by omega)
      rw [t2] at k1
      rw [s2] at k2
      exact ⟨k1, k2⟩
    | succ d ih =>
      intro v a y hv ha hf h58 hR hD
      have hvl : v < A.flatten.length := by omega
      have hO := oA hf
      obtain ⟨c1, c2, c3⟩ := hO.cx hvl
      obtain ⟨⟨i, hi, ei⟩, hB⟩ := hR v hvl
      refine u_X13_makeArcs_8 ?_; unfold qm_X13_makeArcs_8
      refine w_rdF hO.1.V (w_leF (by omega) hvl (w_rdI (pl4 hn) rfl (by omega) (lk_cu hO.1 hvl).1 (w_rdI (pl5 hn) rfl (by omega) (lk_cu hO.1 hvl).2 (w_eqN (b := 0) (by omega) (by omega) (fun h0 => w_rdI ml59 rfl (by omega) ei (w_wrI ml61 rfl (by omega) ?_)) (fun h0 => ?_)))))
      · refine u_X13_makeArcs_9 ?_; unfold qm_X13_makeArcs_9
        rw [nI_1]
        refine ih (v + 1) a _ (by omega) ha (fr_I2 hf (by unfold arcH; omega)) h58 (fun u hu => ⟨inR_ot (by omega) (hR u hu).1, fun h9 => inR_ot (by omega) ((hR u hu).2 h9)⟩) (fun u hu => ⟨fun h9 => ?_, fun h9 => ?_⟩)
        · by_cases huv : u = v
          · rw [huv]; exact inR_set hi
          · exact inR_keep ((hD u (by omega)).1 h9) ⟨i, hi, rfl⟩
        · have huv : u ≠ v := fun e => h9 (by rw [e]; exact h0)
          obtain ⟨k1, k2⟩ := (hD u (by omega)).2 h9
          exact ⟨inR_ot (by omega) k1, inR_ot (by omega) k2⟩
      · obtain ⟨j, hj, ej⟩ := hB h0
        refine w_rdI ml59 rfl (by omega) ei (w_wrI ml62 rfl (by omega) (w_rdI ml60 rfl (by omega) (rd_ot (by omega) ej) (w_wrI ml63 rfl (by omega) ?_)))
        refine u_X13_makeArcs_9 ?_; unfold qm_X13_makeArcs_9
        rw [nI_1]
        refine ih (v + 1) a _ (by omega) ha (fr_I2 (fr_I2 hf (by unfold arcH; omega)) (by unfold arcH; omega)) h58 (fun u hu => ⟨inR_ot (by omega) (inR_ot (by omega) (hR u hu).1), fun h9 => inR_ot (by omega) (inR_ot (by omega) ((hR u hu).2 h9))⟩) (fun u hu => ⟨fun h9 => ?_, fun h9 => ?_⟩)
        · have huv : u ≠ v := fun e => h0 (by rw [← e]; exact h9)
          exact inR_ot (by omega) (inR_ot (by omega) ((hD u (by omega)).1 h9))
        · by_cases huv : u = v
          · rw [huv]
            exact ⟨inR_ot (by omega) (inR_set hi), inR_set hj⟩
          · obtain ⟨k1, k2⟩ := (hD u (by omega)).2 h9
            exact ⟨inR_ot (by omega) (inR_keep k1 ⟨i, hi, rfl⟩), inR_keep (inR_ot (by omega) k2) ⟨j, hj, rfl⟩⟩
  have c1 : ∀ (d k a : Nat) (y : ow_MS), k + d = A.length → a ≤ uN A (rn_b A k) + k → fr arcH z y → y.1 58 = nI a → (∀ u, u < rn_b A k → inR y 59 u a ∧ (uns A u ≠ 0 → inR y 60 u a)) → Tt (fun K i => q_X13_makeArcs K i 1 (nI k) 0 0 n 0 y) Q := by
    intro d
    induction d with
    | zero =>
      intro k a y hk ha hf h58 hR
      have hk : k = A.length := by omega
      subst hk
      rw [rn_b_len] at hR ha
      refine u_X13_makeArcs_1 ?_; unfold qm_X13_makeArcs_1
      exact w_rdF (lk_C (oA hf).1) (w_leT (by omega) (by omega) (c8 A.flatten.length 0 a y (by omega) (by omega) hf h58 hR (fun u hu => absurd hu (by omega))))
    | succ d ih =>
      intro k a y hk ha hf h58 hR
      have hb1 := rn_b_le A k
      have hb2 := rn_b_le A (k + 1)
      have hb3 := rn_b_mono A k
      have c7 : ∀ (x3 x4 : Int32) (a : Nat) (y : ow_MS), a ≤ uN A (rn_b A (k + 1)) + (k + 1) → fr arcH z y → y.1 58 = nI a → (∀ u, u < rn_b A (k + 1) → inR y 59 u a ∧ (uns A u ≠ 0 → inR y 60 u a)) → Tt (fun K i => q_X13_makeArcs K i 7 (nI k) x3 x4 n 0 y) Q := by
        intro x3 x4 a y ha hf h58 hR
        refine u_X13_makeArcs_7 ?_; unfold qm_X13_makeArcs_7
        rw [nI_1]
        exact ih (k + 1) a y (by omega) ha hf h58 hR
      have hUm := uN_mono (A := A) (rn_b A (k + 1)) hb3
      have hUl := uN_mono (A := A) A.flatten.length hb2
      -- a ring without a visit under
      have c4 : ∀ (d v : Nat) (y : ow_MS), v + d = rn_b A (k + 1) → rn_b A k ≤ v → (∀ u, rn_b A k ≤ u → u < rn_b A (k + 1) → uns A u = 0) → fr arcH z y → y.1 58 = nI a → (∀ u, u < v → inR y 59 u (a + 1)) → (∀ u, u < rn_b A k → uns A u ≠ 0 → inR y 60 u (a + 1)) → Tt (fun K i => q_X13_makeArcs K i 4 (nI k) (-1) (nI v) n 0 y) Q := by
        intro d
        induction d with
        | zero =>
          intro v y hv hvb hno hf h58 hR hB
          refine u_X13_makeArcs_4 ?_; unfold qm_X13_makeArcs_4
          rw [nI_1]
          refine w_rdI (pl3 hn) rfl (by omega) (lk_b (oA hf).1 (by omega)) (w_leT (by omega) (by omega) (w_rdF h58 (w_wrF (c7 _ _ (a + 1) _ (by omega) (fr_F2 hf (by unfold arcH; omega)) (po_usF_at.trans (nI_1 a)) (fun u hu => ⟨hR u (by omega), fun h9 => ?_⟩)))))
          rcases Nat.lt_or_ge u (rn_b A k) with h8 | h8
          · exact hB u h8 h9
          · exact absurd (hno u h8 hu) h9
        | succ d ih4 =>
          intro v y hv hvb hno hf h58 hR hB
          refine u_X13_makeArcs_4 ?_; unfold qm_X13_makeArcs_4
          rw [nI_1, nI_1]
          refine w_rdI (pl3 hn) rfl (by omega) (lk_b (oA hf).1 (by omega)) (w_leF (by omega) (by omega) (w_rdF h58 (w_wrI ml59 rfl (by omega) (ih4 (v + 1) _ (by omega) (by omega) hno (fr_I2 hf (by unfold arcH; omega)) h58 (fun u hu => ?_) (fun u hu h9 => inR_ot (by omega) (hB u hu h9))))))
          by_cases huv : u = v
          · rw [huv]; exact inR_set (by omega)
          · exact inR_keep (hR u (by omega)) ⟨a, by omega, rfl⟩
      -- a ring whose first visit under is s
      have c5 : ∀ (s : Nat), rn_b A k ≤ s → s < rn_b A (k + 1) → uns A s = 1 → (∀ u, rn_b A k ≤ u → u < s → uns A u = 0) → ∀ (y : ow_MS), fr arcH z y → y.1 58 = nI a → (∀ u, u < rn_b A k → inR y 59 u a ∧ (uns A u ≠ 0 → inR y 60 u a)) → Tt (fun K i => q_X13_makeArcs K i 5 (nI k) (nI s) (nI s) n 0 y) Q := by
        intro s hs1 hs2 hs3 hs4 y hf h58 hR
        have hUs : uN A (s + 1) = uN A s + 1 := by
          show uN A s + (if uns A s = 0 then 0 else 1) = _
          rw [if_neg (by omega)]
        have hUb := uN_mono (A := A) s hs1
        have hUe := uN_mono (A := A) (a := s + 1) (rn_b A (k + 1)) hs2
        have nx : ∀ v, rn_b A k ≤ v → v < rn_b A (k + 1) → rn_nx A v = if v + 1 < rn_b A (k + 1) then v + 1 else rn_b A k := by
          intro v h1 h2
          have e := rn_c_of A k v h1 h2
          unfold rn_nx
          rw [e]
        -- behind the end of the row: from its beginning to s
        have p2 : ∀ (d v m : Nat) (y : ow_MS), v + d = s → rn_b A k ≤ v → m + uN A (s + 1) ≤ a + uN A (rn_b A (k + 1)) → fr arcH z y → y.1 58 = nI m → (∀ u, u < v → inR y 59 u (m + 1)) → (∀ u, s < u → u < rn_b A (k + 1) → inR y 59 u (m + 1)) → (∀ u, u < rn_b A (k + 1) → uns A u ≠ 0 → inR y 60 u (m + 1)) → Tt (fun K i => q_X13_makeArcs K i 6 (nI k) (nI s) (nI v) n 0 y) Q := by
          intro d
          induction d with
          | zero =>
            intro v m y hv hvb hm hf h58 hR1 hR2 hB
            have hv : v = s := by omega
            subst hv
            refine u_X13_makeArcs_6 ?_; unfold qm_X13_makeArcs_6
            refine w_rdI (pl5 hn) rfl (by omega) (lk_cu (oA hf).1 (by omega)).2 (w_ifF (by rw [hs3]; decide) (w_rdF h58 (w_wrI ml59 rfl (by omega) (w_rdF (x := nI m) h58 (w_wrF (w_ifT rfl (c7 _ _ (m + 1) _ (by omega) (fr_F2 (fr_I2 hf (by unfold arcH; omega)) (by unfold arcH; omega)) (po_usF_at.trans (nI_1 m)) (fun u hu => ⟨?_, fun h9 => ?_⟩))))))))
            · show inR (usI y 59 v (nI m)) 59 u (m + 1)
              by_cases huv : u = v
              · rw [huv]; exact inR_set (by omega)
              · rcases Nat.lt_or_ge u v with h8 | h8
                · exact inR_keep (hR1 u h8) ⟨m, by omega, rfl⟩
                · exact inR_keep (hR2 u (by omega) hu) ⟨m, by omega, rfl⟩
            · show inR (usI y 59 v (nI m)) 60 u (m + 1)
              exact inR_ot (by omega) (hB u hu h9)
          | succ d ih2 =>
            intro v m y hv hvb hm hf h58 hR1 hR2 hB
            have e0 := hs4 v hvb (by omega)
            have en := nx v hvb (by omega)
            rw [if_pos (by omega)] at en
            have hf2 : fr arcH z (usI y 59 v (nI m)) := fr_I2 hf (by unfold arcH; omega)
            have hnx : (usI y 59 v (nI m)).2.1 (n + 9) v = nI (v + 1) := by
              rw [lk_n (oA hf2).1 (by omega), en]
            refine u_X13_makeArcs_6 ?_; unfold qm_X13_makeArcs_6
            refine w_rdI (pl5 hn) rfl (by omega) (lk_cu (oA hf).1 (by omega)).2 (w_ifT (by rw [e0]; rfl) (w_rdF h58 (w_wrI ml59 rfl (by omega) (w_rdI (pl9 hn) rfl (by omega) hnx (ih2 (v + 1) m _ (by omega) (by omega) hm hf2 h58 (fun u hu => ?_) (fun u h1 h2 => inR_keep (hR2 u h1 h2) ⟨m, by omega, rfl⟩) (fun u hu h9 => inR_ot (by omega) (hB u hu h9)))))))
            by_cases huv : u = v
            · rw [huv]; exact inR_set (by omega)
            · exact inR_keep (hR1 u (by omega)) ⟨m, by omega, rfl⟩
        -- before the end of the row
        have p1 : ∀ (d v m : Nat) (y : ow_MS), v + d = rn_b A (k + 1) → s < v → m + uN A (s + 1) ≤ a + uN A v → fr arcH z y → y.1 58 = nI m → (∀ u, u < rn_b A k → inR y 59 u (m + 1)) → (∀ u, s < u → u < v → inR y 59 u (m + 1)) → (∀ u, u < v → uns A u ≠ 0 → inR y 60 u (m + 1)) → Tt (fun K i => q_X13_makeArcs K i 6 (nI k) (nI s) (if v < rn_b A (k + 1) then nI v else nI (rn_b A k)) n 0 y) Q := by
          intro d
          induction d with
          | zero =>
            intro v m y hv hsv hm hf h58 hR1 hR2 hB
            rw [if_neg (by omega)]
            have hv : v = rn_b A (k + 1) := by omega
            subst hv
            exact p2 (s - rn_b A k) (rn_b A k) m y (by omega) (Nat.le_refl _) hm hf h58 hR1 hR2 hB
          | succ d ih1 =>
            intro v m y hv hsv hm hf h58 hR1 hR2 hB
            rw [if_pos (by omega)]
            have en := nx v (by omega) (by omega)
            have hUv : uN A (v + 1) = uN A v + if uns A v = 0 then 0 else 1 := rfl
            have hUv2 := uN_mono (A := A) (rn_b A (k + 1)) (show v + 1 ≤ rn_b A (k + 1) by omega)
            have eN : nI (rn_nx A v) = if v + 1 < rn_b A (k + 1) then nI (v + 1) else nI (rn_b A k) := by
              rw [en]
              split <;> rfl
            have hf2 : fr arcH z (usI y 59 v (nI m)) := fr_I2 hf (by unfold arcH; omega)
            by_cases e0 : uns A v = 0
            · have hnx : (usI y 59 v (nI m)).2.1 (n + 9) v = if v + 1 < rn_b A (k + 1) then nI (v + 1) else nI (rn_b A k) := by
                rw [lk_n (oA hf2).1 (by omega), eN]
              rw [if_pos e0] at hUv
              refine u_X13_makeArcs_6 ?_; unfold qm_X13_makeArcs_6
              refine w_rdI (pl5 hn) rfl (by omega) (lk_cu (oA hf).1 (by omega)).2 (w_ifT (by rw [e0]; rfl) (w_rdF h58 (w_wrI ml59 rfl (by omega) (w_rdI (pl9 hn) rfl (by omega) hnx (ih1 (v + 1) m _ (by omega) (by omega) (by omega) hf2 h58 (fun u hu => inR_keep (hR1 u hu) ⟨m, by omega, rfl⟩) (fun u h1 h2 => ?_) (fun u hu h9 => ?_))))))
              · by_cases huv : u = v
                · rw [huv]; exact inR_set (by omega)
                · exact inR_keep (hR2 u h1 (by omega)) ⟨m, by omega, rfl⟩
              · by_cases huv : u = v
                · rw [huv] at h9
                  exact absurd e0 h9
                · exact inR_ot (by omega) (hB u (by omega) h9)
            · rw [if_neg e0] at hUv
              have hu2 := ((oA hf).cx (i := v) (by omega)).2.1
              refine u_X13_makeArcs_6 ?_; unfold qm_X13_makeArcs_6
              refine w_rdI (pl5 hn) rfl (by omega) (lk_cu (oA hf).1 (by omega)).2 (w_ifF (fun h9 => e0 ((nI_eq (by omega) (by omega)).mp (h9.trans nI_0.symm))) (w_rdF h58 (w_wrI ml59 rfl (by omega) (w_rdF (x := nI m) h58 (w_wrF (w_ifF (fun h9 => absurd ((nI_eq (by omega) (by omega)).mp h9) (by omega)) ?_))))))
              have hf3 : fr arcH z (usF (usI y 59 v (nI m)) 58 (nI m + 1)) := fr_F2 hf2 (by unfold arcH; omega)
              have hf4 : fr arcH z (usI (usF (usI y 59 v (nI m)) 58 (nI m + 1)) 60 v (nI (m + 1))) := fr_I2 hf3 (by unfold arcH; omega)
              have hnx : (usI (usF (usI y 59 v (nI m)) 58 (nI m + 1)) 60 v (nI (m + 1))).2.1 (n + 9) v = if v + 1 < rn_b A (k + 1) then nI (v + 1) else nI (rn_b A k) := by
                rw [lk_n (oA hf4).1 (by omega), eN]
              have h58' : (usI (usF (usI y 59 v (nI m)) 58 (nI m + 1)) 60 v (nI (m + 1))).1 58 = nI (m + 1) := by
                show (usF (usI y 59 v (nI m)) 58 (nI m + 1)).1 58 = _
                exact po_usF_at.trans (nI_1 m)
              refine u_X13_makeArcs_5 ?_; unfold qm_X13_makeArcs_5
              refine w_rdF (x := nI (m + 1)) (po_usF_at.trans (nI_1 m)) (w_wrI ml60 rfl (by omega) (w_rdI (pl9 hn) rfl (by omega) hnx (ih1 (v + 1) (m + 1) _ (by omega) (by omega) (by omega) hf4 h58' (fun u hu => ?_) (fun u h1 h2 => ?_) (fun u hu h9 => ?_))))
              · exact inR_ot (by omega) (show inR (usI y 59 v (nI m)) 59 u (m + 1 + 1) from inR_keep (inR_mono (by omega) (hR1 u hu)) ⟨m, by omega, rfl⟩)
              · refine inR_ot (by omega) (show inR (usI y 59 v (nI m)) 59 u (m + 1 + 1) from ?_)
                by_cases huv : u = v
                · rw [huv]; exact inR_set (by omega)
                · exact inR_keep (inR_mono (by omega) (hR2 u h1 (by omega))) ⟨m, by omega, rfl⟩
              · by_cases huv : u = v
                · rw [huv]; exact inR_set (by omega)
                · exact inR_keep (show inR (usI y 59 v (nI m)) 60 u (m + 1 + 1) from inR_ot (by omega) (inR_mono (by omega) (hB u (by omega) h9))) ⟨m + 1, by omega, rfl⟩
        have hf2 : fr arcH z (usI y 60 s (nI a)) := fr_I2 hf (by unfold arcH; omega)
        have en := nx s hs1 hs2
        have hnx : (usI y 60 s (nI a)).2.1 (n + 9) s = if s + 1 < rn_b A (k + 1) then nI (s + 1) else nI (rn_b A k) := by
          rw [lk_n (oA hf2).1 (by omega), en]
          split <;> rfl
        refine u_X13_makeArcs_5 ?_; unfold qm_X13_makeArcs_5
        refine w_rdF h58 (w_wrI ml60 rfl (by omega) (w_rdI (pl9 hn) rfl (by omega) hnx (p1 (rn_b A (k + 1) - (s + 1)) (s + 1) a _ (by omega) (by omega) (by omega) hf2 h58 (fun u hu => inR_ot (by omega) (inR_mono (by omega) (hR u hu).1)) (fun u h1 h2 => absurd h1 (by omega)) (fun u hu h9 => ?_))))
        by_cases hus : u = s
        · rw [hus]; exact inR_set (by omega)
        · rcases Nat.lt_or_ge u (rn_b A k) with h8 | h8
          · exact inR_keep (inR_mono (by omega) ((hR u h8).2 h9)) ⟨a, by omega, rfl⟩
          · exact absurd (hs4 u h8 (by omega)) h9
      -- the first visit under is looked for from the end on
      have c2 : ∀ (d i : Nat) (x3 : Int32), i = rn_b A k + d → i ≤ rn_b A (k + 1) → ((x3 = -1 ∧ ∀ u, i ≤ u → u < rn_b A (k + 1) → uns A u = 0) ∨ ∃ s, x3 = nI s ∧ i ≤ s ∧ s < rn_b A (k + 1) ∧ uns A s = 1 ∧ ∀ u, i ≤ u → u < s → uns A u = 0) → Tt (fun K t => q_X13_makeArcs K t 2 (nI k) x3 (iI ((i : Int) - 1)) n 0 y) Q := by
        intro d
        induction d with
        | zero =>
          intro i x3 hi hie hx
          refine u_X13_makeArcs_2 ?_; unfold qm_X13_makeArcs_2
          refine w_rdI (pl3 hn) rfl (by omega) (lk_b (oA hf).1 (by omega)) (w_ifT (by rw [nI_iI, iI_lt (by omega) (by omega) (by omega) (by omega)]; omega) ?_)
          rcases hx with ⟨hx, hno⟩ | ⟨s, hx, s1, s2, s3, s4⟩
          · rw [hx]
            refine w_ifT rfl (w_rdI (pl3 hn) rfl (by omega) (lk_b (oA hf).1 (by omega)) (c4 (rn_b A (k + 1) - rn_b A k) (rn_b A k) y (by omega) (Nat.le_refl _) (fun u h1 h2 => hno u (by omega) h2) hf h58 (fun u hu => inR_mono (by omega) (hR u hu).1) (fun u hu h9 => inR_mono (by omega) ((hR u hu).2 h9))))
          · rw [hx]
            exact w_ifF (rn_neg1 (by omega)) (c5 s (by omega) s2 s3 (fun u h1 h2 => s4 u (by omega) h2) y hf h58 hR)
        | succ d ih2 =>
          intro i x3 hi hie hx
          obtain ⟨j, hj⟩ : ∃ j, i = j + 1 := ⟨i - 1, by omega⟩
          have e1 : iI ((i : Int) - 1) = nI j := iI_nI (by omega)
          have e2 : nI j + (-1) = iI ((j : Int) - 1) := by
            rw [nI_iI]
            show iI (j : Int) + iI (-1) = _
            rw [iI_add]
            rfl
          have hu2 := ((oA hf).cx (i := j) (by omega)).2.1
          rw [e1]
          refine u_X13_makeArcs_2 ?_; unfold qm_X13_makeArcs_2
          refine w_rdI (pl3 hn) rfl (by omega) (lk_b (oA hf).1 (by omega)) (w_ltF (by omega) (by omega) (w_rdI (pl5 hn) rfl (by omega) (lk_cu (oA hf).1 (by omega)).2 (w_eqN (b := 1) (by omega) (by omega) (fun h9 => ?_) (fun h9 => ?_))))
          · refine u_X13_makeArcs_3 ?_; unfold qm_X13_makeArcs_3
            rw [e2]
            refine ih2 j _ (by omega) (by omega) (Or.inr ⟨j, rfl, Nat.le_refl _, by omega, h9, fun u h1 h2 => absurd h1 (by omega)⟩)
          · refine u_X13_makeArcs_3 ?_; unfold qm_X13_makeArcs_3
            rw [e2]
            refine ih2 j _ (by omega) (by omega) ?_
            rcases hx with ⟨hx, hno⟩ | ⟨s, hx, s1, s2, s3, s4⟩
            · refine Or.inl ⟨hx, fun u h1 h2 => ?_⟩
              by_cases huj : u = j
              · rw [huj]; omega
              · exact hno u (by omega) h2
            · refine Or.inr ⟨s, hx, by omega, s2, s3, fun u h1 h2 => ?_⟩
              by_cases huj : u = j
              · rw [huj]; omega
              · exact s4 u (by omega) h2
      refine u_X13_makeArcs_1 ?_; unfold qm_X13_makeArcs_1
      rw [nI_1]
      refine w_rdF (lk_C (oA hf).1) (w_leF (by omega) (by omega) (w_rdI (pl3 hn) rfl (by omega) (lk_b (oA hf).1 (by omega)) ?_))
      rw [show nI (rn_b A (k + 1)) - 1 = iI ((rn_b A (k + 1) : Nat) - 1) from by rw [nI_iI]; exact iI_sub _ 1]
      exact c2 (rn_b A (k + 1) - rn_b A k) (rn_b A (k + 1)) (-1) (by omega) (Nat.le_refl _) (Or.inl ⟨rfl, fun u h1 h2 => absurd h1 (by omega)⟩)
  refine e_X13_makeArcs ?_
  refine u_X13_makeArcs_0 ?_; unfold qm_X13_makeArcs_0
  refine w_wrF (c1 A.length 0 0 _ (by omega) (Nat.zero_le _) (fr_F (by unfold arcH; omega)) po_usF_at (fun u hu => absurd hu (by simp [rn_b])))
end ARC
end
