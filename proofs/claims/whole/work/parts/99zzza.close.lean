/-! run, close, closure of the reference -/
/-- where a strand is after i letters -/
def psn (w : Nat → Nat) (s : Nat) : Nat → Nat
  | 0 => s
  | i + 1 => sw2 (w i) (w i + 1) (psn w s i)
theorem psn_inj {w : Nat → Nat} {s t : Nat} : ∀ i, psn w s i = psn w t i → s = t
  | 0, h => h
  | i + 1, h => by
    have e : sw2 (w i) (w i + 1) (psn w s i) = sw2 (w i) (w i + 1) (psn w t i) := h
    have := congrArg (sw2 (w i) (w i + 1)) e
    rw [sw2_inv, sw2_inv] at this
    exact psn_inj i this
theorem psn_lt {w : Nat → Nat} {s n : Nat} (hs : s < n) : ∀ i, (∀ j, j < i → w j + 1 < n) → psn w s i < n
  | 0, _ => hs
  | i + 1, h => sw2_lt (by have := h i (by omega); omega) (h i (by omega)) (psn_lt hs i (fun j hj => h j (by omega)))
theorem psn_sur {w : Nat → Nat} {n : Nat} : ∀ i p, p < n → (∀ j, j < i → w j + 1 < n) → ∃ s, s < n ∧ psn w s i = p
  | 0, p, hp, _ => ⟨p, hp, rfl⟩
  | i + 1, p, hp, h => by
    have hw := h i (by omega)
    obtain ⟨s, hs, e⟩ := psn_sur i (sw2 (w i) (w i + 1) p) (sw2_lt (by omega) hw hp) (fun j hj => h j (by omega))
    refine ⟨s, hs, ?_⟩
    show sw2 (w i) (w i + 1) (psn w s i) = p
    rw [e, sw2_inv]
/-- which visit of letter i a strand makes -/
def ubn (w : Nat → Nat) (lp : Nat → Bool) (s i : Nat) : Nat := if decide (psn w s i = w i) = lp i then 0 else 1
def onL (w : Nat → Nat) (s i : Nat) : Prop := psn w s i = w i ∨ psn w s i = w i + 1
theorem ubn_lt {w : Nat → Nat} {lp : Nat → Bool} {s i : Nat} : ubn w lp s i < 2 := by
  unfold ubn
  by_cases h : decide (psn w s i = w i) = lp i
  · rw [if_pos h]; omega
  · rw [if_neg h]; omega
theorem ubn_ne {w : Nat → Nat} {lp : Nat → Bool} {s t i : Nat} (hst : s ≠ t) (h1 : onL w s i) (h2 : onL w t i) : ubn w lp s i ≠ ubn w lp t i := by
  have hne : psn w s i ≠ psn w t i := fun e => hst (psn_inj i e)
  unfold ubn
  rcases h1 with h1 | h1 <;> rcases h2 with h2 | h2
  · exact absurd (h1.trans h2.symm) hne
  · rw [h1, h2, decide_eq_true rfl, decide_eq_false (by omega)]
    cases lp i <;> decide
  · rw [h1, h2, decide_eq_true rfl, decide_eq_false (by omega)]
    cases lp i <;> decide
  · exact absurd (h1.trans h2.symm) hne
/-- all visits of l letters -/
def aL (l : Nat) : rn_L := [(List.range l).flatMap (fun x => [(x, 0), (x, 1)])]
theorem aL_len (l : Nat) : (aL l).flatten.length = 2 * l := by
  have : ∀ c, ((List.range c).flatMap (fun x => [(x, 0), (x, 1)])).length = 2 * c := by
    intro c
    induction c with
    | zero => rfl
    | succ c ih => rw [List.range_succ, List.flatMap_append, List.length_append, ih]; simp; omega
  unfold aL
  have e : [(List.range l).flatMap (fun x => [(x, 0), (x, 1)])].flatten = (List.range l).flatMap (fun x => [(x, 0), (x, 1)]) := by simp
  rw [e]
  exact this l
theorem aL_at {l : Nat} : ∀ {i u : Nat}, i < l → u < 2 → vAt (aL l) (2 * i + u) = (i, u) := by
  intro i u hi hu
  have key : ∀ c, i < c → ((List.range c).flatMap (fun x => [(x, 0), (x, 1)]))[2 * i + u]? = some (i, u) := by
    intro c
    have hl : ∀ c, ((List.range c).flatMap (fun x => [(x, 0), (x, 1)])).length = 2 * c := by
      intro c
      induction c with
      | zero => rfl
      | succ c ih => rw [List.range_succ, List.flatMap_append, List.length_append, ih]; simp; omega
    induction c with
    | zero => intro h; omega
    | succ c ih =>
      intro h
      rw [List.range_succ, List.flatMap_append]
      by_cases hic : i < c
      · rw [List.getElem?_append_left (by rw [hl]; omega)]
        exact ih hic
      · have : i = c := by omega
        subst this
        rw [List.getElem?_append_right (by rw [hl]; omega), hl, Nat.add_sub_cancel_left]
        have : u = 0 ∨ u = 1 := by omega
        rcases this with e | e <;> subst e <;> simp
  refine vAt_eq ?_
  unfold aL
  have e : [(List.range l).flatMap (fun x => [(x, 0), (x, 1)])].flatten = (List.range l).flatMap (fun x => [(x, 0), (x, 1)]) := by simp
  rw [e]
  exact key l hi
theorem aL_ok (l : Nat) : okF (aL l).flatten l := by
  have hlen := aL_len l
  have inj : ∀ j, j < (aL l).flatten.length → vAt (aL l) j = (j / 2, j % 2) := fun j hj => by
    have := aL_at (l := l) (i := j / 2) (u := j % 2) (by omega) (by omega)
    rw [show 2 * (j / 2) + j % 2 = j by omega] at this
    exact this
  refine ⟨?_, fun p => ?_⟩
  · rw [List.nodup_iff_pairwise_ne, List.pairwise_iff_getElem]
    intro i j hi hj hij e
    have e1 := inj i hi
    have e2 := inj j hj
    rw [vAt_eq (List.getElem?_eq_getElem hi)] at e1
    rw [vAt_eq (List.getElem?_eq_getElem hj)] at e2
    rw [e1, e2] at e
    have a1 := (Prod.mk.inj e).1
    have a2 := (Prod.mk.inj e).2
    omega
  · constructor
    · intro hp
      obtain ⟨j, hj, e⟩ := List.getElem_of_mem hp
      have e1 := inj j hj
      rw [vAt_eq (List.getElem?_eq_getElem hj), e] at e1
      rw [e1]
      exact ⟨by show j / 2 < l; omega, by show j % 2 < 2; omega⟩
    · intro ⟨h1, h2⟩
      have := vAt_of (A := aL l) (v := 2 * p.1 + p.2) (by omega)
      rw [aL_at h1 h2] at this
      exact List.mem_of_getElem? this
section CLO
variable {X : (Nat → Nat → Int32) → Prop} {z : ow_MS}
/-- the letters of a braid -/
theorem br_let {b n l : Nat} (h : hBr z b n l) : ∃ (w : Nat → Nat) (lp : Nat → Bool), ∀ i, i < l → w i + 1 < n ∧ z.2.1 94 (16 * b + i) = if lp i then nI (w i + 1) else -1 - nI (w i) := by
  have hc : ∀ i, ∃ (a : Nat) (c : Bool), i < l → a + 1 < n ∧ z.2.1 94 (16 * b + i) = if c then nI (a + 1) else -1 - nI a := by
    intro i
    by_cases hi : i < l
    · obtain ⟨a, h1, h2⟩ := h.2.2.2.2.2 i hi
      rcases h2 with h2 | h2
      · exact ⟨a, true, fun _ => ⟨h1, h2⟩⟩
      · exact ⟨a, false, fun _ => ⟨h1, h2⟩⟩
    · exact ⟨0, true, fun h9 => absurd h9 hi⟩
  refine ⟨fun i => (hc i).choose, fun i => (hc i).choose_spec.choose, fun i hi => (hc i).choose_spec.choose_spec hi⟩
theorem neg_lt {a : Nat} (ha : a < 100) : (-1 - nI a : Int32) < 0 := by
  have := pk_sneg (a := 0) (b := a + 1) (by omega) (by omega)
  rw [nI_succ] at this
  have e : nI 0 - (nI a + 1) = -1 - nI a := i32_a (nI a)
  rw [e] at this
  exact this
theorem u_X13_run_1 {x1 : Int32} {x2 : Int32} {x3 : Int32} {x4 : Int32} {x5 : Int32} {x6 : Int32} {t0 : Int32} {t1 : Int32} {t2 : Int32} {z : ow_MS} {Q : (Int32 × ow_MS) → Prop} (H : Tt (fun K k => qm_X13_run_1 K (q_X13_run K k) x1 x2 x3 x4 x5 x6 t0 t1 t2 z) Q) : Tt (fun K k => q_X13_run K k 1 x1 x2 x3 x4 x5 x6 t0 t1 t2 z) Q := w_un (fun _ _ => rfl) H
theorem u_X13_run_7 {x1 : Int32} {x2 : Int32} {x3 : Int32} {x4 : Int32} {x5 : Int32} {x6 : Int32} {t0 : Int32} {t1 : Int32} {t2 : Int32} {z : ow_MS} {Q : (Int32 × ow_MS) → Prop} (H : Tt (fun K k => qm_X13_run_7 K (q_X13_run K k) x1 x2 x3 x4 x5 x6 t0 t1 t2 z) Q) : Tt (fun K k => q_X13_run K k 7 x1 x2 x3 x4 x5 x6 t0 t1 t2 z) Q := w_un (fun _ _ => rfl) H
theorem u_X13_run_6 {x1 : Int32} {x2 : Int32} {x3 : Int32} {x4 : Int32} {x5 : Int32} {x6 : Int32} {t0 : Int32} {t1 : Int32} {t2 : Int32} {z : ow_MS} {Q : (Int32 × ow_MS) → Prop} (H : Tt (fun K k => qm_X13_run_6 K (q_X13_run K k) x1 x2 x3 x4 x5 x6 t0 t1 t2 z) Q) : Tt (fun K k => q_X13_run K k 6 x1 x2 x3 x4 x5 x6 t0 t1 t2 z) Q := w_un (fun _ _ => rfl) H
theorem u_X13_run_5 {x1 : Int32} {x2 : Int32} {x3 : Int32} {x4 : Int32} {x5 : Int32} {x6 : Int32} {t0 : Int32} {t1 : Int32} {t2 : Int32} {z : ow_MS} {Q : (Int32 × ow_MS) → Prop} (H : Tt (fun K k => qm_X13_run_5 K (q_X13_run K k) x1 x2 x3 x4 x5 x6 t0 t1 t2 z) Q) : Tt (fun K k => q_X13_run K k 5 x1 x2 x3 x4 x5 x6 t0 t1 t2 z) Q := w_un (fun _ _ => rfl) H
theorem u_X13_run_4 {x1 : Int32} {x2 : Int32} {x3 : Int32} {x4 : Int32} {x5 : Int32} {x6 : Int32} {t0 : Int32} {t1 : Int32} {t2 : Int32} {z : ow_MS} {Q : (Int32 × ow_MS) → Prop} (H : Tt (fun K k => qm_X13_run_4 K (q_X13_run K k) x1 x2 x3 x4 x5 x6 t0 t1 t2 z) Q) : Tt (fun K k => q_X13_run K k 4 x1 x2 x3 x4 x5 x6 t0 t1 t2 z) Q := w_un (fun _ _ => rfl) H
theorem u_X13_run_3 {x1 : Int32} {x2 : Int32} {x3 : Int32} {x4 : Int32} {x5 : Int32} {x6 : Int32} {t0 : Int32} {t1 : Int32} {t2 : Int32} {z : ow_MS} {Q : (Int32 × ow_MS) → Prop} (H : Tt (fun K k => qm_X13_run_3 K (q_X13_run K k) x1 x2 x3 x4 x5 x6 t0 t1 t2 z) Q) : Tt (fun K k => q_X13_run K k 3 x1 x2 x3 x4 x5 x6 t0 t1 t2 z) Q := w_un (fun _ _ => rfl) H
theorem u_X13_run_2 {x1 : Int32} {x2 : Int32} {x3 : Int32} {x4 : Int32} {x5 : Int32} {x6 : Int32} {t0 : Int32} {t1 : Int32} {t2 : Int32} {z : ow_MS} {Q : (Int32 × ow_MS) → Prop} (H : Tt (fun K k => qm_X13_run_2 K (q_X13_run K k) x1 x2 x3 x4 x5 x6 t0 t1 t2 z) Q) : Tt (fun K k => q_X13_run K k 2 x1 x2 x3 x4 x5 x6 t0 t1 t2 z) Q := w_un (fun _ _ => rfl) H
theorem e_X13_run {x1 : Int32} {x2 : Int32} {z : ow_MS} {Q : (Int32 × ow_MS) → Prop} (H : Tt (fun K k => q_X13_run K k 0 x1 x2 0 0 0 0 0 0 0 z) Q) : Te (fun K => qe_X13_run K x1 x2 z) Q := w_te H
theorem u_X13_run_0 {x1 : Int32} {x2 : Int32} {x3 : Int32} {x4 : Int32} {x5 : Int32} {x6 : Int32} {t0 : Int32} {t1 : Int32} {t2 : Int32} {z : ow_MS} {Q : (Int32 × ow_MS) → Prop} (H : Tt (fun K k => qm_X13_run_0 K (q_X13_run K k) x1 x2 x3 x4 x5 x6 t0 t1 t2 z) Q) : Tt (fun K k => q_X13_run K k 0 x1 x2 x3 x4 x5 x6 t0 t1 t2 z) Q := w_un (fun _ _ => rfl) H
theorem tp_run {b n l s q : Nat} {w : Nat → Nat} {lp : Nat → Bool} {P : Nat → Prop} (hb : b < 20) (hB : hBr z b n l) (hw : ∀ i, i < l → w i + 1 < n ∧ z.2.1 94 (16 * b + i) = if lp i then nI (w i + 1) else -1 - nI (w i)) (hs : s < n) (hP : ∀ j, P j → j < 2 * l) (hno : ∀ i, i < l → onL w s i → ¬ P (2 * i + ubn w lp s i)) (hbm : bm z 3000 (aL l) P q) (hsg : ∀ j, P j → s1 (z.2.1 3006 (j / 2))) : Te (fun K => qe_X13_run K (nI b) (nI s) z) (fun r => r.1 = nI (psn w s l) ∧ fr (fun g => 3001 ≤ g ∧ g ≤ 3006) z r.2 ∧ bm r.2 3000 (aL l) (fun j => P j ∨ ∃ i, i < l ∧ onL w s i ∧ j = 2 * i + ubn w lp s i) q ∧ ∀ j, (P j ∨ ∃ i, i < l ∧ onL w s i ∧ j = 2 * i + ubn w lp s i) → s1 (r.2.2.1 3006 (j / 2))) := by
  obtain ⟨p1, p2, p3, p4, p5, p6⟩ := hB
  have hlen := aL_len l
  let Q : Int32 × ow_MS → Prop := fun r => r.1 = nI (psn w s l) ∧ fr (fun g => 3001 ≤ g ∧ g ≤ 3006) z r.2 ∧ bm r.2 3000 (aL l) (fun j => P j ∨ ∃ i, i < l ∧ onL w s i ∧ j = 2 * i + ubn w lp s i) q ∧ ∀ j, (P j ∨ ∃ i, i < l ∧ onL w s i ∧ j = 2 * i + ubn w lp s i) → s1 (r.2.2.1 3006 (j / 2))
  have key : ∀ (d k : Nat) (y : ow_MS), k + d = l → fr (fun g => 3001 ≤ g ∧ g ≤ 3006) z y → bm y 3000 (aL l) (fun j => P j ∨ ∃ i, i < k ∧ onL w s i ∧ j = 2 * i + ubn w lp s i) q → (∀ j, (P j ∨ ∃ i, i < k ∧ onL w s i ∧ j = 2 * i + ubn w lp s i) → s1 (y.2.1 3006 (j / 2))) → Tt (fun K i9 => q_X13_run K i9 1 (nI b) (nI s) (nI (psn w s k)) (nI k) 0 0 0 0 0 y) Q := by
    intro d
    induction d with
    | zero =>
      intro k y hk hf hbm hsg
      have hkl : k = l := by omega
      rw [hkl] at hbm hsg ⊢
      refine u_X13_run_1 ?_; unfold qm_X13_run_1
      exact w_rdI ml95 rfl (by omega) (x := nI l) (by rw [(hf 95 (by omega)).2.1]; exact p5) (w_leT (by omega) (Nat.le_refl _) (w_some ⟨rfl, hf, hbm, hsg⟩))
    | succ d ih =>
      intro k y hk hf hbm hsg
      have hkl : k < l := by omega
      obtain ⟨w1, w2⟩ := hw k hkl
      have hps := psn_lt (w := w) hs k (fun j hj => (hw j (by omega)).1)
      obtain ⟨x, hx⟩ : ∃ x, x = z.2.1 94 (16 * b + k) := ⟨_, rfl⟩
      have ex : y.2.1 94 (16 * b + k) = x := by rw [(hf 94 (by omega)).2.1, hx]
      rw [← hx] at w2
      have eab : (if 0 ≤ x then x else 0 - x) - 1 = nI (w k) := by
        cases hl : lp k with
        | true =>
          rw [hl] at w2
          have w2 : x = nI (w k + 1) := w2
          rw [w2, if_pos (nI_pos' (by omega))]
          exact nI_pred _
        | false =>
          rw [hl] at w2
          have w2 : x = -1 - nI (w k) := w2
          rw [w2, if_neg (Int32.not_le.mpr (neg_lt (by omega))), i32_b]
          have := nI_pred (w k)
          rw [nI_succ] at this
          exact this
      have xpos : x ≤ 0 ↔ lp k = false := by
        cases hl : lp k with
        | true =>
          rw [hl] at w2
          have w2 : x = nI (w k + 1) := w2
          rw [w2]
          exact ⟨fun h9 => absurd h9 (nI_nle (by omega) (by omega)), fun h9 => by cases h9⟩
        | false =>
          rw [hl] at w2
          have w2 : x = -1 - nI (w k) := w2
          rw [w2]
          exact ⟨fun _ => rfl, fun _ => Int32.le_of_lt (neg_lt (by omega))⟩
      have c7 : ∀ (x5 x6 : Int32) (y2 : ow_MS), fr (fun g => 3001 ≤ g ∧ g ≤ 3006) z y2 → bm y2 3000 (aL l) (fun j => P j ∨ ∃ i, i < k + 1 ∧ onL w s i ∧ j = 2 * i + ubn w lp s i) q → (∀ j, (P j ∨ ∃ i, i < k + 1 ∧ onL w s i ∧ j = 2 * i + ubn w lp s i) → s1 (y2.2.1 3006 (j / 2))) → Tt (fun K i9 => q_X13_run K i9 7 (nI b) (nI s) (nI (psn w s (k + 1))) (nI k) x5 x6 0 0 0 y2) Q := by
        intro x5 x6 y2 hf2 hb2 hs2
        refine u_X13_run_7 ?_; unfold qm_X13_run_7
        rw [nI_1]
        exact ih (k + 1) y2 (by omega) hf2 hb2 hs2
      -- the strand takes part in the letter
      have c2 : onL w s k → Tt (fun K i9 => q_X13_run K i9 2 (nI b) (nI s) (nI (psn w s k)) (nI k) x (nI (w k)) 0 0 0 y) Q := by
        intro hon
        have hub := ubn_lt (w := w) (lp := lp) (s := s) (i := k)
        have eqi : ∀ j, ((P j ∨ ∃ i, i < k ∧ onL w s i ∧ j = 2 * i + ubn w lp s i) ∨ j = 2 * k + ubn w lp s k) ↔ (P j ∨ ∃ i, i < k + 1 ∧ onL w s i ∧ j = 2 * i + ubn w lp s i) := by
          intro j
          constructor
          · rintro ((h9 | ⟨i, h1, h2, h3⟩) | h9)
            · exact Or.inl h9
            · exact Or.inr ⟨i, by omega, h2, h3⟩
            · exact Or.inr ⟨k, by omega, hon, h9⟩
          · rintro (h9 | ⟨i, h1, h2, h3⟩)
            · exact Or.inl (Or.inl h9)
            · by_cases hik : i = k
              · rw [hik] at h3
                exact Or.inr h3
              · exact Or.inl (Or.inr ⟨i, by omega, h2, h3⟩)
        have c6 : ∀ (t0 : Int32) (y2 : ow_MS), s1 t0 → fr (fun g => 3001 ≤ g ∧ g ≤ 3006) z y2 → y2.2.1 3006 = y.2.1 3006 → bm y2 3000 (aL l) (fun j => P j ∨ ∃ i, i < k + 1 ∧ onL w s i ∧ j = 2 * i + ubn w lp s i) q → Tt (fun K i9 => q_X13_run K i9 6 (nI b) (nI s) (nI (psn w s k)) (nI k) x (nI (w k)) t0 (nI k) 0 y2) Q := by
          intro t0 y2 ht0 hf2 e6 hb2
          refine u_X13_run_6 ?_; unfold qm_X13_run_6
          refine w_wrI (pl6 pn3) rfl (by omega) ?_
          have ep : 2 * nI (w k) + 1 - nI (psn w s k) = nI (psn w s (k + 1)) := by
            rw [rn_mul2, nI_1, pk_sub (by rcases hon with h9 | h9 <;> omega)]
            congr 1
            show _ = sw2 (w k) (w k + 1) (psn w s k)
            unfold sw2
            rcases hon with h9 | h9
            · rw [if_pos h9]; omega
            · rw [if_neg (by omega), if_pos h9]; omega
          rw [ep]
          refine c7 _ _ _ (fr_I2 hf2 (by omega)) (bm_fr (F := fun g => g = 3006) (fr_I rfl) (fun g hg => by omega) hb2) (fun j hj => ?_)
          show s1 ((usI y2 3006 k t0).2.1 3006 (j / 2))
          by_cases hjk : j / 2 = k
          · rw [hjk, po_usI_at]
            exact ht0
          · rw [po_usI_ne hjk, e6]
            refine hsg j (((eqi j).mpr hj).resolve_right (fun h9 => hjk (by omega)))
        have c5 : ∀ (t0 : Int32), t0 = nI (ubn w lp s k) → Tt (fun K i9 => q_X13_run K i9 5 (nI b) (nI s) (nI (psn w s k)) (nI k) x (nI (w k)) t0 (nI k) 0 y) Q := by
          intro t0 ht0
          have hv := aL_at (l := l) hkl hub
          refine u_X13_run_5 ?_; unfold qm_X13_run_5
          refine w_cs0 (bm_add (i := 2 * k + ubn w lp s k) pn3 (by omega) (fun j hj => ?_) (fun hj => ?_) (by unfold crs; rw [hv]) (by unfold uns; rw [hv]; exact ht0) hbm) (fun y2 ⟨g1, g2⟩ => ?_)
          · rcases hj with hj | ⟨i, h1, h2, h3⟩
            · have := hP j hj
              omega
            · have := ubn_lt (w := w) (lp := lp) (s := s) (i := i)
              omega
          · rcases hj with hj | ⟨i, h1, h2, h3⟩
            · exact hno k hkl hon hj
            · have := ubn_lt (w := w) (lp := lp) (s := s) (i := i)
              omega
          · have hf2 : fr (fun g => 3001 ≤ g ∧ g ≤ 3006) z y2 := fr_tr hf (fr_mono (fun g hg => by omega) g2)
            have e6 : y2.2.1 3006 = y.2.1 3006 := (g2 3006 (by omega)).2.1
            have hb2 := bm_eq g1 eqi
            exact w_if (fun _ => c6 _ y2 (Or.inr rfl) hf2 e6 hb2) (fun _ => c6 _ y2 (Or.inl rfl) hf2 e6 hb2)
        have c3 : ∀ (eqb : Bool), decide (psn w s k = w k) = eqb → Tt (fun K i9 => q_X13_run K i9 3 (nI b) (nI s) (nI (psn w s k)) (nI k) x (nI (w k)) (bZ eqb) (nI k) 0 y) Q := by
          intro eqb heq
          have eu : ubn w lp s k = if eqb = lp k then 0 else 1 := by
            unfold ubn
            rw [heq]
          have c4 : ∀ (pb : Bool), lp k = pb → Tt (fun K i9 => q_X13_run K i9 4 (nI b) (nI s) (nI (psn w s k)) (nI k) x (nI (w k)) (bZ pb) (bZ eqb) (nI k) y) Q := by
            intro pb hpb
            rw [hpb] at eu
            refine u_X13_run_4 ?_; unfold qm_X13_run_4
            refine w_if (fun h9 => c5 0 ?_) (fun h9 => c5 1 ?_)
            · have : eqb = pb := by
                cases eqb <;> cases pb <;> first | rfl | exact absurd h9 (by decide)
              rw [eu, if_pos this]
              rfl
            · have : eqb ≠ pb := fun e => h9 (by rw [e])
              rw [eu, if_neg this]
              rfl
          refine u_X13_run_3 ?_; unfold qm_X13_run_3
          refine w_if (fun h9 => c4 false (xpos.mp h9)) (fun h9 => c4 true ?_)
          cases hl : lp k with
          | true => rfl
          | false => exact absurd (xpos.mpr hl) h9
        refine u_X13_run_2 ?_; unfold qm_X13_run_2
        exact w_eqN (by omega) (by omega) (fun h9 => c3 true (decide_eq_true h9)) (fun h9 => c3 false (decide_eq_false h9))
      refine u_X13_run_1 ?_; unfold qm_X13_run_1
      rw [show (16 : Int32) * nI b = nI (16 * b) from pk_mul 16 b, nI_add]
      refine w_rdI ml95 rfl (by omega) (x := nI l) (by rw [(hf 95 (by omega)).2.1]; exact p5) (w_leF (by omega) (by omega) (w_rdI ml94 rfl (by omega) ex ?_))
      rw [eab, nI_1]
      refine w_eqN (by omega) (by omega) (fun h9 => c2 (Or.inl h9)) (fun h9 => w_eqN (by omega) (by omega) (fun h8 => c2 (Or.inr h8)) (fun h8 => ?_))
      have hnon : ¬ onL w s k := fun h7 => h7.elim h9 h8
      have ep : psn w s (k + 1) = psn w s k := by
        show sw2 (w k) (w k + 1) (psn w s k) = _
        unfold sw2
        rw [if_neg h9, if_neg h8]
      have eqi : ∀ j, (P j ∨ ∃ i, i < k ∧ onL w s i ∧ j = 2 * i + ubn w lp s i) ↔ (P j ∨ ∃ i, i < k + 1 ∧ onL w s i ∧ j = 2 * i + ubn w lp s i) := by
        intro j
        constructor
        · rintro (h7 | ⟨i, h1, h2, h3⟩)
          · exact Or.inl h7
          · exact Or.inr ⟨i, by omega, h2, h3⟩
        · rintro (h7 | ⟨i, h1, h2, h3⟩)
          · exact Or.inl h7
          · by_cases hik : i = k
            · rw [hik] at h2
              exact absurd h2 hnon
            · exact Or.inr ⟨i, by omega, h2, h3⟩
      have := c7 x (nI (w k)) y hf (bm_eq hbm eqi) (fun j hj => hsg j ((eqi j).mpr hj))
      rw [ep] at this
      exact this
  refine e_X13_run ?_
  refine u_X13_run_0 ?_; unfold qm_X13_run_0
  refine key l 0 z (by omega) fr_rf (bm_eq hbm (fun j => ⟨Or.inl, fun h9 => h9.elim id (fun ⟨i, h8, _⟩ => by omega)⟩)) (fun j hj => hj.elim (hsg j) (fun ⟨i, h8, _⟩ => by omega))
end CLO
