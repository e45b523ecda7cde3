/-! signature, the class: faces are painted, exactly -/
/-- how many of the first m sides of the part have no colour yet -/
def ucC9 (z : ow_MS) (φ : Nat → Nat) (q : Nat → Bool) (m : Nat) : Nat := nF (fun s => q (s / 2) && decide (z.2.1 6003 (φ s) = -1)) m
section XSGT
variable {vl : Nat → Nat} {y : ow_MS} {c n : Nat} {φ : Nat → Nat} {q : Nat → Bool} {x2 : Int32}
theorem nF_le2 {p r : Nat → Bool} : ∀ m, (∀ s, s < m → p s = true → r s = true) → nF p m ≤ nF r m := by
  intro m
  induction m with
  | zero => exact fun _ => Nat.le_refl _
  | succ m ih =>
    intro h
    have a := ih (fun s hs => h s (by omega))
    have b := h m (by omega)
    show nF p m + _ ≤ nF r m + _
    by_cases hp : p m = true
    · rw [if_pos hp, if_pos (b hp)]
      omega
    · rw [if_neg hp]
      omega
theorem nF_lt2 {p r : Nat → Bool} {a : Nat} : ∀ m, (∀ s, s < m → p s = true → r s = true) → a < m → p a = false → r a = true → nF p m < nF r m := by
  intro m
  induction m with
  | zero => exact fun _ h => absurd h (Nat.not_lt_zero _)
  | succ m ih =>
    intro h ha hp hr
    show nF p m + _ < nF r m + _
    by_cases h9 : a = m
    · subst h9
      have b := nF_le2 a (fun s hs => h s (by omega))
      rw [if_neg (by rw [hp]; decide), if_pos hr]
      omega
    · have b := ih (fun s hs => h s (by omega)) (by omega) hp hr
      have d := h m (by omega)
      by_cases hpm : p m = true
      · rw [if_pos hpm, if_pos (d hpm)]
        omega
      · rw [if_neg hpm]
        omega
/-- what stands while faces are painted: fc f is the colour that f must get -/
def pnI9 (y z : ow_MS) (c n : Nat) (φ : Nat → Nat) (q : Nat → Bool) (fc : Nat → Int32) : Prop := fr (fun g => g = 6003) y z ∧ (∀ f, (∀ s, s < 4 * c → q (s / 2) = true → φ s ≠ f) → z.2.1 6003 f = y.2.1 6003 f) ∧ ∀ s, s < 4 * c → q (s / 2) = true → z.2.1 6003 (φ s) = -1 ∨ z.2.1 6003 (φ s) = fc (φ s)
theorem pn_w {z : ow_MS} {fc : Nat → Int32} {s : Nat} (hs : s < 4 * c) (hq : q (s / 2) = true) (h : pnI9 y z c n φ q fc) (hm : z.2.1 6003 (φ s) = -1) (hfc : fc (φ s) ≠ -1) : pnI9 y (usI z 6003 (φ s) (fc (φ s))) c n φ q fc ∧ ucC9 (usI z 6003 (φ s) (fc (φ s))) φ q (4 * c) < ucC9 z φ q (4 * c) := by
  refine ⟨⟨fr_I2 h.1 rfl, fun f hf => ?_, fun t ht htq => ?_⟩, ?_⟩
  · rw [po_usI_ne (fun h9 => hf s hs hq h9.symm)]
    exact h.2.1 f hf
  · by_cases h9 : φ t = φ s
    · rw [h9]
      exact Or.inr po_usI_at
    · rw [po_usI_ne h9]
      exact h.2.2 t ht htq
  · refine nF_lt2 (a := s) (4 * c) (fun t _ ht => ?_) hs ?_ ?_
    · rw [Bool.and_eq_true_iff] at ht ⊢
      refine ⟨ht.1, ?_⟩
      have a := of_decide_eq_true ht.2
      by_cases h9 : φ t = φ s
      · rw [h9, po_usI_at] at a
        exact absurd a hfc
      · rw [po_usI_ne h9] at a
        exact decide_eq_true a
    · rw [hq, po_usI_at, decide_eq_false hfc]
      rfl
    · rw [hq, hm, decide_eq_true rfl]
      rfl
theorem te_paint {S : ow_NP} {G : Nat → Int32} {fc : Nat → Int32} {v0 : Nat} (hv : vn c S) (hq : ptQ9 c S q) (h8 : y.1 4008 = nI c) (hc : c ≤ 12) (hn : n ≤ 48) (hφ : ∀ s, s < 4 * c → y.2.1 6001 s = nI (φ s) ∧ φ s < n) (ho : ∀ s, s < 4 * c → φ (fc_on S G s) = φ s) (hqM : ∀ v, v < 2 * c → (y.2.1 4006 v = x2 ↔ q v = true)) (hfc : ∀ f, fc f = 0 ∨ fc f = 1) (hlr : ∀ v, v < 2 * c → q v = true → fc (φ (2 * v)) = 1 - fc (φ (2 * v + 1))) (hv0 : v0 < 2 * c) (hq0 : q v0 = true) (hf0 : ∀ u, u < v0 → q u = false) (hc0 : fc (φ (2 * v0)) = 0) (hin : ∀ s, s < 4 * c → q (s / 2) = true → y.2.1 6003 (φ s) = -1) : Te (fun K => ce_X4_paint vl K 6000 4000 x2 y) (fun y1 => fr (fun g => g = 6003) y y1 ∧ (∀ f, (∀ s, s < 4 * c → q (s / 2) = true → φ s ≠ f) → y1.2.1 6003 f = y.2.1 6003 f) ∧ ∀ s, s < 4 * c → q (s / 2) = true → y1.2.1 6003 (φ s) = fc (φ s)) := by
  let Q : ow_MS → Prop := fun y1 => fr (fun g => g = 6003) y y1 ∧ (∀ f, (∀ s, s < 4 * c → q (s / 2) = true → φ s ≠ f) → y1.2.1 6003 f = y.2.1 6003 f) ∧ ∀ s, s < 4 * c → q (s / 2) = true → y1.2.1 6003 (φ s) = fc (φ s)
  have fcn : ∀ f, fc f ≠ -1 := fun f h => by
    rcases hfc f with h9 | h9 <;> rw [h9] at h <;> exact absurd h (by decide)
  have one : ∀ v, v < 2 * c → q v = true → fc (φ (2 * v + 1)) = 1 - fc (φ (2 * v)) := fun v hv1 hvq => by
    have a := hlr v hv1 hvq
    rcases hfc (φ (2 * v + 1)) with h9 | h9 <;> rw [h9] at a ⊢ <;> rw [a] <;> rfl
  -- painted through
  have done : ∀ z, pnI9 y z c n φ q fc → z.2.1 6003 (φ (2 * v0)) ≠ -1 → (∀ v, v < 2 * c → q v = true → (z.2.1 6003 (φ (2 * v)) ≠ -1 ↔ z.2.1 6003 (φ (2 * v + 1)) ≠ -1)) → Q z := by
    intro z hz h0 hst
    have all := paint_all (G := G) hv hq ho (K := fun f => z.2.1 6003 f ≠ -1) hst hv0 hq0 h0
    refine ⟨hz.1, hz.2.1, fun s hs hsq => ?_⟩
    have a := all (s / 2) (by omega) hsq
    have b := hz.2.2 s hs hsq
    by_cases h2 : s % 2 = 0
    · rw [show 2 * (s / 2) = s by omega] at a
      exact b.resolve_left a.1
    · rw [show 2 * (s / 2) + 1 = s by omega] at a
      exact b.resolve_left a.2
  -- one pass: changed, or the same as before and even so far
  have pass : ∀ (x5 : Int32) (z0 : ow_MS), (∀ (x4 : Int32) (z : ow_MS), pnI9 y z c n φ q fc → z.2.1 6003 (φ (2 * v0)) ≠ -1 → (x4 = 1 ∧ ucC9 z φ q (4 * c) < ucC9 z0 φ q (4 * c) ∨ x4 = 0 ∧ ∀ v, v < 2 * c → q v = true → (z.2.1 6003 (φ (2 * v)) ≠ -1 ↔ z.2.1 6003 (φ (2 * v + 1)) ≠ -1)) → Tt (fun K k => c_X4_paint vl K k 1 x2 1 x4 (x5 + 1) 0 0 0 6000 4000 z) Q) → ∀ (d v : Nat) (x3 x4 : Int32) (z : ow_MS), v + d = 2 * c → pnI9 y z c n φ q fc → (x3 = 1 ∧ z.2.1 6003 (φ (2 * v0)) ≠ -1 ∨ x3 = 0 ∧ v ≤ v0 ∧ x4 = 0 ∧ z = y) → (x4 = 1 ∧ ucC9 z φ q (4 * c) < ucC9 z0 φ q (4 * c) ∨ x4 = 0 ∧ ucC9 z φ q (4 * c) ≤ ucC9 z0 φ q (4 * c) ∧ ∀ u, u < v → q u = true → (z.2.1 6003 (φ (2 * u)) ≠ -1 ↔ z.2.1 6003 (φ (2 * u + 1)) ≠ -1)) → Tt (fun K k => c_X4_paint vl K k 2 x2 x3 x4 x5 (nI v) 0 0 6000 4000 z) Q := by
    intro x5 z0 hnext d
    induction d with
    | zero =>
      intro v x3 x4 z hvd hz h3 h4
      rcases h3 with ⟨h3, h5⟩ | ⟨h3, h5, h6, h7⟩
      · rw [h3]
        refine u_X4_paint_2 ?_; unfold cm_X4_paint_2
        refine w_rdF ((hz.1 4008 (by omega)).1.trans h8) ?_
        rw [rn_mul2]
        refine w_leT (by omega) (by omega) (hnext x4 z hz h5 ?_)
        rcases h4 with h4 | ⟨h4, h7, h9⟩
        · exact Or.inl h4
        · exact Or.inr ⟨h4, fun u hu => h9 u (by omega)⟩
      · omega
    | succ d ih =>
      intro v x3 x4 z hvd hz h3 h4
      obtain ⟨a1, a2⟩ := hφ (2 * v) (by omega)
      obtain ⟨b1, b2⟩ := hφ (2 * v + 1) (by omega)
      have c5 : ∀ (x3 x4 : Int32) (z : ow_MS), pnI9 y z c n φ q fc → (x3 = 1 ∧ z.2.1 6003 (φ (2 * v0)) ≠ -1 ∨ x3 = 0 ∧ v + 1 ≤ v0 ∧ x4 = 0 ∧ z = y) → (x4 = 1 ∧ ucC9 z φ q (4 * c) < ucC9 z0 φ q (4 * c) ∨ x4 = 0 ∧ ucC9 z φ q (4 * c) ≤ ucC9 z0 φ q (4 * c) ∧ ∀ u, u < v + 1 → q u = true → (z.2.1 6003 (φ (2 * u)) ≠ -1 ↔ z.2.1 6003 (φ (2 * u + 1)) ≠ -1)) → Tt (fun K k => c_X4_paint vl K k 5 x2 x3 x4 x5 (nI v) 0 0 6000 4000 z) Q := by
        intro x3 x4 z hz h3 h4
        refine u_X4_paint_5 ?_; unfold cm_X4_paint_5
        rw [nI_1]
        exact ih (v + 1) x3 x4 z (by omega) hz h3 h4
      have qs1 : q v = true → q (2 * v / 2) = true := fun h => by rw [show 2 * v / 2 = v by omega]; exact h
      have qs2 : q v = true → q ((2 * v + 1) / 2) = true := fun h => by rw [show (2 * v + 1) / 2 = v by omega]; exact h
      -- both sides of the gap are looked at
      have c3 : ∀ (x4 : Int32) (z : ow_MS), q v = true → pnI9 y z c n φ q fc → z.2.1 6003 (φ (2 * v0)) ≠ -1 → (x4 = 1 ∧ ucC9 z φ q (4 * c) < ucC9 z0 φ q (4 * c) ∨ x4 = 0 ∧ ucC9 z φ q (4 * c) ≤ ucC9 z0 φ q (4 * c) ∧ ∀ u, u < v → q u = true → (z.2.1 6003 (φ (2 * u)) ≠ -1 ↔ z.2.1 6003 (φ (2 * u + 1)) ≠ -1)) → Tt (fun K k => c_X4_paint vl K k 3 x2 1 x4 x5 (nI v) (nI (φ (2 * v))) (nI (φ (2 * v + 1))) 6000 4000 z) Q := by
        intro x4 z hvq hz h0 h4
        have ule : ucC9 z φ q (4 * c) ≤ ucC9 z0 φ q (4 * c) := by
          rcases h4 with h4 | h4
          · omega
          · exact h4.2.1
        have even : (z.2.1 6003 (φ (2 * v)) ≠ -1 ↔ z.2.1 6003 (φ (2 * v + 1)) ≠ -1) → x4 = 1 ∧ ucC9 z φ q (4 * c) < ucC9 z0 φ q (4 * c) ∨ x4 = 0 ∧ ucC9 z φ q (4 * c) ≤ ucC9 z0 φ q (4 * c) ∧ ∀ u, u < v + 1 → q u = true → (z.2.1 6003 (φ (2 * u)) ≠ -1 ↔ z.2.1 6003 (φ (2 * u + 1)) ≠ -1) := fun he => by
          rcases h4 with h4 | ⟨h4, h5, h6⟩
          · exact Or.inl h4
          · refine Or.inr ⟨h4, h5, fun u hu huq => ?_⟩
            by_cases h9 : u = v
            · rw [h9]
              exact he
            · exact h6 u (by omega) huq
        have c4 : ¬ (z.2.1 6003 (φ (2 * v)) ≠ -1 ∧ z.2.1 6003 (φ (2 * v + 1)) = -1) → Tt (fun K k => c_X4_paint vl K k 4 x2 1 x4 x5 (nI v) (nI (φ (2 * v))) (nI (φ (2 * v + 1))) 6000 4000 z) Q := by
          intro hno
          refine u_X4_paint_4 ?_; unfold cm_X4_paint_4
          refine w_crI cg_6003 rfl (by omega) rfl (w_if (fun e1 => w_crI cg_6003 rfl (by omega) rfl (w_if (fun e2 => ?_) (fun e2 => ?_))) (fun e1 => ?_))
          · exact c5 _ _ z hz (Or.inl ⟨rfl, h0⟩) (even ⟨fun h => absurd e1 h, fun h => absurd e2 h⟩)
          · have hr := (hz.2.2 (2 * v + 1) (by omega) (qs2 hvq)).resolve_left e2
            obtain ⟨k1, k2⟩ := pn_w (n := n) (show 2 * v < 4 * c by omega) (qs1 hvq) hz e1 (fcn _)
            have e3 : 1 - fc (φ (2 * v + 1)) = fc (φ (2 * v)) := (hlr v (by omega) hvq).symm
            refine w_crI cg_6003 rfl (by omega) hr (w_ctI cg_6003 rfl (by omega) ?_)
            rw [e3]
            refine c5 1 1 _ k1 (Or.inl ⟨rfl, ?_⟩) (Or.inl ⟨rfl, Nat.lt_of_lt_of_le k2 ule⟩)
            by_cases h9 : φ (2 * v0) = φ (2 * v)
            · rw [h9]
              show (usI z 6003 (φ (2 * v)) (fc (φ (2 * v)))).2.1 6003 (φ (2 * v)) ≠ -1
              rw [po_usI_at]
              exact fcn _
            · show (usI z 6003 (φ (2 * v)) (fc (φ (2 * v)))).2.1 6003 (φ (2 * v0)) ≠ -1
              rw [po_usI_ne h9]
              exact h0
          · exact c5 _ _ z hz (Or.inl ⟨rfl, h0⟩) (even ⟨fun _ h => hno ⟨e1, h⟩, fun _ => e1⟩)
        refine u_X4_paint_3 ?_; unfold cm_X4_paint_3
        refine w_crI cg_6003 rfl (by omega) rfl (w_if (fun e1 => c4 (fun h => h.1 e1)) (fun e1 => w_crI cg_6003 rfl (by omega) rfl (w_if (fun e2 => ?_) (fun e2 => c4 (fun h => e2 h.2)))))
        have hl := (hz.2.2 (2 * v) (by omega) (qs1 hvq)).resolve_left e1
        obtain ⟨k1, k2⟩ := pn_w (n := n) (show 2 * v + 1 < 4 * c by omega) (qs2 hvq) hz e2 (fcn _)
        have e3 : 1 - fc (φ (2 * v)) = fc (φ (2 * v + 1)) := (one v (by omega) hvq).symm
        refine w_crI cg_6003 rfl (by omega) hl (w_ctI cg_6003 rfl (by omega) ?_)
        rw [e3]
        refine c5 1 1 _ k1 (Or.inl ⟨rfl, ?_⟩) (Or.inl ⟨rfl, Nat.lt_of_lt_of_le k2 ule⟩)
        by_cases h9 : φ (2 * v0) = φ (2 * v + 1)
        · rw [h9]
          show (usI z 6003 (φ (2 * v + 1)) (fc (φ (2 * v + 1)))).2.1 6003 (φ (2 * v + 1)) ≠ -1
          rw [po_usI_at]
          exact fcn _
        · show (usI z 6003 (φ (2 * v + 1)) (fc (φ (2 * v + 1)))).2.1 6003 (φ (2 * v0)) ≠ -1
          rw [po_usI_ne h9]
          exact h0
      have r6 : z.2.1 4006 v = y.2.1 4006 v := by rw [(hz.1 4006 (by omega)).2.1]
      have r1 : z.2.1 6001 (2 * v) = nI (φ (2 * v)) := by rw [(hz.1 6001 (by omega)).2.1]; exact a1
      have r2 : z.2.1 6001 (2 * v + 1) = nI (φ (2 * v + 1)) := by rw [(hz.1 6001 (by omega)).2.1]; exact b1
      refine u_X4_paint_2 ?_; unfold cm_X4_paint_2
      refine w_rdF ((hz.1 4008 (by omega)).1.trans h8) ?_
      rw [rn_mul2, rn_mul2, nI_1]
      refine w_leF (by omega) (by omega) (w_crI cg_4006 rfl (by omega) r6 (w_if (fun hp => w_crI cg_6001 rfl (by omega) r1 (w_crI cg_6001 rfl (by omega) r2 ?_)) (fun hp => ?_)))
      · have hvq := (hqM v (by omega)).mp hp
        rcases h3 with ⟨h3, h5⟩ | ⟨h3, h5, h6, h7⟩
        · rw [h3]
          exact w_ifF (by decide) (c3 x4 z hvq hz h5 h4)
        · rw [h3]
          have hvv : v = v0 := by
            by_cases h9 : v = v0
            · exact h9
            · rw [hf0 v (by omega)] at hvq
              exact absurd hvq (by decide)
          subst hvv
          refine w_ifT rfl (w_ctI cg_6003 rfl (by omega) ?_)
          have hm : z.2.1 6003 (φ (2 * v)) = -1 := by
            rw [h7]
            exact hin (2 * v) (by omega) (qs1 hvq)
          have e0 : usI z (6000 + 3) (φ (2 * v)) 0 = usI z 6003 (φ (2 * v)) (fc (φ (2 * v))) := by rw [hc0]
          rw [e0]
          have k0 : (usI z 6003 (φ (2 * v)) (fc (φ (2 * v)))).2.1 6003 (φ (2 * v)) ≠ -1 := by
            rw [po_usI_at]
            exact fcn _
          obtain ⟨k1, k2⟩ := pn_w (n := n) (show 2 * v < 4 * c by omega) (qs1 hvq) hz hm (fcn _)
          refine c3 x4 _ hvq k1 k0 (Or.inr ⟨h6, ?_, fun u hu huq => ?_⟩)
          · rcases h4 with h4 | h4
            · omega
            · omega
          · rw [hf0 u hu] at huq
            exact absurd huq (by decide)
      · refine c5 x3 x4 z hz ?_ ?_
        · rcases h3 with h3 | ⟨h3, h5, h6, h7⟩
          · exact Or.inl h3
          · refine Or.inr ⟨h3, ?_, h6, h7⟩
            by_cases h9 : v = v0
            · rw [h9] at hp
              exact absurd ((hqM v0 hv0).mpr hq0) hp
            · omega
        · rcases h4 with h4 | ⟨h4, h5, h6⟩
          · exact Or.inl h4
          · refine Or.inr ⟨h4, h5, fun u hu huq => ?_⟩
            by_cases h9 : u = v
            · rw [h9] at huq
              exact absurd ((hqM v (by omega)).mpr huq) hp
            · exact h6 u (by omega) huq
  have c1 : ∀ (d i : Nat) (x4 : Int32) (z : ow_MS), i + d = 48 → pnI9 y z c n φ q fc → z.2.1 6003 (φ (2 * v0)) ≠ -1 → (x4 = 1 ∧ ucC9 z φ q (4 * c) + i ≤ 48 ∨ x4 = 0 ∧ ∀ v, v < 2 * c → q v = true → (z.2.1 6003 (φ (2 * v)) ≠ -1 ↔ z.2.1 6003 (φ (2 * v + 1)) ≠ -1)) → Tt (fun K k => c_X4_paint vl K k 1 x2 1 x4 (nI i) 0 0 0 6000 4000 z) Q := by
    intro d
    induction d with
    | zero =>
      intro i x4 z hi hz h0 h4
      refine u_X4_paint_1 ?_; unfold cm_X4_paint_1
      refine w_leT (a := 48) (b := i) (by omega) (by omega) (w_some ?_)
      rcases h4 with ⟨h4, h5⟩ | ⟨h4, h5⟩
      · refine done z hz h0 (fun v hv1 hvq => ?_)
        have z0 : ∀ s, s < 4 * c → q (s / 2) = true → z.2.1 6003 (φ s) ≠ -1 := fun s hs hsq h9 => by
          have := nF_pos (q := fun s => q (s / 2) && decide (z.2.1 6003 (φ s) = -1)) (a := s) (by rw [hsq, h9, decide_eq_true rfl]; rfl) (4 * c) hs
          have u9 : ucC9 z φ q (4 * c) = nF (fun s => q (s / 2) && decide (z.2.1 6003 (φ s) = -1)) (4 * c) := rfl
          omega
        exact ⟨fun _ => z0 (2 * v + 1) (by omega) (by rw [show (2 * v + 1) / 2 = v by omega]; exact hvq), fun _ => z0 (2 * v) (by omega) (by rw [show 2 * v / 2 = v by omega]; exact hvq)⟩
      · exact done z hz h0 h5
    | succ d ih =>
      intro i x4 z hi hz h0 h4
      refine u_X4_paint_1 ?_; unfold cm_X4_paint_1
      refine w_leF (a := 48) (b := i) (by omega) (by omega) (w_if (fun h9 => w_some ?_) (fun h9 => ?_))
      · rcases h4 with ⟨h4, h5⟩ | ⟨h4, h5⟩
        · rw [h4] at h9
          exact absurd h9 (by decide)
        · exact done z hz h0 h5
      · rcases h4 with ⟨h4, h5⟩ | ⟨h4, h5⟩
        · refine pass (nI i) z (fun x4 z1 h1 h2 h3 => ?_) (2 * c) 0 1 0 z (by omega) hz (Or.inl ⟨rfl, h0⟩) (Or.inr ⟨rfl, Nat.le_refl _, fun u hu => absurd hu (Nat.not_lt_zero _)⟩)
          rw [nI_1]
          refine ih (i + 1) x4 z1 (by omega) h1 h2 ?_
          rcases h3 with ⟨h3, h6⟩ | h3
          · exact Or.inl ⟨h3, by omega⟩
          · exact Or.inr h3
        · exact absurd h4 h9
  have hz0 : pnI9 y y c n φ q fc := ⟨fr_rf, fun f _ => rfl, fun s hs hsq => Or.inl (hin s hs hsq)⟩
  have u0 : ucC9 y φ q (4 * c) ≤ 48 := Nat.le_trans (nF_le _ _) (by omega)
  refine e_X4_paint ?_
  refine u_X4_paint_0 ?_; unfold cm_X4_paint_0
  refine u_X4_paint_1 ?_; unfold cm_X4_paint_1
  refine w_leF (a := 48) (b := 0) (by omega) (by omega) (w_ifF (by decide) ?_)
  refine pass 0 y (fun x4 z1 h1 h2 h3 => ?_) (2 * c) 0 0 0 y (by omega) hz0 (Or.inr ⟨rfl, Nat.zero_le _, rfl, rfl⟩) (Or.inr ⟨rfl, Nat.le_refl _, fun u hu => absurd hu (Nat.not_lt_zero _)⟩)
  refine c1 47 1 x4 z1 (by omega) h1 h2 ?_
  rcases h3 with ⟨h3, h6⟩ | h3
  · exact Or.inl ⟨h3, by omega⟩
  · exact Or.inr h3
end XSGT
