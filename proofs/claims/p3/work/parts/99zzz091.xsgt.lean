section
/-! 99zzzzzzzzzzzzzzzzyzzzc.xsgt -/
/-! signature, the class: faces are painted, exactly -/
/-- how many of the first m sides of the part have no colour yet -/
def ucC9 (z : ow_MS) (φ : Nat → Nat) (q : Nat → Bool) (m : Nat) : Nat := nF (fun s => q (s / 2) && decide (z.2.1 6003 (φ s) = -1)) m
section XSGT
variable {vl : Nat → Nat} {y : ow_MS} {c n : Nat} {φ : Nat → Nat} {q : Nat → Bool} {x2 : Int32}
theorem nF_le2 {p r : Nat → Bool} : ∀ m, (∀ s, s < m → p s = true → r s = true) → nF p m ≤ nF r m := by
  intro m
  induction m with
  | zero => exact fun _ => Nat.le_refl _
  | succ m ih =>
    intro h
    have a := ih (fun s hs => h s (by omega))
    have b := h m (by omega)
    show nF p m + _ ≤ nF r m + _
    by_cases hp : p m = true
    · rw [if_pos hp, if_pos (b hp)]
      omega
    · rw [if_neg hp]
      omega
theorem nF_lt2 {p r : Nat → Bool} {a : Nat} : ∀ m, (∀ s, s < m → p s = true → r s = true) → a < m → p a = false → r a = true → nF p m < nF r m := by
  intro m
  induction m with
  | zero => exact fun _ h => absurd h (Nat.not_lt_zero _)
  | succ m ih =>
    intro h ha hp hr
    show nF p m + _ < nF r m + _
    by_cases h9 : a = m
    · subst h9
      have b := nF_le2 a (fun s hs => h s (by omega))
      rw [if_neg (by rw [hp]; decide), if_pos hr]
      omega
    · have b := ih (fun s hs => h s (by omega)) (by omega) hp hr
      have d := h m (by omega)
      by_cases hpm : p m = true
      · rw [if_pos hpm, if_pos (d hpm)]
        omega
      · rw [if_neg hpm]
        omega
/-- what stands while faces are painted: fc f is the colour that f must get -/
def pnI9 (y z : ow_MS) (c n : Nat) (φ : Nat → Nat) (q : Nat → Bool) (fc : Nat → Int32) : Prop := fr (fun g => g = 6003) y z ∧ (∀ f, (∀ s, s < 4 * c → q (s / 2) = true → φ s ≠ f) → z.2.1 6003 f = y.2.1 6003 f) ∧ ∀ s, s < 4 * c → q (s / 2) = true → z.2.1 6003 (φ s) = -1 ∨ z.2.1 6003 (φ s) = fc (φ s)
theorem pn_w {z : ow_MS} {fc : Nat → Int32} {s : Nat} (hs : s < 4 * c) (hq : q (s / 2) = true) (h : pnI9 y z c n φ q fc) (hm : z.2.1 6003 (φ s) = -1) (hfc : fc (φ s) ≠ -1) : pnI9 y (usI z 6003 (φ s) (fc (φ s))) c n φ q fc ∧ ucC9 (usI z 6003 (φ s) (fc (φ s))) φ q (4 * c) < ucC9 z φ q (4 * c) := by
  refine ⟨⟨fr_I2 h.1 rfl, fun f hf => ?_, fun t ht htq => ?_⟩, ?_⟩
  · rw [po_usI_ne (fun h9 => hf s hs hq h9.symm)]
    exact h.2.1 f hf
  · by_cases h9 : φ t = φ s
    · rw [h9]
      exact Or.inr po_usI_at
    · rw [po_usI_ne h9]
      exact h.2.2 t ht htq
  · refine nF_lt2 (a := s) (4 * c) (fun t _ ht => ?_) hs ?_ ?_
    · rw [Bool.and_eq_true_iff] at ht ⊢
      refine ⟨ht.1, ?_⟩
      have a := of_decide_eq_true ht.2
      by_cases h9 : φ t = φ s
      · rw [h9, po_usI_at] at a
        exact absurd a hfc
      · rw [po_usI_ne h9] at a
        exact decide_eq_true a
    · rw [hq, po_usI_at, decide_eq_false hfc]
      rfl
    · rw [hq, hm, decide_eq_true rfl]
      rfl
theorem te_paint {S : ow_NP} {G : Nat → Int32} {fc : Nat → Int32} {v0 : Nat} (hv : vn c S) (hq : ptQ9 c S q) (h8 : y.1 4008 = nI c) (hc : c ≤ 12) (hn : n ≤ 48) (hφ : ∀ s, s < 4 * c → y.2.1 6001 s = nI (φ s) ∧ φ s < n) (ho : ∀ s, s < 4 * c → φ (fc_on S G s) = φ s) (hqM : ∀ v, v < 2 * c → (y.2.1 4006 v = x2 ↔ q v = true)) (hfc : ∀ f, fc f = 0 ∨ fc f = 1) (hlr : ∀ v, v < 2 * c → q v = true → fc (φ (2 * v)) = 1 - fc (φ (2 * v + 1))) (hv0 : v0 < 2 * c) (hq0 : q v0 = true) (hf0 : ∀ u, u < v0 → q u = false) (hc0 : fc (φ (2 * v0)) = 0) (hin : ∀ s, s < 4 * c → q (s / 2) = true → y.2.1 6003 (φ s) = -1) : Te (fun K => ce_X4_paint vl K 6000 4000 x2 y) (fun y1 => fr (fun g => g = 6003) y y1 ∧ (∀ f, (∀ s, s < 4 * c → q (s / 2) = true → φ s ≠ f) → y1.2.1 6003 f = y.2.1 6003 f) ∧ ∀ s, s < 4 * c → q (s / 2) = true → y1.2.1 6003 (φ s) = fc (φ s)) := by
  let Q : ow_MS → Prop := fun y1 => fr (fun g => g = 6003) y y1 ∧ (∀ f, (∀ s, s < 4 * c → q (s / 2) = true → φ s ≠ f) → y1.2.1 6003 f = y.2.1 6003 f) ∧ ∀ s, s < 4 * c → q (s / 2) = true → y1.2.1 6003 (φ s) = fc (φ s)
  have fcn : ∀ f, fc f ≠ -1 := fun f h => by
    rcases hfc f with h9 | h9 <;> rw [h9] at h <;> exact absurd h (by decide)
  have one : ∀ v, v < 2 * c → q v = true → fc (φ (2 * v + 1)) = 1 - fc (φ (2 * v)) := fun v hv1 hvq => by
    have a := hlr v hv1 hvq
    rcases hfc (φ (2 * v + 1)) with h9 | h9 <;> rw [h9] at a ⊢ <;> rw [a] <;> rfl
  -- painted through
  have done : ∀ z, pnI9 y z c n φ q fc → z.2.1 6003 (φ (2 * v0)) ≠ -1 → (∀ v, v < 2 * c → q v = true → (z.2.1 6003 (φ (2 * v)) ≠ -1 ↔ z.2.1 6003 (φ (2 * v + 1)) ≠ -1)) → Q z := by
    intro z hz h0 hst
    have all := paint_all (G := G) hv hq ho (K := fun f => z.2.1 6003 f ≠ -1) hst hv0 hq0 h0
    refine ⟨hz.1, hz.2.1, fun s hs hsq => ?_⟩
    have a := all (s / 2) (by omega) hsq
    have b := hz.2.2 s hs hsq
    by_cases h2 : s % 2 = 0
    · rw [show 2 * (s / 2) = s by omega] at a
      exact b.resolve_left a.1
    · rw [show 2 * (s / 2) + 1 = s by omega] at a
      exact b.resolve_left a.2
  -- one pass: changed, or the same as before and even so far
  have pass : ∀ (x5 : Int32) (z0 : ow_MS), (∀ (x4 : Int32) (z : ow_MS), pnI9 y z c n φ q fc → z.2.1 6003 (φ (2 * v0)) ≠ -1 → (x4 = 1 ∧ ucC9 z φ q (4 * c) < ucC9 z0 φ q (4 * c) ∨ x4 = 0 ∧ ∀ v, v < 2 * c → q v = true → (z.2.1 6003 (φ (2 * v)) ≠ -1 ↔ z.2.1 6003 (φ (2 * v + 1)) ≠ -1)) → Tt (fun K k => c_X4_paint vl K k 1 x2 1 x4 (x5 + 1) 0 0 0 6000 4000 z) Q) → ∀ (d v : Nat) (x3 x4 : Int32) (z : ow_MS), v + d = 2 * c → pnI9 y z c n φ q fc → (x3 = 1 ∧ z.2.1 6003 (φ (2 * v0)) ≠ -1 ∨ x3 = 0 ∧ v ≤ v0 ∧ x4 = 0 ∧ z = y) → (x4 = 1 ∧ ucC9 z φ q (4 * c) < ucC9 z0 φ q (4 * c) ∨ x4 = 0 ∧ ucC9 z φ q (4 * c) ≤ ucC9 z0 φ q (4 * c) ∧ ∀ u, u < v → q u = true → (z.2.1 6003 (φ (2 * u)) ≠ -1 ↔ z.2.1 6003 (φ (2 * u + 1)) ≠ -1)) → Tt (fun K k => c_X4_paint vl K k 2 x2 x3 x4 x5 (nI v) 0 0 6000 4000 z) Q := by
    intro x5 z0 hnext d
    induction d with
    | zero =>
      intro v x3 x4 z hvd hz h3 h4
      rcases h3 with ⟨h3, h5⟩ | ⟨h3, h5, h6, h7⟩
      · rw [h3]
        refine u_X4_paint_2 ?_; unfold cm_X4_paint_2
        refine w_rdF ((hz.1 4008 (by omega)).1.trans h8) ?_
        rw [rn_mul2]
        refine w_leT (by omega) (by omega) (hnext x4 z hz h5 ?_)
        rcases h4 with h4 | ⟨h4, h7, h9⟩
        · exact Or.inl h4
        · exact Or.inr ⟨h4, fun u hu => h9 u (by omega)⟩
      · omega
    | succ d ih =>
      intro v x3 x4 z hvd hz h3 h4
      obtain ⟨a1, a2⟩ := hφ (2 * v) (by omega)
      obtain ⟨b1, b2⟩ := hφ (2 * v + 1) (by omega)
      have c5 : ∀ (x3 x4 : Int32) (z : ow_MS), pnI9 y z c n φ q fc → (x3 = 1 ∧ z.2.1 6003 (φ (2 * v0)) ≠ -1 ∨ x3 = 0 ∧ v + 1 ≤ v0 ∧ x4 = 0 ∧ z = y) → (x4 = 1 ∧ ucC9 z φ q (4 * c) < ucC9 z0 φ q (4 * c) ∨ x4 = 0 ∧ ucC9 z φ q (4 * c) ≤ ucC9 z0 φ q (4 * c) ∧ ∀ u, u < v + 1 → q u = true → (z.2.1 6003 (φ (2 * u)) ≠ -1 ↔ z.2.1 6003 (φ (2 * u + 1)) ≠ -1)) → Tt (fun K k => c_X4_paint vl K k 5 x2 x3 x4 x5 (nI v) 0 0 6000 4000 z) Q := by
        intro x3 x4 z hz h3 h4
        refine u_X4_paint_5 ?_; unfold cm_X4_paint_5
        rw [nI_1]
        exact ih (v + 1) x3 x4 z (by omega) hz h3 h4
      have qs1 : q v = true → q (2 * v / 2) = true := fun h => by rw [show 2 * v / 2 = v by omega]; exact h
      have qs2 : q v = true → q ((2 * v + 1) / 2) = true := fun h => by rw [show (2 * v + 1) / 2 = v by omega]; exact h
      -- both sides of the gap are looked at
      have c3 : ∀ (x4 : Int32) (z : ow_MS), q v = true → pnI9 y z c n φ q fc → z.2.1 6003 (φ (2 * v0)) ≠ -1 → (x4 = 1 ∧ ucC9 z φ q (4 * c) < ucC9 z0 φ q (4 * c) ∨ x4 = 0 ∧ ucC9 z φ q (4 * c) ≤ ucC9 z0 φ q (4 * c) ∧ ∀ u, u < v → q u = true → (z.2.1 6003 (φ (2 * u)) ≠ -1 ↔ z.2.1 6003 (φ (2 * u + 1)) ≠ -1)) → Tt (fun K k => c_X4_paint vl K k 3 x2 1 x4 x5 (nI v) (nI (φ (2 * v))) (nI (φ (2 * v + 1))) 6000 4000 z) Q := by
        intro x4 z hvq hz h0 h4
        have ule : ucC9 z φ q (4 * c) ≤ ucC9 z0 φ q (4 * c) := by
          rcases h4 with h4 | h4
          · omega
          · exact h4.2.1
        have even : (z.2.1 6003 (φ (2 * v)) ≠ -1 ↔ z.2.1 6003 (φ (2 * v + 1)) ≠ -1) → x4 = 1 ∧ ucC9 z φ q (4 * c) < ucC9 z0 φ q (4 * c) ∨ x4 = 0 ∧ ucC9 z φ q (4 * c) ≤ ucC9 z0 φ q (4 * c) ∧ ∀ u, u < v + 1 → q u = true → (z.2.1 6003 (φ (2 * u)) ≠ -1 ↔ z.2.1 6003 (φ (2 * u + 1)) ≠ -1) := fun he => by
          rcases h4 with h4 | ⟨h4, h5, h6⟩
          · exact Or.inl h4
          · refine Or.inr ⟨h4, h5, fun u hu huq => ?_⟩
            by_cases h9 : u = v
            · rw [h9]
              exact he
            · exact h6 u (by omega) huq
        have c4 : ¬ (z.2.1 6003 (φ (2 * v)) ≠ -1 ∧ z.2.1 6003 (φ (2 * v + 1)) = -1) → Tt (fun K k => c_X4_paint vl K k 4 x2 1 x4 x5 (nI v) (nI (φ (2 * v))) (nI (φ (2 * v + 1))) 6000 4000 z) Q := by
          intro hno
          refine u_X4_paint_4 ?_; unfold cm_X4_paint_4
          refine w_crI cg_6003 rfl (by omega) rfl (w_if (fun e1 => w_crI cg_6003 rfl (by omega) rfl (w_if (fun e2 => ?_) (fun e2 => ?_))) (fun e1 => ?_))
          · exact c5 _ _ z hz (Or.inl ⟨rfl, h0⟩) (even ⟨fun h => absurd e1 h, fun h => absurd e2 h⟩)
          · have hr := (hz.2.2 (2 * v + 1) (by omega) (qs2 hvq)).resolve_left e2
            obtain ⟨k1, k2⟩ := pn_w (n := n) (show 2 * v < 4 * c by omega) (qs1 hvq) hz e1 (fcn _)
            have e3 : 1 - fc (φ (2 * v + 1)) = fc (φ (2 * v)) := (hlr v (by omega) hvq).symm
            refine w_crI cg_6003 rfl (by omega) hr (w_ctI cg_6003 rfl (by omega) ?_)
            rw [e3]
            refine c5 1 1 _ k1 (Or.inl ⟨rfl, ?_⟩) (Or.inl ⟨rfl, Nat.lt_of_lt_of_le k2 ule⟩)
            by_cases h9 : φ (2 * v0) = φ (2 * v)
            · rw [h9]
              show (usI z 6003 (φ (2 * v)) (fc (φ (2 * v)))).2.1 6003 (φ (2 * v)) ≠ -1
              rw [po_usI_at]
              exact fcn _
            · show (usI z 6003 (φ (2 * v)) (fc (φ (2 * v)))).2.1 6003 (φ (2 * v0)) ≠ -1
              rw [po_usI_ne h9]
              exact h0
          · exact c5 _ _ z hz (Or.inl ⟨rfl, h0⟩) (even ⟨fun _ h => hno ⟨e1, h⟩, fun _ => e1⟩)
        refine u_X4_paint_3 ?_; unfold cm_X4_paint_3
        refine w_crI cg_6003 rfl (by omega) rfl (w_if (fun e1 => c4 (fun h => h.1 e1)) (fun e1 => w_crI cg_6003 rfl (by omega) rfl (w_if (fun e2 => ?_) (fun e2 => c4 (fun h => e2 h.2)))))
        have hl := (hz.2.2 (2 * v) (by omega) (qs1 hvq)).resolve_left e1
        obtain ⟨k1, k2⟩ := pn_w (n := n) (show 2 * v + 1 < 4 * c by omega) (qs2 hvq) hz e2 (fcn _)
        have e3 : 1 - fc (φ (2 * v)) = fc (φ (2 * v + 1)) := (one v (by omega) hvq).symm
        refine w_crI cg_6003 rfl (by omega) hl (w_ctI cg_6003 rfl (by omega) ?_)
        rw [e3]
        refine c5 1 1 _ k1 (Or.inl ⟨rfl, ?_⟩) (Or.inl ⟨rfl, Nat.lt_of_lt_of_le k2 ule⟩)
        by_cases h9 : φ (2 * v0) = φ (2 * v + 1)
        · rw [h9]
          show (usI z 6003 (φ (2 * v + 1)) (fc (φ (2 * v + 1)))).2.1 6003 (φ (2 * v + 1)) ≠ -1
          rw [po_usI_at]
          exact fcn _
        · show (usI z 6003 (φ (2 * v + 1)) (fc (φ (2 * v + 1)))).2.1 6003 (φ (2 * v0)) ≠ -1
          rw [po_usI_ne h9]
          exact h0
      have r6 : z.2.1 4006 v = y.2.1 4006 v := by rw [(hz.1 4006 (by omega)).2.1]
      have r1 : z.2.1 6001 (2 * v) = nI (φ (2 * v)) := by rw [(hz.1 6001 (by omega)).2.1]; exact a1
      have r2 : z.2.1 6001 (2 * v + 1) = nI (φ (2 * v + 1)) := by rw [(hz.1 6001 (by omega)).2.1]; exact b1
      refine u_X4_paint_2 ?_; unfold cm_X4_paint_2
      refine w_rdF ((hz.1 4008 (by omega)).1.trans h8) ?_
      rw [rn_mul2, rn_mul2, nI_1]
      refine w_leF (by omega) (by omega) (w_crI cg_4006 rfl (by omega) r6 (w_if (fun hp => w_crI cg_6001 rfl (by omega) r1 (w_crI cg_6001 rfl (by omega) r2 ?_)) (fun hp => ?_)))
      · have hvq := (hqM v (by omega)).mp hp
        rcases h3 with ⟨h3, h5⟩ | ⟨h3, h5, h6, h7⟩
        · rw [h3]
          exact w_ifF (by decide) (c3 x4 z hvq hz h5 h4)
        · rw [h3]
          have hvv : v = v0 := by
            by_cases h9 : v = v0
            · exact h9
            · rw [hf0 v (by omega)] at hvq
              exact absurd hvq (by decide)
          subst hvv
          refine w_ifT rfl (w_ctI cg_6003 rfl (by omega) ?_)
          have hm : z.2.1 6003 (φ (2 * v)) = -1 := by
            rw [h7]
            exact hin (2 * v) (by omega) (qs1 hvq)
          have e0 : usI z (6000 + 3) (φ (2 * v)) 0 = usI z 6003 (φ (2 * v)) (fc (φ (2 * v))) := by rw [hc0]
          rw [e0]
          have k0 : (usI z 6003 (φ (2 * v)) (fc (φ (2 * v)))).2.1 6003 (φ (2 * v)) ≠ -1 := by
            rw [po_usI_at]
            exact fcn _
          obtain ⟨k1, k2⟩ := pn_w (n := n) (show 2 * v < 4 * c by omega) (qs1 hvq) hz hm (fcn _)
          refine c3 x4 _ hvq k1 k0 (Or.inr ⟨h6, ?_, fun u hu huq => ?_⟩)
          · rcases h4 with h4 | h4
            · omega
            · omega
          · rw [hf0 u hu] at huq
            exact absurd huq (by decide)
      · refine c5 x3 x4 z hz ?_ ?_
        · rcases h3 with h3 | ⟨h3, h5, h6, h7⟩
          · exact Or.inl h3
          · refine Or.inr ⟨h3, ?_, h6, h7⟩
            by_cases h9 : v = v0
            · rw [h9] at hp
              exact absurd ((hqM v0 hv0).mpr hq0) hp
            · omega
        · rcases h4 with h4 | ⟨h4, h5, h6⟩
          · exact Or.inl h4
          · refine Or.inr ⟨h4, h5, fun u hu huq => ?_⟩
            by_cases h9 : u = v
            · rw [h9] at huq
              exact absurd ((hqM v (by omega)).mpr huq) hp
            · exact h6 u (by omega) huq
  have c1 : ∀ (d i : Nat) (x4 : Int32) (z : ow_MS), i + d = 48 → pnI9 y z c n φ q fc → z.2.1 6003 (φ (2 * v0)) ≠ -1 → (x4 = 1 ∧ ucC9 z φ q (4 * c) + i ≤ 48 ∨ x4 = 0 ∧ ∀ v, v < 2 * c → q v = true → (z.2.1 6003 (φ (2 * v)) ≠ -1 ↔ z.2.1 6003 (φ (2 * v + 1)) ≠ -1)) → Tt (fun K k => c_X4_paint vl K k 1 x2 1 x4 (nI i) 0 0 0 6000 4000 z) Q := by
    intro d
    induction d with
    | zero =>
      intro i x4 z hi hz h0 h4
      refine u_X4_paint_1 ?_; unfold cm_X4_paint_1
      refine w_leT (a := 48) (b := i) (by omega) (by omega) (w_some ?_)
      rcases h4 with ⟨h4, h5⟩ | ⟨h4, h5⟩
      · refine done z hz h0 (fun v hv1 hvq => ?_)
        have z0 : ∀ s, s < 4 * c → q (s / 2) = true → z.2.1 6003 (φ s) ≠ -1 := fun s hs hsq h9 => by
          have := nF_pos (q := fun s => q (s / 2) && decide (z.2.1 6003 (φ s) = -1)) (a := s) (by rw [hsq, h9, decide_eq_true rfl]; rfl) (4 * c) hs
          have u9 : ucC9 z φ q (4 * c) = nF (fun s => q (s / 2) && decide (z.2.1 6003 (φ s) = -1)) (4 * c) := rfl
          omega
        exact ⟨fun _ => z0 (2 * v + 1) (by omega) (by rw [show (2 * v + 1) / 2 = v by omega]; exact hvq), fun _ => z0 (2 * v) (by omega) (by rw [show 2 * v / 2 = v by omega]; exact hvq)⟩
      · exact done z hz h0 h5
    | succ d ih =>
      intro i x4 z hi hz h0 h4
      refine u_X4_paint_1 ?_; unfold cm_X4_paint_1
      refine w_leF (a := 48) (b := i) (by omega) (by omega) (w_if (fun h9 => w_some ?_) (fun h9 => ?_))
      · rcases h4 with ⟨h4, h5⟩ | ⟨h4, h5⟩
        · rw [h4] at h9
          exact absurd h9 (by decide)
        · exact done z hz h0 h5
      · rcases h4 with ⟨h4, h5⟩ | ⟨h4, h5⟩
        · refine pass (nI i) z (fun x4 z1 h1 h2 h3 => ?_) (2 * c) 0 1 0 z (by omega) hz (Or.inl ⟨rfl, h0⟩) (Or.inr ⟨rfl, Nat.le_refl _, fun u hu => absurd hu (Nat.not_lt_zero _)⟩)
          rw [nI_1]
          refine ih (i + 1) x4 z1 (by omega) h1 h2 ?_
          rcases h3 with ⟨h3, h6⟩ | h3
          · exact Or.inl ⟨h3, by omega⟩
          · exact Or.inr h3
        · exact absurd h4 h9
  have hz0 : pnI9 y y c n φ q fc := ⟨fr_rf, fun f _ => rfl, fun s hs hsq => Or.inl (hin s hs hsq)⟩
  have u0 : ucC9 y φ q (4 * c) ≤ 48 := Nat.le_trans (nF_le _ _) (by omega)
  refine e_X4_paint ?_
  refine u_X4_paint_0 ?_; unfold cm_X4_paint_0
  refine u_X4_paint_1 ?_; unfold cm_X4_paint_1
  refine w_leF (a := 48) (b := 0) (by omega) (by omega) (w_ifF (by decide) ?_)
  refine pass 0 y (fun x4 z1 h1 h2 h3 => ?_) (2 * c) 0 0 0 y (by omega) hz0 (Or.inr ⟨rfl, Nat.zero_le _, rfl, rfl⟩) (Or.inr ⟨rfl, Nat.le_refl _, fun u hu => absurd hu (Nat.not_lt_zero _)⟩)
  refine c1 47 1 x4 z1 (by omega) h1 h2 ?_
  rcases h3 with ⟨h3, h6⟩ | h3
  · exact Or.inl ⟨h3, by omega⟩
  · exact Or.inr h3
end XSGT
end
section
/-! 99zzzzzzzzzzzzzzzzyzzzd.xsgu -/
/-! signature, the class: rows of faces and the matrix, exactly -/
section XSGU
variable {vl : Nat → Nat} {y : ow_MS}
theorem te_numRows {c n : Nat} {φ : Nat → Nat} {x2 x3 : Int32} (h8 : y.1 4008 = nI c) (hc : c ≤ 12) (h2 : y.1 6002 = nI n) (hn : n ≤ 48) (hφ : ∀ s, s < 4 * c → y.2.1 6001 s = nI (φ s) ∧ φ s < n) : Te (fun K => ce_X4_numberRows vl K 6000 4000 x2 x3 y) (fun r => r.1 = nI (nF (snS φ (cdN y φ x2 x3) (4 * c)) n) ∧ (∀ f, f < n → (r.2.2.1 6004 f = -1 ∧ snS φ (cdN y φ x2 x3) (4 * c) f = false ∨ (∃ k, k < nF (snS φ (cdN y φ x2 x3) (4 * c)) n ∧ r.2.2.1 6004 f = nI k) ∧ snS φ (cdN y φ x2 x3) (4 * c) f = true)) ∧ fr (fun g => g = 6004) y r.2 ∧ ∀ j, j < nF (snS φ (cdN y φ x2 x3) (4 * c)) n → ∃ f, f < n ∧ snS φ (cdN y φ x2 x3) (4 * c) f = true ∧ r.2.2.1 6004 f = nI j) := by
  let cd := cdN y φ x2 x3
  let Q : Int32 × ow_MS → Prop := fun r => r.1 = nI (nF (snS φ cd (4 * c)) n) ∧ (∀ f, f < n → (r.2.2.1 6004 f = -1 ∧ snS φ cd (4 * c) f = false ∨ (∃ k, k < nF (snS φ cd (4 * c)) n ∧ r.2.2.1 6004 f = nI k) ∧ snS φ cd (4 * c) f = true)) ∧ fr (fun g => g = 6004) y r.2 ∧ ∀ j, j < nF (snS φ (cdN y φ x2 x3) (4 * c)) n → ∃ f, f < n ∧ snS φ (cdN y φ x2 x3) (4 * c) f = true ∧ r.2.2.1 6004 f = nI j
  let I : Nat → ow_MS → Prop := fun s z => (∀ f, f < n → (z.2.1 6004 f = -1 ∧ snS φ cd s f = false ∨ (∃ k, k < nF (snS φ cd s) n ∧ z.2.1 6004 f = nI k) ∧ snS φ cd s f = true)) ∧ fr (fun g => g = 6004) y z ∧ ∀ j, j < nF (snS φ (cdN y φ x2 x3) s) n → ∃ f, f < n ∧ snS φ (cdN y φ x2 x3) s f = true ∧ z.2.1 6004 f = nI j
  have c1 : ∀ (d s : Nat) (z : ow_MS), s + d = 4 * c → I s z → Tt (fun K k => c_X4_numberRows vl K k 1 x2 x3 (nI (nF (snS φ cd s) n)) (nI s) 0 6000 4000 z) Q := by
    intro d
    induction d with
    | zero =>
      intro s z hs hz
      have hs : s = 4 * c := by omega
      subst hs
      refine u_X4_numberRows_1 ?_; unfold cm_X4_numberRows_1
      refine w_rdF ((hz.2.1 4008 (by omega)).1.trans h8) ?_
      rw [show (4 : Int32) * nI c = nI (4 * c) from pk_mul 4 c]
      exact w_leT (by omega) (by omega) (w_some ⟨rfl, hz.1, hz.2.1, hz.2.2⟩)
    | succ d ih =>
      intro s z hs hz
      obtain ⟨p1, p2⟩ := hφ s (by omega)
      have hnl := nF_le (snS φ cd s) n
      have c2 : ∀ (m : Nat) (z1 : ow_MS), m = nF (snS φ cd (s + 1)) n → I (s + 1) z1 → Tt (fun K k => c_X4_numberRows vl K k 2 x2 x3 (nI m) (nI s) (nI (φ s)) 6000 4000 z1) Q := by
        intro m z1 hm h1
        refine u_X4_numberRows_2 ?_; unfold cm_X4_numberRows_2
        rw [nI_1, hm]
        exact ih (s + 1) z1 (by omega) h1
      -- nothing new
      have old : (cd s = false ∨ snS φ cd s (φ s) = true) → Tt (fun K k => c_X4_numberRows vl K k 2 x2 x3 (nI (nF (snS φ cd s) n)) (nI s) (nI (φ s)) 6000 4000 z) Q := by
        intro h9
        have e : ∀ f, snS φ cd (s + 1) f = snS φ cd s f := by
          intro f
          show (snS φ cd s f || (cd s && decide (φ s = f))) = _
          rcases h9 with h9 | h9
          · rw [h9, Bool.false_and, Bool.or_false]
          · by_cases e9 : φ s = f
            · rw [← e9, h9, Bool.true_or]
            · rw [decide_eq_false e9, Bool.and_false, Bool.or_false]
        have ef : snS φ cd (s + 1) = snS φ cd s := funext e
        refine c2 _ z (by rw [ef]) ?_
        refine ⟨?_, hz.2.1, ?_⟩
        · rw [ef]
          exact hz.1
        · have ef2 : snS φ (cdN y φ x2 x3) (s + 1) = snS φ (cdN y φ x2 x3) s := ef
          rw [ef2]
          exact hz.2.2
      refine u_X4_numberRows_1 ?_; unfold cm_X4_numberRows_1
      refine w_rdF ((hz.2.1 4008 (by omega)).1.trans h8) ?_
      rw [show (4 : Int32) * nI c = nI (4 * c) from pk_mul 4 c, rn_shr1 (by omega)]
      have r1 : z.2.1 6001 s = nI (φ s) := by rw [(hz.2.1 6001 (by omega)).2.1]; exact p1
      have r6 : z.2.1 4006 (s / 2) = y.2.1 4006 (s / 2) := by rw [(hz.2.1 4006 (by omega)).2.1]
      have r3 : z.2.1 6003 (φ s) = y.2.1 6003 (φ s) := by rw [(hz.2.1 6003 (by omega)).2.1]
      refine w_leF (by omega) (by omega) (w_crI cg_6001 rfl (by omega) r1 (w_crI cg_4006 rfl (by omega) r6 (w_if (fun a1 => w_crI cg_6003 rfl (by omega) r3 (w_if (fun a2 => ?_) (fun a2 => old (Or.inl (decide_eq_false (fun h9 => a2 h9.2)))))) (fun a1 => old (Or.inl (decide_eq_false (fun h9 => a1 h9.1)))))))
      have hcd : cd s = true := decide_eq_true ⟨a1, a2⟩
      rcases hz.1 (φ s) p2 with ⟨q1, q2⟩ | ⟨⟨k, q1, q3⟩, q2⟩
      · refine w_crI cg_6004 rfl (by omega) q1 (w_ifT rfl (w_ctI cg_6004 rfl (by omega) ?_))
        rw [nI_1]
        have hset := nF_set (q := snS φ cd s) (q' := snS φ cd (s + 1)) (a := φ s) q2 (by
          show (snS φ cd s (φ s) || (cd s && decide (φ s = φ s))) = true
          rw [hcd, decide_eq_true rfl]
          simp) (fun k hk => by
          show (snS φ cd s k || (cd s && decide (φ s = k))) = _
          rw [decide_eq_false (fun h9 => hk h9.symm), Bool.and_false, Bool.or_false]) n
        rw [if_pos p2] at hset
        have s3 : ∀ j, j < nF (snS φ cd (s + 1)) n → ∃ f, f < n ∧ snS φ cd (s + 1) f = true ∧ (usI z (6000 + 4) (φ s) (nI (nF (snS φ cd s) n))).2.1 6004 f = nI j := by
          intro j hj
          by_cases h9 : j < nF (snS φ cd s) n
          · obtain ⟨f, f1, f2, f3⟩ := hz.2.2 j h9
            have hne : f ≠ φ s := fun h8 => by
              have f2' : snS φ cd s f = true := f2
              rw [h8, q2] at f2'
              exact absurd f2' (by decide)
            refine ⟨f, f1, ?_, (po_usI_ne hne).trans f3⟩
            show (snS φ cd s f || (cd s && decide (φ s = f))) = true
            have f2' : snS φ cd s f = true := f2
            rw [f2', Bool.true_or]
          · refine ⟨φ s, p2, ?_, ?_⟩
            · show (snS φ cd s (φ s) || (cd s && decide (φ s = φ s))) = true
              rw [hcd, decide_eq_true rfl]
              simp
            · have : j = nF (snS φ cd s) n := by omega
              rw [this]
              exact po_usI_at
        refine c2 _ _ hset.symm ⟨fun f hf => ?_, fr_I2 hz.2.1 rfl, s3⟩
        by_cases e : f = φ s
        · subst e
          refine Or.inr ⟨⟨nF (snS φ cd s) n, by omega, po_usI_at⟩, ?_⟩
          show (snS φ cd s (φ s) || (cd s && decide (φ s = φ s))) = true
          rw [hcd, decide_eq_true rfl]
          simp
        · have e2 : snS φ cd (s + 1) f = snS φ cd s f := by
            show (snS φ cd s f || (cd s && decide (φ s = f))) = _
            rw [decide_eq_false (fun h9 => e h9.symm), Bool.and_false, Bool.or_false]
          rcases hz.1 f hf with ⟨u1, u2⟩ | ⟨⟨k, u1, u3⟩, u2⟩
          · exact Or.inl ⟨(po_usI_ne e).trans u1, by rw [e2]; exact u2⟩
          · exact Or.inr ⟨⟨k, by omega, (po_usI_ne e).trans u3⟩, by rw [e2]; exact u2⟩
      · exact w_crI cg_6004 rfl (by omega) q3 (w_ifF (rn_neg1 (by omega)) (old (Or.inr q2)))
  have hz0 : nF (snS φ cd 0) n = 0 := by
    have key : ∀ m, nF (fun _ => false) m = 0 := by
      intro m
      induction m with
      | zero => rfl
      | succ m ih =>
        show nF (fun _ => false) m + (if false = true then 1 else 0) = 0
        rw [ih]
        rfl
    exact key n
  refine e_X4_numberRows ?_
  refine u_X4_numberRows_0 ?_; unfold cm_X4_numberRows_0
  refine w_rdF h2 (w_cs0 (tc_fill (a := 0) (b := n) cg_6004 (by omega) (by omega) (by omega)) ?_)
  rintro z1 ⟨f1, f2⟩
  have := c1 (4 * c) 0 z1 (by omega) ⟨fun f hf => Or.inl ⟨by rw [f1 f, if_pos (by omega)], rfl⟩, f2, fun j hj => absurd hj (by
    have hz1 : nF (snS φ (cdN y φ x2 x3) 0) n = 0 := hz0
    omega)⟩
  rw [hz0] at this
  exact this
/-- the matrix of the class holds A -/
def mtA9 (y : ow_MS) (m : Nat) (A : Nat → Nat → Int) : Prop := ∀ i j, i < m → j < m → y.2.2 6005 (8 * i + j) = Int64.ofInt (A i j)
theorem mtA_w {m a b : Nat} {A : Nat → Nat → Int} {s : Int} (h : mtA9 y m A) (ha : a < m) (hb : b < m) (hm : m ≤ 8) : mtA9 (usJ y 6005 (8 * a + b) (Int64.ofInt (A a b + s))) m (fun i j => A i j + s * (zd9 a i * zd9 b j)) := by
  intro i j hi hj
  by_cases h9 : i = a ∧ j = b
  · obtain ⟨h8, h7⟩ := h9
    subst h8
    subst h7
    rw [usJ_at]
    dsimp only
    rw [show zd9 i i = 1 from if_pos rfl, show zd9 j j = 1 from if_pos rfl, Int.mul_one, Int.mul_one]
  · rw [usJ_ne (by omega), h i j hi hj]
    refine congrArg Int64.ofInt ?_
    have : zd9 a i * zd9 b j = 0 := by
      by_cases h8 : i = a
      · rw [show zd9 b j = 0 from if_neg (fun h7 => h9 ⟨h8, h7⟩), Int.mul_zero]
      · rw [show zd9 a i = 0 from if_neg h8, Int.zero_mul]
    dsimp only
    rw [this, Int.mul_zero, Int.add_zero]
theorem te_addAt {m u v : Nat} {t : Int} {A : Nat → Nat → Int} (hm : m ≤ 8) (hu : u < 20) (hv : v < 20) (ht : t = 1 ∨ t = -1) (h : mtA9 y m A) : Te (fun K => ce_X4_addAt vl K 6000 (nI u) (nI v) (iI t) (nI m) y) (fun y1 => fr (fun g => g = 6005) y y1 ∧ mtA9 y1 m (fun i j => A i j + t * (zd9 i u - zd9 i v) * (zd9 j u - zd9 j v))) := by
  have tl : (iI t).toInt64 = Int64.ofInt t := by
    rcases ht with h9 | h9 <;> rw [h9] <;> rfl
  let Q : ow_MS → Prop := fun y1 => fr (fun g => g = 6005) y y1 ∧ mtA9 y1 m (fun i j => A i j + t * (zd9 i u - zd9 i v) * (zd9 j u - zd9 j v))
  have sy : ∀ a b, zd9 a b = zd9 b a := fun a b => by
    unfold zd9
    by_cases h9 : b = a
    · rw [if_pos h9, if_pos h9.symm]
    · rw [if_neg h9, if_neg (fun h8 => h9 h8.symm)]
  have far : ∀ a i, m ≤ a → i < m → zd9 i a = 0 := fun a i h1 h2 => if_neg (by omega)
  have c2 : ∀ z, fr (fun g => g = 6005) y z → mtA9 z m (fun i j => A i j + t * (zd9 i u * zd9 j u) + t * (zd9 i v * zd9 j v)) → Tt (fun K k => c_X4_addAt vl K k 2 (nI u) (nI v) (iI t) (nI m) 6000 z) Q := by
    intro z hz hA
    have out : (m ≤ u ∨ m ≤ v) → Q z := fun hor => by
      refine ⟨hz, fun i j hi hj => ?_⟩
      rw [hA i j hi hj]
      refine congrArg Int64.ofInt ?_
      dsimp only
      rcases hor with h9 | h9
      · rw [far u i h9 hi, far u j h9 hj]
        grind
      · rw [far v i h9 hi, far v j h9 hj]
        grind
    refine u_X4_addAt_2 ?_; unfold cm_X4_addAt_2
    refine w_ifF (fun h9 => absurd h9 (nI_pos (by omega))) (w_le (by omega) (by omega) (fun h1 => w_some (out (Or.inl h1))) (fun h1 => w_ifF (fun h9 => absurd h9 (nI_pos (by omega))) (w_le (by omega) (by omega) (fun h2 => w_some (out (Or.inr h2))) (fun h2 => ?_))))
    have k1 := mtA_w (s := -t) hA (show u < m by omega) (show v < m by omega) hm
    have k2 := mtA_w (s := -t) k1 (show v < m by omega) (show u < m by omega) hm
    rw [ix8, ix8, tl]
    refine w_crJ ch_6005 rfl (by omega) (hA u v (by omega) (by omega)) (w_ctJ ch_6005 rfl (by omega) ?_)
    rw [← Int64.ofInt_sub, Int.sub_eq_add_neg]
    refine w_crJ ch_6005 rfl (by omega) (k1 v u (by omega) (by omega)) (w_ctJ ch_6005 rfl (by omega) ?_)
    rw [← Int64.ofInt_sub, Int.sub_eq_add_neg]
    refine w_some ⟨fr_J2 (fr_J2 hz rfl) rfl, fun i j hi hj => ?_⟩
    refine (k2 i j hi hj).trans (congrArg Int64.ofInt ?_)
    dsimp only
    rw [sy u i, sy v j, sy v i, sy u j]
    grind
  have c1 : ∀ z, fr (fun g => g = 6005) y z → mtA9 z m (fun i j => A i j + t * (zd9 i u * zd9 j u)) → Tt (fun K k => c_X4_addAt vl K k 1 (nI u) (nI v) (iI t) (nI m) 6000 z) Q := by
    intro z hz hA
    refine u_X4_addAt_1 ?_; unfold cm_X4_addAt_1
    refine w_ifF (fun h9 => absurd h9 (nI_pos (by omega))) (w_le (by omega) (by omega) (fun h1 => c2 z hz (fun i j hi hj => ?_)) (fun h1 => ?_))
    · rw [hA i j hi hj]
      dsimp only
      rw [far v i h1 hi, Int.zero_mul, Int.mul_zero, Int.add_zero]
    · have k1 := mtA_w (s := t) hA (show v < m by omega) (show v < m by omega) hm
      rw [ix8, tl]
      refine w_crJ ch_6005 rfl (by omega) (hA v v (by omega) (by omega)) (w_ctJ ch_6005 rfl (by omega) ?_)
      rw [← Int64.ofInt_add]
      refine c2 _ (fr_J2 hz rfl) (fun i j hi hj => ?_)
      refine (k1 i j hi hj).trans (congrArg Int64.ofInt ?_)
      dsimp only
      rw [sy v i, sy v j]
  refine e_X4_addAt ?_
  refine u_X4_addAt_0 ?_; unfold cm_X4_addAt_0
  refine w_ifF (fun h9 => absurd h9 (nI_pos (by omega))) (w_le (by omega) (by omega) (fun h1 => c1 y fr_rf (fun i j hi hj => ?_)) (fun h1 => ?_))
  · rw [h i j hi hj]
    dsimp only
    rw [far u i h1 hi, Int.zero_mul, Int.mul_zero, Int.add_zero]
  · have k1 := mtA_w (s := t) h (show u < m by omega) (show u < m by omega) hm
    rw [ix8, tl]
    refine w_crJ ch_6005 rfl (by omega) (h u u (by omega) (by omega)) (w_ctJ ch_6005 rfl (by omega) ?_)
    rw [← Int64.ofInt_add]
    refine c1 _ (fr_J rfl) (fun i j hi hj => ?_)
    refine (k1 i j hi hj).trans (congrArg Int64.ofInt ?_)
    dsimp only
    rw [sy u i, sy u j]
end XSGU
end
section
/-! 99zzzzzzzzzzzzzzzzyzzze.xsgv -/
/-! signature, the class: a part, exactly -/
section XSGV
variable {vl : Nat → Nat} {y : ow_MS} {n P : Nat} {φ ψ : Nat → Nat} {w cf : Nat → Bool} {M : Nat → Int32}
/-- the colours of the part's faces are told by 0 and 1: x is κ -/
def coI9 (y : ow_MS) (c : Nat) (φ : Nat → Nat) (cf : Nat → Bool) (M : Nat → Int32) (p : Nat) (x : Int32) (κ : Bool) : Prop := ∀ s, s < 4 * c → M (s / 2) = nI p → (y.2.1 6003 (φ s) = x ↔ cf (φ s) = κ)
theorem cnt_kF {T : ow_NT} {p : Nat} {x : Int32} {κ : Bool} (h : fcD9 T.1 T.2.2.1 T.2.2.2 w n P M φ ψ cf) (hp : p < P) (hM : ∀ v, v < 2 * T.1 → y.2.1 4006 v = M v) (hx : coI9 y T.1 φ cf M p x κ) : ∀ f, f < n → snS φ (cdN y φ (nI p) x) (4 * T.1) f = qF9 ψ cf p κ f := by
  intro f hf
  have hP := h.2.2.2.2.2.2.2.2.2.2.2.2.2.2
  have key : snS φ (cdN y φ (nI p) x) (4 * T.1) f = true ↔ qF9 ψ cf p κ f = true := by
    rw [snS_t]
    constructor
    · rintro ⟨s, s1, s2, s3⟩
      obtain ⟨u1, u2⟩ := of_decide_eq_true s2
      rw [hM _ (by omega)] at u1
      have a := h.2.2.2.2.2.2.1 s s1
      rw [u1] at a
      have hl := h.2.2.2.2.2.1 _ (h.2.2.1 s s1)
      have e := nI_inj9 (by omega) (by omega) a
      have b := (hx s s1 u1).mp u2
      unfold qF9
      rw [← s3, decide_eq_true e.symm, b]
      simp
    · intro hq
      obtain ⟨v, v1, v2, v3⟩ := fc_of h hf hq
      obtain ⟨a1, a2, a3⟩ := ws_k (w := w) κ v
      have hM9 : M (ws9 w κ v / 2) = nI p := by
        rw [a2]
        exact of_decide_eq_true v2
      refine ⟨ws9 w κ v, by omega, decide_eq_true ⟨?_, ?_⟩, v3⟩
      · rw [hM _ (by omega)]
        exact hM9
      · refine (hx _ (by omega) hM9).mpr ?_
        rw [← h.2.2.2.2.1 _ (by omega)]
        exact a1
  cases e1 : snS φ (cdN y φ (nI p) x) (4 * T.1) f <;> cases e2 : qF9 ψ cf p κ f <;> simp_all
theorem te_sgPart {T : ow_NT} {p : Nat} {x3 : Int32} {κ : Bool} (hy : cAt y 4000 T) (h : fcD9 T.1 T.2.2.1 T.2.2.2 w n P M φ ψ cf) (hp : p < P) (hG : ∀ x, x < T.1 → T.2.2.2 x = 1 ∨ T.2.2.2 x = -1) (h2 : y.1 6002 = nI n) (hφ : ∀ s, s < 4 * T.1 → y.2.1 6001 s = nI (φ s) ∧ φ s < n) (hM : ∀ v, v < 2 * T.1 → y.2.1 4006 v = M v) (hx : coI9 y T.1 φ cf M p x3 κ) (hk9 : kF9 ψ cf n p κ ≤ 9) : Te (fun K => ce_X4_signatureOfPart vl K 6000 4000 (nI p) x3 y) (fun r => r.1 = iI (vlG9 T.1 T.2.2.1 T.2.2.2 w n M φ ψ cf p) ∧ fr spP y r.2) := by
  have hv := h.1
  have hw := h.2.1
  have hc : T.1 ≤ 12 := h.2.2.2.2.2.2.2.2.2.2.2.2.1
  have hn : n ≤ 48 := h.2.2.2.2.2.2.2.2.2.2.2.2.2.1
  have hP := h.2.2.2.2.2.2.2.2.2.2.2.2.2.2
  have ho := h.2.2.2.1
  have cnt := cnt_kF h hp hM hx
  have ck : nF (snS φ (cdN y φ (nI p) x3) (4 * T.1)) n = kF9 ψ cf n p κ := nF_cg n cnt
  have k1 := kF_pos h hp κ
  let Q : Int32 × ow_MS → Prop := fun r => r.1 = iI (vlG9 T.1 T.2.2.1 T.2.2.2 w n M φ ψ cf p) ∧ fr spP y r.2
  refine e_X4_signatureOfPart ?_
  refine u_X4_signatureOfPart_0 ?_; unfold cm_X4_signatureOfPart_0
  refine w_cs1 (te_numRows (x3 := x3) (x2 := nI p) hy.1 hc h2 hn hφ) ?_
  rintro v1 z1 ⟨e1, r1, f1, r2⟩
  have e1 : v1 = nI (kF9 ψ cf n p κ) := by rw [← ck]; exact e1
  have r1 : ∀ f, f < n → (z1.2.1 6004 f = -1 ∧ snS φ (cdN y φ (nI p) x3) (4 * T.1) f = false ∨ (∃ k, k < nF (snS φ (cdN y φ (nI p) x3) (4 * T.1)) n ∧ z1.2.1 6004 f = nI k) ∧ snS φ (cdN y φ (nI p) x3) (4 * T.1) f = true) := r1
  have r2 : ∀ j, j < nF (snS φ (cdN y φ (nI p) x3) (4 * T.1)) n → ∃ f, f < n ∧ snS φ (cdN y φ (nI p) x3) (4 * T.1) f = true ∧ z1.2.1 6004 f = nI j := r2
  have f1 : fr (fun g => g = 6004) y z1 := f1
  rw [ck] at r1 r2
  -- the rows as a function
  obtain ⟨ρ, hρ⟩ : ∃ ρ : Nat → Nat, ∀ f, f < n → qF9 ψ cf p κ f = true → z1.2.1 6004 f = nI (ρ f) ∧ ρ f < kF9 ψ cf n p κ := by
    refine ⟨fun f => (z1.2.1 6004 f).toNatClampNeg, fun f hf hq => ?_⟩
    rcases r1 f hf with ⟨a1, a2⟩ | ⟨⟨k, a1, a2⟩, a3⟩
    · rw [cnt f hf, hq] at a2
      exact absurd a2 (by decide)
    · dsimp only
      rw [a2, nI_clamp (by omega)]
      exact ⟨rfl, a1⟩
  have hR : nbG9 T.1 T.2.2.1 T.2.2.2 w (qP9 M p) κ (fun v => ρ (φ (ws9 w κ v))) (kF9 ψ cf n p κ) := by
    refine nb_of hv hw ho (fun v hv1 hq => ?_) (fun j hj => ?_)
    · obtain ⟨a, b⟩ := fc_ws h hp (κ := κ) hv1 hq
      exact (hρ _ a b).2
    · obtain ⟨f, a1, a2, a3⟩ := r2 j hj
      rw [cnt f a1] at a2
      obtain ⟨v, b1, b2, b3⟩ := fc_of h a1 a2
      refine ⟨v, b1, b2, ?_⟩
      rw [b3]
      have := (hρ f a1 a2).1
      have hl := (hρ f a1 a2).2
      rw [a3] at this
      exact (nI_inj9 (by omega) (by omega) this).symm
  have val := vl_all h hp hR
  generalize hRR : (fun v => ρ (φ (ws9 w κ v))) = R at hR val
  have hRv : ∀ v, R v = ρ (φ (ws9 w κ v)) := fun v => by rw [← hRR]
  obtain ⟨E, hE⟩ := isZ_E (M := mtZ9 T.1 T.2.2.1 T.2.2.2 w (qP9 M p) κ R) (kF9 ψ cf n p κ - 1)
  have hb := mt_bd hc hE
  refine w_cs0 (tc_fillJ ch_6005 (by omega)) ?_
  rintro z2 ⟨g2, f2⟩
  have f2 : fr (fun g => g = 6005) z1 z2 := f2
  rw [e1, show nI (kF9 ψ cf n p κ) - 1 = nI (kF9 ψ cf n p κ - 1) from pk_sub (b := 1) k1]
  generalize hm : kF9 ψ cf n p κ - 1 = m at hE
  have hm8 : m ≤ 8 := by omega
  have I0 : fr (fun g => g = 6004 ∨ g = 6005) y z2 := fr_tr (fr_mono (fun g hg => Or.inl hg) f1) (fr_mono (fun g hg => Or.inr hg) f2)
  have rowz : ∀ z, fr (fun g => g = 6005) z1 z → ∀ f, f < n → qF9 ψ cf p κ f = true → z.2.1 6004 f = nI (ρ f) := fun z hf f hf1 hq => by
    rw [(hf 6004 (by omega)).2.1]
    exact (hρ f hf1 hq).1
  have c1 : ∀ (d x : Nat) (x5 : Int32) (z : ow_MS), x + d = T.1 → fr (fun g => g = 6005) z1 z → x5 = iI (crG9 T.2.2.2 w (qP9 M p) κ x) → mtA9 z m (mtZ9 x T.2.2.1 T.2.2.2 w (qP9 M p) κ R) → Tt (fun K k => c_X4_signatureOfPart vl K k 1 (nI p) x3 (nI m) x5 (nI x) 6000 4000 0 z) Q := by
    intro d
    induction d with
    | zero =>
      intro x x5 z hxd hz h5 hA
      have hxd : x = T.1 := by omega
      have zy : fr (fun g => g = 6004 ∨ g = 6005) y z := fr_tr (fr_mono (fun g hg => Or.inl hg) f1) (fr_mono (fun g hg => Or.inr hg) hz)
      rw [hxd] at hA h5
      refine u_X4_signatureOfPart_1 ?_; unfold cm_X4_signatureOfPart_1
      refine w_rdF ((zy 4008 (by omega)).1.trans hy.1) (w_leT (by omega) (by omega) (w_cs1 (te_eigen hm8 hA hE (fun k hk => hb k (by omega))) ?_))
      rintro v z1 ⟨a1, f3⟩
      have a1 : v = _ := a1
      refine w_some ⟨?_, fr_tr (fr_mono (fun g hg => by unfold spP; rcases hg with h | h; exact Or.inl h; exact Or.inr (Or.inl h)) zy) (fr_mono (fun g hg => Or.inr (Or.inr hg)) f3)⟩
      show v - x5 = _
      rw [a1, h5, iI_sub, mtZ_cs, ← val]
      unfold svG9
      rw [hm]
    | succ d ih =>
      intro x x5 z hxd hz h5 hA
      have hx1 : x < T.1 := by omega
      have zy : fr (fun g => g = 6004 ∨ g = 6005) y z := fr_tr (fr_mono (fun g hg => Or.inl hg) f1) (fr_mono (fun g hg => Or.inr hg) hz)
      have c3 : ∀ (x5 : Int32) (z : ow_MS), fr (fun g => g = 6005) z1 z → x5 = iI (crG9 T.2.2.2 w (qP9 M p) κ (x + 1)) → mtA9 z m (mtZ9 (x + 1) T.2.2.1 T.2.2.2 w (qP9 M p) κ R) → Tt (fun K k => c_X4_signatureOfPart vl K k 3 (nI p) x3 (nI m) x5 (nI x) 6000 4000 0 z) Q := by
        intro x5 z hz h5 hA
        refine u_X4_signatureOfPart_3 ?_; unfold cm_X4_signatureOfPart_3
        rw [nI_1]
        exact ih (x + 1) x5 z (by omega) hz h5 hA
      have fcz : ∀ s, s < 4 * T.1 → z.2.1 6001 s = nI (φ s) ∧ φ s < n := fun s hs => by
        rw [(zy 6001 (by omega)).2.1]
        exact hφ s hs
      have pv : ∀ v, z.2.1 4002 v = nI (T.2.2.1.2 v) := fun v => by
        rw [(zy 4002 (by omega)).2.1]
        exact hy.2.2.2.1 v
      have sgn : z.2.1 4003 x = T.2.2.2 x := by
        rw [(zy 4003 (by omega)).2.1]
        exact hy.2.2.2.2 x
      have r6 : z.2.1 4006 (2 * x) = M (2 * x) := by
        rw [(zy 4006 (by omega)).2.1]
        exact hM _ (by omega)
      have sI : T.2.2.2 x = iI (sgI9 T.2.2.2 x) := by
        unfold sgI9
        rcases hG x hx1 with h9 | h9 <;> rw [h9] <;> rfl
      have sP : sgI9 T.2.2.2 x = 1 ∨ sgI9 T.2.2.2 x = -1 := by
        unfold sgI9
        split
        · exact Or.inl rfl
        · exact Or.inr rfl
      -- in the part
      have c2 : qP9 M p (2 * x) = true → Tt (fun K k => c_X4_signatureOfPart vl K k 2 (nI p) x3 (nI m) x5 (nI x) 6000 4000 (nI (fV9 T.2.2.2 x)) z) Q := by
        intro hxq
        have ht := fV_lt (G := T.2.2.2) hx1
        have hmt := mt_lt ht
        have v1 := (hv _ ht).2.1
        have v2 := (hv _ hmt).2.1
        obtain ⟨q1, q2⟩ := fV_q (G := T.2.2.2) (ptQ_of h p) hx1
        have qf : qP9 M p (fV9 T.2.2.2 x) = true := by rw [q1]; exact hxq
        have qpf : qP9 M p (T.2.2.1.2 (fV9 T.2.2.2 x)) = true := by
          have := ((ptQ_of h p).1 _ v1).1
          rw [(hv _ ht).2.2.2] at this
          rw [← this]
          exact qf
        obtain ⟨o1, o2, o3, o4⟩ := on4 (G := T.2.2.2) hv hx1
        have p2 := ho (2 * T.2.2.1.2 (mt (fV9 T.2.2.2 x))) (by omega)
        rw [o2] at p2
        have Mf : M (2 * fV9 T.2.2.2 x / 2) = nI p := by
          rw [show 2 * fV9 T.2.2.2 x / 2 = fV9 T.2.2.2 x by omega]
          exact of_decide_eq_true qf
        have cN := hx (2 * fV9 T.2.2.2 x) (by omega) Mf
        have kN := h.2.2.2.2.1 (2 * fV9 T.2.2.2 x) (by omega)
        have kN2 : kS w (2 * fV9 T.2.2.2 x) = w (fV9 T.2.2.2 x) := by
          unfold kS
          rw [if_pos (by omega), show 2 * fV9 T.2.2.2 x / 2 = fV9 T.2.2.2 x by omega]
        rw [← kN, kN2] at cN
        have wpf : w (T.2.2.1.2 (fV9 T.2.2.2 x)) = !w (fV9 T.2.2.2 x) := by
          have := (hw _ v1).1
          rw [(hv _ ht).2.2.2] at this
          rw [this, Bool.not_not]
        obtain ⟨A1, A2⟩ := fc_ws h hp (κ := κ) ht qf
        obtain ⟨B1, B2⟩ := fc_ws h hp (κ := κ) v1 qpf
        have RA := rowz z hz _ A1 A2
        have RB := rowz z hz _ B1 B2
        have lA := (hρ _ A1 A2).2
        have lB := (hρ _ B1 B2).2
        obtain ⟨g1, g2⟩ := fcz (2 * fV9 T.2.2.2 x) (by omega)
        obtain ⟨g3, g4⟩ := fcz (2 * fV9 T.2.2.2 x + 1) (by omega)
        obtain ⟨g5, g6⟩ := fcz (2 * T.2.2.1.2 (fV9 T.2.2.2 x)) (by omega)
        obtain ⟨g7, g8⟩ := fcz (2 * T.2.2.1.2 (mt (fV9 T.2.2.2 x))) (by omega)
        have col : z.2.1 6003 (φ (2 * fV9 T.2.2.2 x)) = y.2.1 6003 (φ (2 * fV9 T.2.2.2 x)) := by rw [(zy 6003 (by omega)).2.1]
        -- the matrix with this crossing
        have nxt : ∀ z3, mtA9 z3 m (fun i j => mtZ9 x T.2.2.1 T.2.2.2 w (qP9 M p) κ R i j + tI9 T.2.2.2 w κ x * (zd9 i (R (fV9 T.2.2.2 x)) - zd9 i (R (T.2.2.1.2 (fV9 T.2.2.2 x)))) * (zd9 j (R (fV9 T.2.2.2 x)) - zd9 j (R (T.2.2.1.2 (fV9 T.2.2.2 x))))) → mtA9 z3 m (mtZ9 (x + 1) T.2.2.1 T.2.2.2 w (qP9 M p) κ R) := fun z3 h3 i j hi hj => by
          rw [h3 i j hi hj]
          refine congrArg Int64.ofInt ?_
          show _ = zS9 (fun x => if qP9 M p (2 * x) = true then tI9 T.2.2.2 w κ x * rwZ9 T.2.2.1 T.2.2.2 R x i * rwZ9 T.2.2.1 T.2.2.2 R x j else 0) x + (if qP9 M p (2 * x) = true then tI9 T.2.2.2 w κ x * rwZ9 T.2.2.1 T.2.2.2 R x i * rwZ9 T.2.2.1 T.2.2.2 R x j else 0)
          rw [if_pos hxq]
          rfl
        have crs : crG9 T.2.2.2 w (qP9 M p) κ (x + 1) = crG9 T.2.2.2 w (qP9 M p) κ x + (if w (fV9 T.2.2.2 x) = κ then 0 else sgI9 T.2.2.2 x) := by
          show crG9 T.2.2.2 w (qP9 M p) κ x + (if qP9 M p (2 * x) = true then (if w (fV9 T.2.2.2 x) = κ then 0 else sgI9 T.2.2.2 x) else 0) = _
          rw [if_pos hxq]
        refine u_X4_signatureOfPart_2 ?_; unfold cm_X4_signatureOfPart_2
        rw [rn_mul2, mt_x (by omega), nI_1]
        refine w_crI cg_6001 rfl (by omega) g1 (w_crI cg_6003 rfl (by omega) col (w_if (fun hcol => ?_) (fun hcol => ?_)))
        · have hwf : w (fV9 T.2.2.2 x) = κ := cN.mp hcol
          have wa : ws9 w κ (fV9 T.2.2.2 x) = 2 * fV9 T.2.2.2 x := if_pos hwf
          have wb : ws9 w κ (T.2.2.1.2 (fV9 T.2.2.2 x)) = 2 * T.2.2.1.2 (fV9 T.2.2.2 x) + 1 := if_neg (by rw [wpf, hwf]; cases κ <;> decide)
          rw [wa] at RA lA
          rw [wb, p2] at RB lB
          have Ra : R (fV9 T.2.2.2 x) = ρ (φ (2 * fV9 T.2.2.2 x)) := by rw [hRv, wa]
          have Rb : R (T.2.2.1.2 (fV9 T.2.2.2 x)) = ρ (φ (2 * T.2.2.1.2 (mt (fV9 T.2.2.2 x)))) := by rw [hRv, wb, p2]
          refine w_crI (len := 24) rfl rfl (by omega) (pv (mt (fV9 T.2.2.2 x))) ?_
          rw [rn_mul2]
          refine w_crI cg_6001 rfl (by omega) g7 (w_crI cg_6004 rfl (by omega) RA (w_crI cg_6004 rfl (by omega) RB (w_crI (len := 12) rfl rfl (by omega) sgn ?_)))
          have tt : -T.2.2.2 x = iI (tI9 T.2.2.2 w κ x) := by
            unfold tI9
            rw [if_pos hwf]
            unfold sgI9
            rcases hG x hx1 with h9 | h9 <;> rw [h9] <;> rfl
          rw [tt]
          refine w_cs0 (te_addAt hm8 (by omega) (by omega) (tI_pm x) hA) (fun z3 h3 => ?_)
          obtain ⟨h3, h4⟩ := h3
          rw [← Ra, ← Rb] at h4
          refine c3 _ z3 (fr_tr hz h3) ?_ (nxt z3 h4)
          rw [h5, crs, if_pos hwf, Int.add_zero]
        · have hwf : w (fV9 T.2.2.2 x) = !κ := bnot (fun h9 => hcol (cN.mpr h9))
          have wa : ws9 w κ (fV9 T.2.2.2 x) = 2 * fV9 T.2.2.2 x + 1 := if_neg (by rw [hwf]; cases κ <;> decide)
          have wb : ws9 w κ (T.2.2.1.2 (fV9 T.2.2.2 x)) = 2 * T.2.2.1.2 (fV9 T.2.2.2 x) := if_pos (by rw [wpf, hwf, Bool.not_not])
          rw [wa] at RA lA
          rw [wb] at RB lB
          have Ra : R (fV9 T.2.2.2 x) = ρ (φ (2 * fV9 T.2.2.2 x + 1)) := by rw [hRv, wa]
          have Rb : R (T.2.2.1.2 (fV9 T.2.2.2 x)) = ρ (φ (2 * T.2.2.1.2 (fV9 T.2.2.2 x))) := by rw [hRv, wb]
          refine w_crI cg_6001 rfl (by omega) g3 (w_crI (len := 24) rfl rfl (by omega) (pv (fV9 T.2.2.2 x)) ?_)
          rw [rn_mul2]
          refine w_crI cg_6001 rfl (by omega) g5 (w_crI cg_6004 rfl (by omega) RA (w_crI cg_6004 rfl (by omega) RB (w_crI (len := 12) rfl rfl (by omega) sgn ?_)))
          have hne : ¬ w (fV9 T.2.2.2 x) = κ := by rw [hwf]; cases κ <;> decide
          have tt : T.2.2.2 x = iI (tI9 T.2.2.2 w κ x) := by
            unfold tI9
            rw [if_neg hne]
            exact sI
          rw [tt]
          refine w_cs0 (te_addAt hm8 (by omega) (by omega) (tI_pm x) hA) (fun z3 h3 => ?_)
          obtain ⟨h3, h4⟩ := h3
          rw [← Ra, ← Rb] at h4
          have sgn3 : z3.2.1 4003 x = T.2.2.2 x := by
            rw [(h3 4003 (by omega)).2.1]
            exact sgn
          refine w_crI (len := 12) rfl rfl (by omega) sgn3 (c3 _ z3 (fr_tr hz h3) ?_ (nxt z3 h4))
          rw [h5, crs, if_neg hne, ← iI_add, ← sI]
      refine u_X4_signatureOfPart_1 ?_; unfold cm_X4_signatureOfPart_1
      rw [rn_mul2, nI_1]
      refine w_rdF ((zy 4008 (by omega)).1.trans hy.1) (w_leF (by omega) (by omega) (w_crI cg_4006 rfl (by omega) r6 (w_if (fun hq => w_crI (len := 12) rfl rfl (by omega) sgn (w_if (fun hs => ?_) (fun hs => ?_))) (fun hq => ?_))))
      · have e9 : fV9 T.2.2.2 x = 2 * x + 1 := if_neg (fun h9 => by
          rcases hG x hx1 with h8 | h8 <;> rw [h8] at hs h9
          · exact absurd hs (by decide)
          · exact absurd h9 (by decide))
        rw [← e9]
        exact c2 (decide_eq_true hq)
      · have e9 : fV9 T.2.2.2 x = 2 * x := if_pos (by
          rcases hG x hx1 with h8 | h8 <;> rw [h8] at hs ⊢
          · decide
          · exact absurd (by decide) hs)
        rw [← e9]
        exact c2 (decide_eq_true hq)
      · have hxq : ¬ qP9 M p (2 * x) = true := fun h9 => hq (of_decide_eq_true h9)
        refine c3 _ z hz ?_ (fun i j hi hj => ?_)
        · rw [h5]
          show _ = iI (crG9 T.2.2.2 w (qP9 M p) κ x + (if qP9 M p (2 * x) = true then (if w (fV9 T.2.2.2 x) = κ then 0 else sgI9 T.2.2.2 x) else 0))
          rw [if_neg hxq, Int.add_zero]
        · rw [hA i j hi hj]
          refine congrArg Int64.ofInt ?_
          show _ = zS9 (fun x => if qP9 M p (2 * x) = true then tI9 T.2.2.2 w κ x * rwZ9 T.2.2.1 T.2.2.2 R x i * rwZ9 T.2.2.1 T.2.2.2 R x j else 0) x + (if qP9 M p (2 * x) = true then tI9 T.2.2.2 w κ x * rwZ9 T.2.2.1 T.2.2.2 R x i * rwZ9 T.2.2.1 T.2.2.2 R x j else 0)
          rw [if_neg hxq, Int.add_zero]
          rfl
  refine c1 T.1 0 _ z2 (by omega) f2 rfl (fun i j hi hj => ?_)
  exact g2 (8 * i + j) (by omega)
end XSGV
end
section
/-! 99zzzzzzzzzzzzzzzzyzzzf.xsgw -/
/-! signature, the class: the sum over the parts, exactly -/
section XSGW
variable {vl : Nat → Nat} {y : ow_MS} {T : ow_NT} {n P : Nat} {M : Nat → Int32} {φ ψ : Nat → Nat} {w cf : Nat → Bool}
/-- a plane net has faces, colours and parts as they are wanted -/
theorem fcD_of {c : Nat} {S : ow_NP} {G : Nat → Int32} (hv : vn c S) (hc : c ≤ 12) (hw : gaO c S w) (hp : (np_faces c S G).2 = c + 2 * (np_parts c S.1).2) : ∃ ψ cf, fcD9 c S G w (np_faces c S G).2 (np_parts c S.1).2 (np_parts c S.1).1 (fun s => ((np_faces c S G).1 s).toNatClampNeg) ψ cf := by
  obtain ⟨hI, hval⟩ := fp_of hv hc hw hp
  obtain ⟨ψ, e1, e2⟩ := fp_psi hI
  obtain ⟨h1, h2, h3, h4, h5, h6, h7, h8, h9, h10⟩ := hI
  obtain ⟨q1, q2, q3, q4⟩ := parts_I hv hc
  have m1 : mrI (kS w) (4 * c) (4 * c) (np_faces c S G) := mr_out_k (fun a ha => ⟨fc_on_vn hv G ha, ga_on hw hv ha⟩) (fun _ _ => rfl) (by omega) (4 * c) (Nat.le_refl _)
  have mC : mrC (fc_on S G) (4 * c) (np_faces c S G).1 := mr_out_C (fun a ha => fc_on_vn hv G ha) (fun a b ha hb => fc_on_inj hv ha hb) (by omega) (fun k _ => rfl) (4 * c) (Nat.le_refl _)
  have same : ∀ s t, s < 4 * c → t < 4 * c → ((np_faces c S G).1 s).toNatClampNeg = ((np_faces c S G).1 t).toNatClampNeg → kS w s = kS w t := fun s t hs ht e => m1.2.2.2.2 s t hs ht (m1.2.2.1 s hs) (by rw [hval s hs, hval t ht, e])
  have hex : ∀ f, ∃ b : Bool, ∀ s, s < 4 * c → ((np_faces c S G).1 s).toNatClampNeg = f → kS w s = b := fun f => by
    by_cases hs : ∃ s, s < 4 * c ∧ ((np_faces c S G).1 s).toNatClampNeg = f
    · obtain ⟨s, s1, s2⟩ := hs
      exact ⟨kS w s, fun t t1 t2 => same t s t1 s1 (by rw [t2, s2])⟩
    · exact ⟨true, fun s s1 s2 => absurd ⟨s, s1, s2⟩ hs⟩
  refine ⟨ψ, fun f => Classical.choose (hex f), hv, hw, h1, fun s hs => ?_, fun s hs => Classical.choose_spec (hex _) s hs rfl, e1, e2, h4, h7, q1, fun u v hu hvl e => (parts_iff hv hc hu hvl).mp e, h3, h8, h9, h10⟩
  show ((np_faces c S G).1 (fc_on S G s)).toNatClampNeg = _
  rw [mC s hs]
theorem te_sgLoop (hy : cAt y 4000 T) (h : fcD9 T.1 T.2.2.1 T.2.2.2 w n P M φ ψ cf) (hG : ∀ x, x < T.1 → T.2.2.2 x = 1 ∨ T.2.2.2 x = -1) (h11 : y.1 4011 = nI P) (h2 : y.1 6002 = nI n) (hM : ∀ v, v < 2 * T.1 → y.2.1 4006 v = M v) (hφ : ∀ s, s < 4 * T.1 → y.2.1 6001 s = nI (φ s)) : ∀ (d p : Nat) (x : Int32) (z : ow_MS), p + d = P → fr sgL y z → x = iI (zS9 (fun p => vlG9 T.1 T.2.2.1 T.2.2.2 w n M φ ψ cf p) p) → (∀ s q, s < 4 * T.1 → p ≤ q → q < P → M (s / 2) = nI q → z.2.1 6003 (φ s) = -1) → Tt (fun K k => c_X4_signatureOf vl K k 1 x (nI p) 6000 4000 z) (fun r => r.1 = iI (zS9 (fun p => vlG9 T.1 T.2.2.1 T.2.2.2 w n M φ ψ cf p) P) ∧ fr sgL y r.2) := by
  have hv := h.1
  have hw := h.2.1
  have i1 := h.2.2.1
  have ho := h.2.2.2.1
  have i8 : T.1 ≤ 12 := h.2.2.2.2.2.2.2.2.2.2.2.2.1
  have i9 : n ≤ 48 := h.2.2.2.2.2.2.2.2.2.2.2.2.2.1
  have i10 : P ≤ 24 := h.2.2.2.2.2.2.2.2.2.2.2.2.2.2
  intro d
  induction d with
  | zero =>
    intro p x z hp hz hx _
    have hp : p = P := by omega
    refine u_X4_signatureOf_1 ?_; unfold cm_X4_signatureOf_1
    refine w_rdF ((hz 4011 (by unfold sgL; omega)).1.trans h11) (w_leT (by omega) (by omega) (w_some ⟨?_, hz⟩))
    rw [← hp]
    exact hx
  | succ d ih =>
    intro p x z hp hz hx hcol
    have hpP : p < P := by omega
    have zc : cAt z 4000 T := cAt_fr hz (fun g hg h9 => by unfold cP at hg; unfold sgL at h9; omega) hy
    have z2 : z.1 6002 = nI n := (hz 6002 (by unfold sgL; omega)).1.trans h2
    have zφ : ∀ s, s < 4 * T.1 → z.2.1 6001 s = nI (φ s) ∧ φ s < n := fun s hs => ⟨by rw [(hz 6001 (by unfold sgL; omega)).2.1]; exact hφ s hs, i1 s hs⟩
    have zM : ∀ v, v < 2 * T.1 → z.2.1 4006 v = M v := fun v hv => by rw [(hz 4006 (by unfold sgL; omega)).2.1]; exact hM v hv
    obtain ⟨v, v1, v2⟩ := h.2.2.2.2.2.2.2.2.2.2.2.1 p hpP
    obtain ⟨v0, ⟨a1, a2⟩, a3⟩ := lst_ex (p := fun v => v < 2 * T.1 ∧ M v = nI p) v ⟨v1, v2⟩
    -- the colours that the faces get
    have kL : ∀ v, v < 2 * T.1 → cf (φ (2 * v)) = w v ∧ cf (φ (2 * v + 1)) = !w v := fun v hv1 => by
      have k1 := h.2.2.2.2.1 (2 * v) (by omega)
      have k2 := h.2.2.2.2.1 (2 * v + 1) (by omega)
      unfold kS at k1 k2
      rw [if_pos (by omega), show 2 * v / 2 = v by omega] at k1
      rw [if_neg (by omega), show (2 * v + 1) / 2 = v by omega] at k2
      exact ⟨k1.symm, k2.symm⟩
    have fc2 : ∀ f, (fun f => if cf f = w v0 then (0 : Int32) else 1) f = 0 ∨ (fun f => if cf f = w v0 then (0 : Int32) else 1) f = 1 := fun f => by
      dsimp only
      split
      · exact Or.inl rfl
      · exact Or.inr rfl
    refine u_X4_signatureOf_1 ?_; unfold cm_X4_signatureOf_1
    refine w_rdF ((hz 4011 (by unfold sgL; omega)).1.trans h11) (w_leF (by omega) (by omega) (w_cs0 (te_paint (x2 := nI p) (q := qP9 M p) (S := T.2.2.1) (G := T.2.2.2) (fc := fun f => if cf f = w v0 then 0 else 1) (v0 := v0) hv (ptQ_of h p) zc.1 i8 i9 zφ ho (fun v hv1 => ?_) fc2 (fun v hv1 hvq => ?_) a1 (decide_eq_true a2) (fun u hu => ?_) ?_ (fun s hs hsq => hcol s p hs (Nat.le_refl _) hpP (of_decide_eq_true hsq))) ?_))
    · rw [zM v hv1]
      exact ⟨fun h9 => decide_eq_true h9, fun h9 => of_decide_eq_true h9⟩
    · rw [(kL v hv1).1, (kL v hv1).2]
      by_cases h9 : w v = w v0
      · rw [if_pos h9, if_neg (by rw [h9]; cases w v0 <;> decide)]
        rfl
      · rw [if_neg h9, if_pos (by rw [bnot h9, Bool.not_not])]
        rfl
    · exact decide_eq_false (fun h9 => a3 u hu ⟨by omega, h9⟩)
    · rw [(kL v0 a1).1, if_pos rfl]
    rintro z5 ⟨f5, o5, g5⟩
    have f5 : fr (fun g => g = 6003) z z5 := f5
    have g5 : ∀ s, s < 4 * T.1 → qP9 M p (s / 2) = true → z5.2.1 6003 (φ s) = if cf (φ s) = w v0 then 0 else 1 := g5
    have y5 : fr sgL y z5 := fr_tr hz (fr_mono (fun g hg => by unfold sgL; omega) f5)
    have c5 : cAt z5 4000 T := cAt_fr y5 (fun g hg h9 => by unfold cP at hg; unfold sgL at h9; omega) hy
    have t5 : z5.1 6002 = nI n := (y5 6002 (by unfold sgL; omega)).1.trans h2
    have φ5 : ∀ s, s < 4 * T.1 → z5.2.1 6001 s = nI (φ s) ∧ φ s < n := fun s hs => ⟨by rw [(y5 6001 (by unfold sgL; omega)).2.1]; exact hφ s hs, i1 s hs⟩
    have M5 : ∀ v, v < 2 * T.1 → z5.2.1 4006 v = M v := fun v hv => by rw [(y5 4006 (by unfold sgL; omega)).2.1]; exact hM v hv
    have co0 : coI9 z5 T.1 φ cf M p 0 (w v0) := fun s hs hsM => by
      rw [g5 s hs (decide_eq_true hsM)]
      by_cases h9 : cf (φ s) = w v0
      · rw [if_pos h9]
        exact ⟨fun _ => h9, fun _ => rfl⟩
      · rw [if_neg h9]
        exact ⟨fun h8 => absurd h8 (by decide), fun h8 => absurd h8 h9⟩
    have co1 : coI9 z5 T.1 φ cf M p 1 (!w v0) := fun s hs hsM => by
      rw [g5 s hs (decide_eq_true hsM)]
      by_cases h9 : cf (φ s) = w v0
      · rw [if_pos h9]
        exact ⟨fun h8 => absurd h8 (by decide), fun h8 => absurd (h9.symm.trans h8) (by cases w v0 <;> decide)⟩
      · rw [if_neg h9]
        exact ⟨fun _ => bnot h9, fun _ => rfl⟩
    have n0 : cntR z5 T.1 n φ (nI p) 0 = kF9 ψ cf n p (w v0) := nF_cg n (cnt_kF h hpP M5 co0)
    have n1 : cntR z5 T.1 n φ (nI p) 1 = kF9 ψ cf n p (!w v0) := nF_cg n (cnt_kF h hpP M5 co1)
    have eu := eul_p h hpP (w v0)
    have cl := nF_le (fun x => qP9 M p (2 * x)) T.1
    refine w_cs1 (tc_rarer c5.1 i8 t5 i9 φ5) ?_
    rintro x3 z7 ⟨r1, f7⟩
    have f7 : fr (fun g => g = 6004) z5 z7 := f7
    have y7 : fr sgL y z7 := fr_tr y5 (fr_mono (fun g hg => by unfold sgL; omega) f7)
    have c7 : cAt z7 4000 T := cAt_fr y7 (fun g hg h9 => by unfold cP at hg; unfold sgL at h9; omega) hy
    have φ7 : ∀ s, s < 4 * T.1 → z7.2.1 6001 s = nI (φ s) ∧ φ s < n := fun s hs => ⟨by rw [(y7 6001 (by unfold sgL; omega)).2.1]; exact hφ s hs, i1 s hs⟩
    have M7 : ∀ v, v < 2 * T.1 → z7.2.1 4006 v = M v := fun v hv => by rw [(y7 4006 (by unfold sgL; omega)).2.1]; exact hM v hv
    have co7 : ∀ {x : Int32} {κ : Bool}, coI9 z5 T.1 φ cf M p x κ → coI9 z7 T.1 φ cf M p x κ := fun hco s hs hsM => by
      rw [(f7 6003 (by omega)).2.1]
      exact hco s hs hsM
    have tl : ∀ κ, coI9 z7 T.1 φ cf M p x3 κ → kF9 ψ cf n p κ ≤ 9 → Tt (fun K k => cs1 (ce_X4_signatureOfPart vl K 6000 4000 (nI p) x3 z7) fun v10 z9 => c_X4_signatureOf vl K k 1 (x + v10) (nI p + 1) 6000 4000 z9) (fun r => r.1 = iI (zS9 (fun p => vlG9 T.1 T.2.2.1 T.2.2.2 w n M φ ψ cf p) P) ∧ fr sgL y r.2) := by
      intro κ hco hk
      refine w_cs1 (te_sgPart c7 h hpP hG ((y7 6002 (by unfold sgL; omega)).1.trans h2) φ7 M7 hco hk) ?_
      rintro x4 z9 ⟨a4, f9⟩
      have a4 : x4 = _ := a4
      have f9 : fr spP z7 z9 := f9
      have sp : ∀ g, spP g → sgL g ∧ g ≠ 6003 := fun g hg => by
        unfold spP fcP at hg
        unfold sgL
        omega
      rw [nI_1]
      refine ih (p + 1) _ z9 (by omega) (fr_tr y7 (fr_mono (fun g hg => (sp g hg).1) f9)) ?_ (fun s q hs hq hqP hsq => ?_)
      · rw [hx, a4, iI_add]
        rfl
      · rw [(f9 6003 (fun h9 => (sp _ h9).2 rfl)).2.1, (f7 6003 (by omega)).2.1, o5 (φ s) (fun t ht h9 h8 => ?_)]
        · exact hcol s q hs (by omega) hqP hsq
        · have e1 := h.2.2.2.2.2.2.1 t ht
          rw [h8, ← h.2.2.2.2.2.2.1 s hs, hsq, of_decide_eq_true h9] at e1
          have := nI_inj9 (by omega) (by omega) e1
          omega
    dsimp only at r1
    rw [n0, n1] at r1
    rcases r1 with ⟨e, hh⟩ | ⟨e, hh⟩
    · have e : x3 = 0 := e
      exact tl (w v0) (by rw [e]; exact co7 co0) (by omega)
    · have e : x3 = 1 := e
      exact tl (!w v0) (by rw [e]; exact co7 co1) (by omega)
theorem te_sgOf {c ci : Nat} {S : ow_NP} {G : Nat → Int32} (hy : cAt y 4000 (c, ci, S, G)) (hb : ow_b24 S) (hv : vn c S) (hc : c ≤ 12) (hw : gaO c S w) (hG : ∀ x, x < c → G x = 1 ∨ G x = -1) (hp : nt_plane (c, ci, S, G) = true) : Te (fun K => ce_X4_signatureOf vl K 6000 4000 y) (fun r => (∃ n P M φ ψ cf, fcD9 c S G w n P M φ ψ cf ∧ r.1 = iI (zS9 (fun p => vlG9 c S G w n M φ ψ cf p) P)) ∧ fr sgP2 y r.2) := by
  have hp' : (np_faces c S G).2 = c + 2 * (np_parts c S.1).2 := of_decide_eq_true hp
  obtain ⟨hI, hval⟩ := fp_of hv hc hw hp'
  obtain ⟨ψ, cf, hD⟩ := fcD_of hv hc hw hp'
  have hN : ∀ k, k < 2 * c → S.1 k < 2 * c := fun k hk => (hv k hk).1
  refine e_X4_signatureOf ?_
  refine u_X4_signatureOf_0 ?_; unfold cm_X4_signatureOf_0
  refine w_cs0 (tc_markParts nH4 hy hN hc) ?_
  rintro z1 ⟨m1, m2, m3⟩
  have q := np_parts_of (N := S.1) (c := c) hN hc (y.2.1 (4000 + 6))
  have c1 : cAt z1 4000 (c, ci, S, G) := cAt_fr m3 (fun g hg h9 => by unfold cP at hg; unfold cQ at h9; omega) hy
  refine w_cs0 (tc_faces nH4 (Or.inl rfl) (Or.inl (by omega)) c1 hb hv hc) ?_
  rintro z2 ⟨k1, k2, k3⟩
  have q2 := mr_out_rl (fun a ha => fc_on_vn hv G ha) (rl_fill (4 * c) (z1.2.1 (6000 + 1)) (-1)) (4 * c) (Nat.le_refl _)
  dsimp only at m1 m2 k1 k2
  rw [q2.2] at k2
  rw [q.2] at m2
  have hn48 := hI.2.2.2.2.2.2.2.2.1
  have k2' : z2.1 6002 = nI (np_faces c S G).2 := k2
  refine w_rdF k2' (w_cs0 (tc_fill (a := 0) (b := (np_faces c S G).2) cg_6003 (by omega) hn48 (by omega)) ?_)
  rintro z4 ⟨f4, f5⟩
  have c4 : cAt z4 4000 (c, ci, S, G) := cAt_fr f5 (fun g hg h9 => by unfold cP at hg; omega) (cAt_fr k3 (fun g hg h9 => by unfold cP at hg; unfold cF at h9; omega) c1)
  refine w_mono (te_sgLoop (T := (c, ci, S, G)) c4 hD hG ?_ ?_ ?_ ?_ (np_parts c S.1).2 0 0 z4 (by omega) fr_rf rfl ?_) ?_
  · rw [(f5 4011 (by omega)).1, (k3 4011 (by unfold cF; omega)).1]
    exact m2
  · rw [(f5 6002 (by omega)).1]
    exact k2'
  · intro v hv1
    rw [(f5 4006 (by omega)).2.1, (k3 4006 (by unfold cF; omega)).2.1]
    exact (m1 v).trans (q.1 v hv1)
  · intro s hs
    rw [(f5 6001 (by omega)).2.1]
    exact ((k1 s).trans (q2.1 s hs)).trans (hval s hs)
  · intro s r hs _ _ _
    have := hI.1 s hs
    rw [f4, if_pos ⟨Nat.zero_le _, this⟩]
  · intro r hr
    exact ⟨⟨_, _, _, _, _, _, hD, hr.1⟩, fr_tr (fr_tr (fr_tr (fr_mono (fun g hg => Or.inl hg) m3) (fr_mono (fun g hg => Or.inr (by unfold cF at hg; omega)) k3)) (fr_mono (fun g hg => Or.inr (by omega)) f5)) (fr_mono (fun g hg => Or.inr (by unfold sgL at hg; omega)) hr.2)⟩
end XSGW
end
section
/-! 99zzzzzzzzzzzzzzzzyzzzg.xsgx -/
/-! signature: the reference's faces number the class's -/
section XSGX
variable {A : rn_L} {sg : Nat → Bool} {T : ow_NT} {n P : Nat} {M : Nat → Int32} {φ ψ : Nat → Nat} {w cf : Nat → Bool}
theorem nF_fil (q : Nat → Bool) : ∀ n, nF q n = ((List.range n).filter q).length := by
  intro n
  induction n with
  | zero => rfl
  | succ n ih =>
    show nF q n + (if q n = true then 1 else 0) = _
    rw [List.range_succ, List.filter_append, List.length_append, ← ih]
    by_cases h : q n = true
    · rw [if_pos h, List.filter_cons_of_pos h]
      rfl
    · rw [if_neg h, List.filter_cons_of_neg h]
      rfl
theorem nF_map {q r : Nat → Bool} {n m : Nat} (g : Nat → Nat) (h1 : ∀ a, a < n → q a = true → g a < m ∧ r (g a) = true) (h2 : ∀ a b, a < n → b < n → q a = true → q b = true → g a = g b → a = b) : nF q n ≤ nF r m := by
  rw [nF_fil, nF_fil]
  have := nodup_le (((List.range n).filter q).map g) ((List.range m).filter r) (nodup_map (List.nodup_range.filter _) (fun x y hx hy e => by
    obtain ⟨x1, x2⟩ := List.mem_filter.mp hx
    obtain ⟨y1, y2⟩ := List.mem_filter.mp hy
    exact h2 x y (List.mem_range.mp x1) (List.mem_range.mp y1) x2 y2 e)) (fun b hb => by
    obtain ⟨a, a1, a2⟩ := List.mem_map.mp hb
    obtain ⟨x1, x2⟩ := List.mem_filter.mp a1
    obtain ⟨u1, u2⟩ := h1 a (List.mem_range.mp x1) x2
    rw [← a2]
    exact List.mem_filter.mpr ⟨List.mem_range.mpr u1, u2⟩)
  rw [List.length_map] at this
  exact this
theorem ps_h (s : Nat) : psS A s / 2 = lbv A idN (s / 2) := by
  unfold psS
  omega
theorem ref_nb (h : fcD9 T.1 T.2.2.1 T.2.2.2 w n P M φ ψ cf) (hV : isoV A sg idN T) (hp1 : pm1 T) {p F : Nat} (hp : p < P) {κ : Bool} {fl : Nat → Nat} {wh qA : Nat → Bool} (hqA : ∀ v, v < A.flatten.length → qA v = qP9 M p (lbv A idN v)) (hF : ∀ s, s < 2 * A.flatten.length → fl s < F) (hfl : ∀ s, s < 2 * A.flatten.length → fl (phi A sg s) = fl s) (hfi : ∀ s t, s < 2 * A.flatten.length → t < 2 * A.flatten.length → fl s = fl t → φ (psS A s) = φ (psS A t)) (hw1 : ∀ s, s < 2 * A.flatten.length → qA (s / 2) = true → (wh (fl s) = true ↔ kS w (psS A s) = κ)) (hw2 : ∀ f, f < F → wh f = true → ∃ s, s < 2 * A.flatten.length ∧ qA (s / 2) = true ∧ kS w (psS A s) = κ ∧ fl s = f) : ∃ R : Nat → Nat, nbG9 T.1 T.2.2.1 T.2.2.2 w (qP9 M p) κ R (kF9 ψ cf n p κ) ∧ nF wh F = kF9 ψ cf n p κ ∧ ∀ s, s < 2 * A.flatten.length → qA (s / 2) = true → kS w (psS A s) = κ → R (lbv A idN (s / 2)) = nF wh (fl s) := by
  have hv := h.1
  have hw := h.2.1
  have hd := wkF_ok (isoS_iff.mp hV.1).1
  obtain ⟨isd, hisd⟩ : ∃ isd : Nat → Nat, ∀ a, a < 4 * T.1 → isd a < 2 * A.flatten.length ∧ psS A (isd a) = a := by
    refine Classical.axiomOfChoice (r := fun a s => a < 4 * T.1 → s < 2 * A.flatten.length ∧ psS A s = a) (fun a => ?_)
    by_cases ha : a < 4 * T.1
    · obtain ⟨s, s1, s2⟩ := ps_sur hV ha
      exact ⟨s, fun _ => ⟨s1, s2⟩⟩
    · exact ⟨0, fun h9 => absurd h9 ha⟩
  have back : ∀ s, s < 2 * A.flatten.length → isd (psS A s) = s := fun s hs => by
    obtain ⟨a1, a2⟩ := hisd _ (ps_lt hV hs)
    exact ps_inj hV a1 hs a2
  have on9 : ∀ a, a < 4 * T.1 → (fun a => fl (isd a)) (fc_on T.2.2.1 T.2.2.2 a) = (fun a => fl (isd a)) a := fun a ha => by
    obtain ⟨a1, a2⟩ := hisd a ha
    have e := ps_on hV hp1 a1
    rw [a2] at e
    have hl := phi_lt (sg := sg) hd a1
    show fl (isd (fc_on T.2.2.1 T.2.2.2 a)) = fl (isd a)
    rw [e, back _ hl, hfl _ a1]
  have qv : ∀ v, v < 2 * T.1 → ∀ κ', qA (isd (ws9 w κ' v) / 2) = qP9 M p v ∧ kS w (psS A (isd (ws9 w κ' v))) = κ' ∧ isd (ws9 w κ' v) < 2 * A.flatten.length := fun v hv1 κ' => by
    obtain ⟨b1, b2, b3⟩ := ws_k (w := w) κ' v
    obtain ⟨a1, a2⟩ := hisd (ws9 w κ' v) (by omega)
    refine ⟨?_, by rw [a2]; exact b1, a1⟩
    rw [hqA _ (by omega), ← ps_h, a2, b2]
  have nb := nb_of (G := T.2.2.2) (φ := fun a => fl (isd a)) (q := qP9 M p) (κ := κ) (ρ := fun f => nF wh f) (k := nF wh F) hv hw on9 (fun v hv1 hq => by
    obtain ⟨c1, c2, c3⟩ := qv v hv1 κ
    have := (hw1 _ c3 (by rw [c1]; exact hq)).mpr c2
    exact nF_lt (hF _ c3) this) (fun j hj => by
    obtain ⟨f, f1, f2, f3⟩ := nF_sur hj
    obtain ⟨s, s1, s2, s3, s4⟩ := hw2 f f1 f2
    have e1 : psS A s = ws9 w κ (lbv A idN (s / 2)) := by
      have := ws_of s3
      rw [ps_h] at this
      exact this
    have hl := lbv_lt (isoS_iff.mp hV.1) (v := s / 2) (by omega)
    refine ⟨lbv A idN (s / 2), hl, ?_, ?_⟩
    · rw [← hqA _ (by omega)]
      exact s2
    · show nF wh (fl (isd (ws9 w κ (lbv A idN (s / 2))))) = j
      rw [← e1, back s s1, s4]
      exact f3)
  obtain ⟨v0, v1, v2⟩ := h.2.2.2.2.2.2.2.2.2.2.2.1 p hp
  have k1 : 1 ≤ nF wh F := by
    obtain ⟨c1, c2, c3⟩ := qv v0 v1 κ
    exact nF_pos ((hw1 _ c3 (by rw [c1]; exact decide_eq_true v2)).mpr c2) F (hF _ c3)
  have le1 := eul_G hv hw (ptQ_of h p) k1 (kF_pos h hp (!κ)) nb (nb_can h hp (!κ))
  have eu := eul_p h hp κ
  -- as many faces
  have le2 : kF9 ψ cf n p κ ≤ nF wh F := by
    obtain ⟨vv, hvv⟩ : ∃ vv : Nat → Nat, ∀ f, f < n → qF9 ψ cf p κ f = true → vv f < 2 * T.1 ∧ qP9 M p (vv f) = true ∧ φ (ws9 w κ (vv f)) = f := by
      refine Classical.axiomOfChoice (r := fun f v => f < n → qF9 ψ cf p κ f = true → v < 2 * T.1 ∧ qP9 M p v = true ∧ φ (ws9 w κ v) = f) (fun f => ?_)
      by_cases hf : f < n ∧ qF9 ψ cf p κ f = true
      · obtain ⟨v, a⟩ := fc_of h hf.1 hf.2
        exact ⟨v, fun _ _ => a⟩
      · exact ⟨0, fun a b => absurd ⟨a, b⟩ hf⟩
    refine nF_map (fun f => fl (isd (ws9 w κ (vv f)))) (fun f hf hq => ?_) (fun f g hf hg qf qg e => ?_)
    · obtain ⟨a1, a2, a3⟩ := hvv f hf hq
      obtain ⟨c1, c2, c3⟩ := qv _ a1 κ
      exact ⟨hF _ c3, (hw1 _ c3 (by rw [c1]; exact a2)).mpr c2⟩
    · obtain ⟨a1, a2, a3⟩ := hvv f hf qf
      obtain ⟨b1, b2, b3⟩ := hvv g hg qg
      obtain ⟨c1, c2, c3⟩ := qv _ a1 κ
      obtain ⟨d1, d2, d3⟩ := qv _ b1 κ
      have e2 := hfi _ _ c3 d3 e
      obtain ⟨u1, u2, u3⟩ := ws_k (w := w) κ (vv f)
      obtain ⟨x1, x2, x3⟩ := ws_k (w := w) κ (vv g)
      rw [(hisd _ (by omega)).2, (hisd _ (by omega)).2, a3, b3] at e2
      exact e2
  have ek : nF wh F = kF9 ψ cf n p κ := by omega
  rw [ek] at nb
  refine ⟨_, nb, ek, fun s hs hsq hsk => ?_⟩
  have e1 : psS A s = ws9 w κ (lbv A idN (s / 2)) := by
    have := ws_of hsk
    rw [ps_h] at this
    exact this
  show nF wh (fl (isd (ws9 w κ (lbv A idN (s / 2))))) = _
  rw [← e1, back s hs]
end XSGX
end
section
/-! 99zzzzzzzzzzzzzzzzyzzzh.xsgy -/
/-! signature, the reference: faces are coloured, exactly -/
section XSGY
variable {z : ow_MS}
theorem xr_colour {n F P p v0 c : Nat} {A : rn_L} {sg : Nat → Bool} {fl : Nat → Nat} {cb wh : Nat → Bool} (hn : mw_net n) (hok : okF A.flatten c) (hc : c ≤ 12) (hI : fcI z n A sg F P) (hp : p < P) (hv0 : inP A (z.2.1 (n + 12)) p v0) (hfl : ∀ s, s < 2 * A.flatten.length → z.2.1 (n + 14) s = nI (fl s) ∧ fl s < F) (hcb : ∀ v, inP A (z.2.1 (n + 12)) p v → cb (fl (2 * v)) = !cb (fl (2 * v + 1))) (hall : ∀ K : Nat → Prop, (∀ v, inP A (z.2.1 (n + 12)) p v → (K (fl (2 * v)) ↔ K (fl (2 * v + 1)))) → K (fl (2 * v0)) → ∀ v, inP A (z.2.1 (n + 12)) p v → K (fl (2 * v)) ∧ K (fl (2 * v + 1))) (hwh : ∀ f, f < F → (wh f = true ↔ ∃ s, inP A (z.2.1 (n + 12)) p (s / 2) ∧ fl s = f ∧ cb f = cb (fl (2 * v0)))) (hk : nF wh F ≤ 16) : Te (fun K => qe_X13_colourFaces K n (nI v0) z) (fun r => r.1 = nI (nF wh F) ∧ fr (fun g => g = 52 ∨ g = 53) z r.2 ∧ (∀ s, inP A (z.2.1 (n + 12)) p (s / 2) → r.2.2.1 52 (fl s) = if cb (fl s) = cb (fl (2 * v0)) then 1 else 2) ∧ ∀ f, f < F → wh f = true → r.2.2.1 53 f = nI (nF wh f)) := by
  have hV := okF_len hok
  have hmn := net_mod hn
  have hd := wkF_ok hI.1.wk
  have hC := hI.1.2.2.2
  obtain ⟨q1, q2, q3, q4⟩ := hI.2.1
  have F80 : F ≤ 80 := by omega
  have hv0l := hv0.1
  let Q : Int32 × ow_MS → Prop := fun r => r.1 = nI (nF wh F) ∧ fr (fun g => g = 52 ∨ g = 53) z r.2 ∧ (∀ s, inP A (z.2.1 (n + 12)) p (s / 2) → r.2.2.1 52 (fl s) = if cb (fl s) = cb (fl (2 * v0)) then 1 else 2) ∧ ∀ f, f < F → wh f = true → r.2.2.1 53 f = nI (nF wh f)
  have iF : ∀ {y : ow_MS}, fr (fun g => g = 52 ∨ g = 53) z y → fcI y n A sg F P := fun hf => fcI_fr hn hf (fun g hg => by omega) hI
  have e14 : ∀ {y : ow_MS}, fr (fun g => g = 52 ∨ g = 53) z y → y.2.1 (n + 14) = z.2.1 (n + 14) := fun hf => (hf (n + 14) (by omega)).2.1
  have e12 : ∀ {y : ow_MS}, fr (fun g => g = 52 ∨ g = 53) z y → y.2.1 (n + 12) = z.2.1 (n + 12) := fun hf => (hf (n + 12) (by omega)).2.1
  let co : Nat → Int32 := fun f => if cb f = cb (fl (2 * v0)) then 1 else 2
  have coD : ∀ f, co f = if cb f = cb (fl (2 * v0)) then 1 else 2 := fun f => rfl
  have co0 : ∀ f, co f ≠ 0 := fun f h => by
    rw [coD] at h
    split at h <;> exact absurd h (by decide)
  -- the colours so far
  let cI : ow_MS → Prop := fun y => (∀ f, f < 80 → y.2.1 52 f = 0 ∨ (∃ s, inP A (z.2.1 (n + 12)) p (s / 2) ∧ fl s = f) ∧ y.2.1 52 f = co f) ∧ y.2.1 52 (fl (2 * v0)) = 1
  -- all painted: the white ones are just wh
  let cE : ow_MS → Prop := fun y => (∀ s, inP A (z.2.1 (n + 12)) p (s / 2) → y.2.1 52 (fl s) = co (fl s)) ∧ ∀ f, f < F → (y.2.1 52 f = 1 ↔ wh f = true)
  have ends : ∀ y, cI y → (∀ v, inP A (z.2.1 (n + 12)) p v → (y.2.1 52 (fl (2 * v)) ≠ 0 ↔ y.2.1 52 (fl (2 * v + 1)) ≠ 0)) → cE y := by
    intro y hcl hst
    have a := hall (fun f => y.2.1 52 f ≠ 0) hst (by rw [hcl.2]; decide)
    have b : ∀ s, inP A (z.2.1 (n + 12)) p (s / 2) → y.2.1 52 (fl s) = co (fl s) := fun s hs => by
      have hsl := hs.1
      have f9 := (hfl s (by omega)).2
      have ne : y.2.1 52 (fl s) ≠ 0 := by
        have := a (s / 2) hs
        by_cases h2 : s % 2 = 0
        · rw [show 2 * (s / 2) = s by omega] at this
          exact this.1
        · rw [show 2 * (s / 2) + 1 = s by omega] at this
          exact this.2
      exact ((hcl.1 (fl s) (by omega)).resolve_left ne).2
    refine ⟨b, fun f hf => ⟨fun h1 => ?_, fun h1 => ?_⟩⟩
    · rcases hcl.1 f (by omega) with h9 | ⟨⟨s, s1, s2⟩, h9⟩
      · rw [h1] at h9
        exact absurd h9 (by decide)
      · refine (hwh f hf).mpr ⟨s, s1, s2, ?_⟩
        rw [h1, coD] at h9
        by_cases h8 : cb f = cb (fl (2 * v0))
        · exact h8
        · rw [if_neg h8] at h9
          exact absurd h9 (by decide)
    · obtain ⟨s, s1, s2, s3⟩ := (hwh f hf).mp h1
      have := b s s1
      rw [s2, coD, if_pos s3] at this
      exact this
  have c8 : ∀ (d f : Nat) (x3 x4 : Int32) (y : ow_MS), f + d = F → fr (fun g => g = 52 ∨ g = 53) z y → cE y → (∀ g, g < f → wh g = true → y.2.1 53 g = nI (nF wh g)) → Tt (fun K i => q_X13_colourFaces K i 8 (nI v0) x3 x4 (nI (nF wh f)) (nI f) 0 n 0 0 y) Q := by
    intro d
    induction d with
    | zero =>
      intro f x3 x4 y hfF hf hcl hw
      have hfF : f = F := by omega
      subst hfF
      refine u_X13_colourFaces_8 ?_; unfold qm_X13_colourFaces_8
      exact w_rdF (iF hf).2.1.1 (w_leT (by omega) (by omega) (w_some ⟨rfl, hf, hcl.1, hw⟩))
    | succ d ih =>
      intro f x3 x4 y hfF hf hcl hw
      have hs : nF wh (f + 1) = nF wh f + if wh f = true then 1 else 0 := rfl
      refine u_X13_colourFaces_8 ?_; unfold qm_X13_colourFaces_8
      refine w_rdF (iF hf).2.1.1 (w_leF (by omega) (by omega) (w_rdI ml52 rfl (by omega) rfl (w_if (fun h9 => w_wrI ml53 rfl (by omega) ?_) (fun h9 => ?_))))
      · have hq := (hcl.2 f (by omega)).mp h9
        rw [if_pos hq] at hs
        refine u_X13_colourFaces_9 ?_; unfold qm_X13_colourFaces_9
        rw [nI_1, nI_1, ← hs]
        refine ih (f + 1) x3 x4 (usI y 53 f _) (by omega) (fr_I2 hf (Or.inr rfl)) ⟨fun s hsP => rd_ot (by omega) (hcl.1 s hsP), fun g hg => ?_⟩ (fun g hg hgw => ?_)
        · rw [po_usI_ot (by omega)]
          exact hcl.2 g hg
        · by_cases h8 : g = f
          · rw [h8]
            exact po_usI_at
          · rw [po_usI_ne h8]
            exact hw g (by omega) hgw
      · have hq : ¬ wh f = true := fun h8 => h9 ((hcl.2 f (by omega)).mpr h8)
        rw [if_neg hq, Nat.add_zero] at hs
        refine u_X13_colourFaces_9 ?_; unfold qm_X13_colourFaces_9
        rw [nI_1]
        have := ih (f + 1) x3 x4 y (by omega) hf hcl (fun g hg hgw => by
          by_cases h8 : g = f
          · rw [h8] at hgw
            exact absurd hgw hq
          · exact hw g (by omega) hgw)
        rw [hs] at this
        exact this
  have hfm : ∀ {y : ow_MS}, fr (fun g => g = 52) z y → fr (fun g => g = 52 ∨ g = 53) z y := fun h => fr_mono (fun g hg => Or.inl hg) h
  have c2 : ∀ (m : Nat) (x4 : Int32) (y : ow_MS), zeC y ≤ m → fr (fun g => g = 52) z y → cI y → x4 = 1 → Tt (fun K i => q_X13_colourFaces K i 2 (nI v0) (nI p) x4 0 0 0 n 0 0 y) Q := by
    intro m
    induction m using Nat.strongRecOn with
    | ind m ih =>
    intro x4 y hm hf hcl hx4
    have pass : ∀ (d g : Nat) (x4 : Int32) (y1 : ow_MS), g + d = A.flatten.length → fr (fun g => g = 52) z y1 → cI y1 → (x4 = 0 ∧ (∀ u, u < g → inP A (z.2.1 (n + 12)) p u → (y1.2.1 52 (fl (2 * u)) ≠ 0 ↔ y1.2.1 52 (fl (2 * u + 1)) ≠ 0)) ∨ x4 = 1 ∧ zeC y1 < zeC y) → zeC y1 ≤ zeC y → Tt (fun K i => q_X13_colourFaces K i 3 (nI v0) (nI p) x4 (nI g) 0 0 n 0 0 y1) Q := by
      intro d
      induction d with
      | zero =>
        intro g x4 y1 hg hf hcl h4 hz
        refine u_X13_colourFaces_3 ?_; unfold qm_X13_colourFaces_3
        refine w_rdF (iF (hfm hf)).1.1.V (w_leT (by omega) (by omega) ?_)
        rcases h4 with ⟨h4, h6⟩ | ⟨h4, h5⟩
        · rw [h4]
          refine u_X13_colourFaces_2 ?_; unfold qm_X13_colourFaces_2
          exact w_ifT rfl (c8 F 0 _ _ y1 (by omega) (hfm hf) (ends y1 hcl (fun v hv => h6 v (by have := hv.1; omega) hv)) (fun g hg => absurd hg (by omega)))
        · exact ih (zeC y1) (by omega) x4 y1 (Nat.le_refl _) hf hcl h4
      | succ d ihp =>
        intro g x4 y1 hg hf hcl h4 hz
        have hgl : g < A.flatten.length := by omega
        have hcc := (rn_c_in A g hgl).1
        have hI1 := iF (hfm hf)
        obtain ⟨el, hll⟩ := hfl (2 * g) (by omega)
        obtain ⟨er, hrl⟩ := hfl (2 * g + 1) (by omega)
        have efl : y1.2.1 (n + 14) (2 * g) = nI (fl (2 * g)) := by rw [e14 (hfm hf)]; exact el
        have efr : y1.2.1 (n + 14) (2 * g + 1) = nI (fl (2 * g + 1)) := by rw [e14 (hfm hf)]; exact er
        have c7 : ∀ (x4 x6 x7 : Int32) (y1 : ow_MS), fr (fun g => g = 52) z y1 → cI y1 → (x4 = 0 ∧ (∀ u, u < g + 1 → inP A (z.2.1 (n + 12)) p u → (y1.2.1 52 (fl (2 * u)) ≠ 0 ↔ y1.2.1 52 (fl (2 * u + 1)) ≠ 0)) ∨ x4 = 1 ∧ zeC y1 < zeC y) → zeC y1 ≤ zeC y → Tt (fun K i => q_X13_colourFaces K i 7 (nI v0) (nI p) x4 (nI g) x6 x7 n 0 0 y1) Q := by
          intro x4 x6 x7 y1 hf hcl h4 hz
          refine u_X13_colourFaces_7 ?_; unfold qm_X13_colourFaces_7
          rw [nI_1]
          exact ihp (g + 1) x4 y1 (by omega) hf hcl h4 hz
        -- a face gets its colour
        have put : ∀ (f : Nat) (s : Nat), f < 80 → y1.2.1 52 f = 0 → inP A (z.2.1 (n + 12)) p (s / 2) → fl s = f → cI (usI y1 52 f (co f)) ∧ zeC (usI y1 52 f (co f)) < zeC y := by
          intro f s hf80 h0 hs1 hs2
          refine ⟨⟨fun f' hf' => ?_, ?_⟩, Nat.lt_of_lt_of_le (zeC_lt hf80 h0 (co0 f)) hz⟩
          · by_cases hff : f' = f
            · rw [hff]
              exact Or.inr ⟨⟨s, hs1, hs2⟩, po_usI_at⟩
            · rw [po_usI_ne hff]
              exact hcl.1 f' hf'
          · have hff : fl (2 * v0) ≠ f := fun e => by
              rw [← e, hcl.2] at h0
              exact absurd h0 (by decide)
            exact rd_ne hff hcl.2
        have stay : inP A (z.2.1 (n + 12)) p g ∨ ¬ inP A (z.2.1 (n + 12)) p g := Classical.em _
        refine u_X13_colourFaces_3 ?_; unfold qm_X13_colourFaces_3
        rw [show (2 : Int32) * nI g = nI (2 * g) from rn_mul2, show nI (2 * g) + 1 = nI (2 * g + 1) from nI_1 _]
        refine w_rdF hI1.1.1.V (w_leF (by omega) hgl (w_rdI (pl14 hn) rfl (by omega) efl (w_rdI (pl14 hn) rfl (by omega) efr (w_rdI (pl8 hn) rfl (by omega) (lk_c hI1.1.1 hgl) (w_rdI (pl12 hn) rfl (by omega) rfl (w_if (fun hpp => ?_) (fun hpp => ?_)))))))
        · rw [e12 (hfm hf)] at hpp
          have hgP : inP A (z.2.1 (n + 12)) p g := ⟨hgl, hpp⟩
          have opp : cb (fl (2 * g)) = !cb (fl (2 * g + 1)) := hcb g hgP
          have c3a : ∀ a b : Bool, ∀ k : Bool, a = !b → (3 : Int32) - (if b = k then 1 else 2) = if a = k then 1 else 2 := by decide
          have colL : (3 : Int32) - co (fl (2 * g + 1)) = co (fl (2 * g)) := c3a _ _ _ opp
          have colR : (3 : Int32) - co (fl (2 * g)) = co (fl (2 * g + 1)) := c3a _ _ _ (by rw [opp, Bool.not_not])
          have c5 : ∀ (t0 t1 : Int32), (t1 = if y1.2.1 52 (fl (2 * g)) = 0 then 1 else 0) → (t0 = if y1.2.1 52 (fl (2 * g + 1)) = 0 then 1 else 0) → Tt (fun K i => q_X13_colourFaces K i 5 (nI v0) (nI p) x4 (nI g) (nI (fl (2 * g))) (nI (fl (2 * g + 1))) n t0 t1 y1) Q := by
            intro t0 t1 ht1 ht0
            refine u_X13_colourFaces_5 ?_; unfold qm_X13_colourFaces_5
            refine w_if (fun he => ?_) (fun hne => w_rdI ml52 rfl (by omega) rfl (w_if (fun hl0 => ?_) (fun hl0 => ?_)))
            · have ev : y1.2.1 52 (fl (2 * g)) ≠ 0 ↔ y1.2.1 52 (fl (2 * g + 1)) ≠ 0 := by
                rw [ht1, ht0] at he
                by_cases h1 : y1.2.1 52 (fl (2 * g)) = 0 <;> by_cases h2 : y1.2.1 52 (fl (2 * g + 1)) = 0
                · exact ⟨fun h => absurd h1 h, fun h => absurd h2 h⟩
                · rw [if_pos h1, if_neg h2] at he
                  exact absurd he (by decide)
                · rw [if_neg h1, if_pos h2] at he
                  exact absurd he (by decide)
                · exact ⟨fun _ => h2, fun _ => h1⟩
              refine c7 _ _ _ y1 hf hcl ?_ hz
              rcases h4 with ⟨h4, h6⟩ | h4
              · refine Or.inl ⟨h4, fun u hu huP => ?_⟩
                by_cases h8 : u = g
                · rw [h8]
                  exact ev
                · exact h6 u (by omega) huP
              · exact Or.inr h4
            · have hr0 : y1.2.1 52 (fl (2 * g + 1)) ≠ 0 := fun e => hne (by rw [ht1, ht0, if_pos hl0, if_pos e])
              have hr1 := ((hcl.1 _ (by omega)).resolve_left hr0).2
              obtain ⟨k1, k2⟩ := put (fl (2 * g)) (2 * g) (by omega) hl0 (by rw [show 2 * g / 2 = g by omega]; exact hgP) rfl
              refine w_rdI ml52 rfl (by omega) hr1 ?_
              rw [colL]
              refine w_wrI ml52 rfl (by omega) ?_
              refine u_X13_colourFaces_6 ?_; unfold qm_X13_colourFaces_6
              exact c7 1 _ _ _ (fr_I2 hf rfl) k1 (Or.inr ⟨rfl, k2⟩) (Nat.le_of_lt k2)
            · have hr0 : y1.2.1 52 (fl (2 * g + 1)) = 0 := Classical.byContradiction (fun e => hne (by rw [ht1, ht0, if_neg hl0, if_neg e]))
              have hl1 := ((hcl.1 _ (by omega)).resolve_left hl0).2
              obtain ⟨k1, k2⟩ := put (fl (2 * g + 1)) (2 * g + 1) (by omega) hr0 (by rw [show (2 * g + 1) / 2 = g by omega]; exact hgP) rfl
              refine w_rdI ml52 rfl (by omega) hl1 ?_
              rw [colR]
              refine w_wrI ml52 rfl (by omega) ?_
              refine u_X13_colourFaces_6 ?_; unfold qm_X13_colourFaces_6
              exact c7 1 _ _ _ (fr_I2 hf rfl) k1 (Or.inr ⟨rfl, k2⟩) (Nat.le_of_lt k2)
          have c4 : ∀ (t0 : Int32), (t0 = if y1.2.1 52 (fl (2 * g)) = 0 then 1 else 0) → Tt (fun K i => q_X13_colourFaces K i 4 (nI v0) (nI p) x4 (nI g) (nI (fl (2 * g))) (nI (fl (2 * g + 1))) n t0 0 y1) Q := by
            intro t0 ht0
            refine u_X13_colourFaces_4 ?_; unfold qm_X13_colourFaces_4
            exact w_rdI ml52 rfl (by omega) rfl (w_if (fun h9 => c5 _ _ ht0 (if_pos h9).symm) (fun h9 => c5 _ _ ht0 (if_neg h9).symm))
          exact w_rdI ml52 rfl (by omega) rfl (w_if (fun h9 => c4 _ (if_pos h9).symm) (fun h9 => c4 _ (if_neg h9).symm))
        · rw [e12 (hfm hf)] at hpp
          refine c7 _ _ _ y1 hf hcl ?_ hz
          rcases h4 with ⟨h4, h6⟩ | h4
          · refine Or.inl ⟨h4, fun u hu huP => ?_⟩
            by_cases h8 : u = g
            · rw [h8] at huP
              exact absurd huP.2 hpp
            · exact h6 u (by omega) huP
          · exact Or.inr h4
    rw [hx4]
    refine u_X13_colourFaces_2 ?_; unfold qm_X13_colourFaces_2
    exact w_ifF (by decide) (pass A.flatten.length 0 0 y (by omega) hf hcl (Or.inl ⟨rfl, fun u hu => absurd hu (by omega)⟩) (Nat.le_refl _))
  have c1 : ∀ (d i : Nat) (y : ow_MS), i + d = 80 → fr (fun g => g = 52) z y → (∀ f, f < i → y.2.1 52 f = 0) → Tt (fun K t => q_X13_colourFaces K t 1 (nI v0) (nI p) (nI i) 0 0 0 n 0 0 y) Q := by
    intro d
    induction d with
    | zero =>
      intro i y hi hf h0
      have e14' : y.2.1 (n + 14) = z.2.1 (n + 14) := (hf (n + 14) (by omega)).2.1
      obtain ⟨ef0, hf0⟩ := hfl (2 * v0) (by omega)
      refine u_X13_colourFaces_1 ?_; unfold qm_X13_colourFaces_1
      rw [show (2 : Int32) * nI v0 = nI (2 * v0) from rn_mul2]
      refine w_leT (a := 80) (by omega) (by omega) (w_rdI (pl14 hn) rfl (by omega) (by rw [e14']; exact ef0) (w_wrI ml52 rfl (by omega) (c2 _ 1 _ (Nat.le_refl _) (fr_I2 hf rfl) ⟨fun f hf80 => ?_, po_usI_at⟩ rfl)))
      by_cases hff : f = fl (2 * v0)
      · rw [hff]
        refine Or.inr ⟨⟨2 * v0, by rw [show 2 * v0 / 2 = v0 by omega]; exact hv0, rfl⟩, ?_⟩
        rw [po_usI_at, coD, if_pos rfl]
      · exact Or.inl (rd_ne hff (h0 f (by omega)))
    | succ d ih =>
      intro i y hi hf h0
      refine u_X13_colourFaces_1 ?_; unfold qm_X13_colourFaces_1
      rw [nI_1]
      refine w_leF (a := 80) (by omega) (by omega) (w_wrI ml52 rfl (by omega) (ih (i + 1) _ (by omega) (fr_I2 hf rfl) (fun f h9 => ?_)))
      by_cases hfi : f = i
      · rw [hfi, po_usI_at]
      · exact rd_ne hfi (h0 f (by omega))
  have hcc0 := (rn_c_in A v0 hv0l).1
  refine e_X13_colourFaces ?_
  refine u_X13_colourFaces_0 ?_; unfold qm_X13_colourFaces_0
  exact w_rdI (pl8 hn) rfl (by omega) (lk_c hI.1.1 hv0.1) (w_rdI (pl12 hn) rfl (by omega) hv0.2 (c1 80 0 z (by omega) fr_rf (fun f hf => absurd hf (by omega))))
end XSGY
end
