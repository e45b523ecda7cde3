/-! signature, the reference: faces are coloured, exactly -/
section XSGY
variable {z : ow_MS}
theorem xr_colour {n F P p v0 c : Nat} {A : rn_L} {sg : Nat → Bool} {fl : Nat → Nat} {cb wh : Nat → Bool} (hn : mw_net n) (hok : okF A.flatten c) (hc : c ≤ 12) (hI : fcI z n A sg F P) (hp : p < P) (hv0 : inP A (z.2.1 (n + 12)) p v0) (hfl : ∀ s, s < 2 * A.flatten.length → z.2.1 (n + 14) s = nI (fl s) ∧ fl s < F) (hcb : ∀ v, inP A (z.2.1 (n + 12)) p v → cb (fl (2 * v)) = !cb (fl (2 * v + 1))) (hall : ∀ K : Nat → Prop, (∀ v, inP A (z.2.1 (n + 12)) p v → (K (fl (2 * v)) ↔ K (fl (2 * v + 1)))) → K (fl (2 * v0)) → ∀ v, inP A (z.2.1 (n + 12)) p v → K (fl (2 * v)) ∧ K (fl (2 * v + 1))) (hwh : ∀ f, f < F → (wh f = true ↔ ∃ s, inP A (z.2.1 (n + 12)) p (s / 2) ∧ fl s = f ∧ cb f = cb (fl (2 * v0)))) (hk : nF wh F ≤ 16) : Te (fun K => qe_X13_colourFaces K n (nI v0) z) (fun r => r.1 = nI (nF wh F) ∧ fr (fun g => g = 52 ∨ g = 53) z r.2 ∧ (∀ s, inP A (z.2.1 (n + 12)) p (s / 2) → r.2.2.1 52 (fl s) = if cb (fl s) = cb (fl (2 * v0)) then 1 else 2) ∧ ∀ f, f < F → wh f = true → r.2.2.1 53 f = nI (nF wh f)) := by
  have hV := okF_len hok
  have hmn := net_mod hn
  have hd := wkF_ok hI.1.wk
  have hC := hI.1.2.2.2
  obtain ⟨q1, q2, q3, q4⟩ := hI.2.1
  have F80 : F ≤ 80 := by omega
  have hv0l := hv0.1
  let Q : Int32 × ow_MS → Prop := fun r => r.1 = nI (nF wh F) ∧ fr (fun g => g = 52 ∨ g = 53) z r.2 ∧ (∀ s, inP A (z.2.1 (n + 12)) p (s / 2) → r.2.2.1 52 (fl s) = if cb (fl s) = cb (fl (2 * v0)) then 1 else 2) ∧ ∀ f, f < F → wh f = true → r.2.2.1 53 f = nI (nF wh f)
  have iF : ∀ {y : ow_MS}, fr (fun g => g = 52 ∨ g = 53) z y → fcI y n A sg F P := fun hf => fcI_fr hn hf (fun g hg => by omega) hI
  have e14 : ∀ {y : ow_MS}, fr (fun g => g = 52 ∨ g = 53) z y → y.2.1 (n + 14) = z.2.1 (n + 14) := fun hf => (hf (n + 14) (by omega)).2.1
  have e12 : ∀ {y : ow_MS}, fr (fun g => g = 52 ∨ g = 53) z y → y.2.1 (n + 12) = z.2.1 (n + 12) := fun hf => (hf (n + 12) (by omega)).2.1
  let co : Nat → Int32 := fun f => if cb f = cb (fl (2 * v0)) then 1 else 2
  have coD : ∀ f, co f = if cb f = cb (fl (2 * v0)) then 1 else 2 := fun f => rfl
  have co0 : ∀ f, co f ≠ 0 := fun f h => by
    rw [coD] at h
    split at h <;> exact absurd h (by decide)
  -- the colours so far
  let cI : ow_MS → Prop := fun y => (∀ f, f < 80 → y.2.1 52 f = 0 ∨ (∃ s, inP A (z.2.1 (n + 12)) p (s / 2) ∧ fl s = f) ∧ y.2.1 52 f = co f) ∧ y.2.1 52 (fl (2 * v0)) = 1
  -- all painted: the white ones are just wh
  let cE : ow_MS → Prop := fun y => (∀ s, inP A (z.2.1 (n + 12)) p (s / 2) → y.2.1 52 (fl s) = co (fl s)) ∧ ∀ f, f < F → (y.2.1 52 f = 1 ↔ wh f = true)
  have ends : ∀ y, cI y → (∀ v, inP A (z.2.1 (n + 12)) p v → (y.2.1 52 (fl (2 * v)) ≠ 0 ↔ y.2.1 52 (fl (2 * v + 1)) ≠ 0)) → cE y := by
    intro y hcl hst
    have a := hall (fun f => y.2.1 52 f ≠ 0) hst (by rw [hcl.2]; decide)
    have b : ∀ s, inP A (z.2.1 (n + 12)) p (s / 2) → y.2.1 52 (fl s) = co (fl s) := fun s hs => by
      have hsl := hs.1
      have f9 := (hfl s (by omega)).2
      have ne : y.2.1 52 (fl s) ≠ 0 := by
        have := a (s / 2) hs
        by_cases h2 : s % 2 = 0
        · rw [show 2 * (s / 2) = s by omega] at this
          exact this.1
        · rw [show 2 * (s / 2) + 1 = s by omega] at this
          exact this.2
      exact ((hcl.1 (fl s) (by omega)).resolve_left ne).2
    refine ⟨b, fun f hf => ⟨fun h1 => ?_, fun h1 => ?_⟩⟩
    · rcases hcl.1 f (by omega) with h9 | ⟨⟨s, s1, s2⟩, h9⟩
      · rw [h1] at h9
        exact absurd h9 (by decide)
      · refine (hwh f hf).mpr ⟨s, s1, s2, ?_⟩
        rw [h1, coD] at h9
        by_cases h8 : cb f = cb (fl (2 * v0))
        · exact h8
        · rw [if_neg h8] at h9
          exact absurd h9 (by decide)
    · obtain ⟨s, s1, s2, s3⟩ := (hwh f hf).mp h1
      have := b s s1
      rw [s2, coD, if_pos s3] at this
      exact this
  have c8 : ∀ (d f : Nat) (x3 x4 : Int32) (y : ow_MS), f + d = F → fr (fun g => g = 52 ∨ g = 53) z y → cE y → (∀ g, g < f → wh g = true → y.2.1 53 g = nI (nF wh g)) → Tt (fun K i => q_X13_colourFaces K i 8 (nI v0) x3 x4 (nI (nF wh f)) (nI f) 0 n 0 0 y) Q := by
    intro d
    induction d with
    | zero =>
      intro f x3 x4 y hfF hf hcl hw
      have hfF : f = F := by omega
      subst hfF
      refine u_X13_colourFaces_8 ?_; unfold qm_X13_colourFaces_8
      exact w_rdF (iF hf).2.1.1 (w_leT (by omega) (by omega) (w_some ⟨rfl, hf, hcl.1, hw⟩))
    | succ d ih =>
      intro f x3 x4 y hfF hf hcl hw
      have hs : nF wh (f + 1) = nF wh f + if wh f = true then 1 else 0 := rfl
      refine u_X13_colourFaces_8 ?_; unfold qm_X13_colourFaces_8
      refine w_rdF (iF hf).2.1.1 (w_leF (by omega) (by omega) (w_rdI ml52 rfl (by omega) rfl (w_if (fun h9 => w_wrI ml53 rfl (by omega) ?_) (fun h9 => ?_))))
      · have hq := (hcl.2 f (by omega)).mp h9
        rw [if_pos hq] at hs
        refine u_X13_colourFaces_9 ?_; unfold qm_X13_colourFaces_9
        rw [nI_1, nI_1, ← hs]
        refine ih (f + 1) x3 x4 (usI y 53 f _) (by omega) (fr_I2 hf (Or.inr rfl)) ⟨fun s hsP => rd_ot (by omega) (hcl.1 s hsP), fun g hg => ?_⟩ (fun g hg hgw => ?_)
        · rw [po_usI_ot (by omega)]
          exact hcl.2 g hg
        · by_cases h8 : g = f
          · rw [h8]
            exact po_usI_at
          · rw [po_usI_ne h8]
            exact hw g (by omega) hgw
      · have hq : ¬ wh f = true := fun h8 => h9 ((hcl.2 f (by omega)).mpr h8)
        rw [if_neg hq, Nat.add_zero] at hs
        refine u_X13_colourFaces_9 ?_; unfold qm_X13_colourFaces_9
        rw [nI_1]
        have := ih (f + 1) x3 x4 y (by omega) hf hcl (fun g hg hgw => by
          by_cases h8 : g = f
          · rw [h8] at hgw
            exact absurd hgw hq
          · exact hw g (by omega) hgw)
        rw [hs] at this
        exact this
  have hfm : ∀ {y : ow_MS}, fr (fun g => g = 52) z y → fr (fun g => g = 52 ∨ g = 53) z y := fun h => fr_mono (fun g hg => Or.inl hg) h
  have c2 : ∀ (m : Nat) (x4 : Int32) (y : ow_MS), zeC y ≤ m → fr (fun g => g = 52) z y → cI y → x4 = 1 → Tt (fun K i => q_X13_colourFaces K i 2 (nI v0) (nI p) x4 0 0 0 n 0 0 y) Q := by
    intro m
    induction m using Nat.strongRecOn with
    | ind m ih =>
    intro x4 y hm hf hcl hx4
    have pass : ∀ (d g : Nat) (x4 : Int32) (y1 : ow_MS), g + d = A.flatten.length → fr (fun g => g = 52) z y1 → cI y1 → (x4 = 0 ∧ (∀ u, u < g → inP A (z.2.1 (n + 12)) p u → (y1.2.1 52 (fl (2 * u)) ≠ 0 ↔ y1.2.1 52 (fl (2 * u + 1)) ≠ 0)) ∨ x4 = 1 ∧ zeC y1 < zeC y) → zeC y1 ≤ zeC y → Tt (fun K i => q_X13_colourFaces K i 3 (nI v0) (nI p) x4 (nI g) 0 0 n 0 0 y1) Q := by
      intro d
      induction d with
      | zero =>
        intro g x4 y1 hg hf hcl h4 hz
        refine u_X13_colourFaces_3 ?_; unfold qm_X13_colourFaces_3
        refine w_rdF (iF (hfm hf)).1.1.V (w_leT (by omega) (by omega) ?_)
        rcases h4 with ⟨h4, h6⟩ | ⟨h4, h5⟩
        · rw [h4]
          refine u_X13_colourFaces_2 ?_; unfold qm_X13_colourFaces_2
          exact w_ifT rfl (c8 F 0 _ _ y1 (by omega) (hfm hf) (ends y1 hcl (fun v hv => h6 v (by have := hv.1; omega) hv)) (fun g hg => absurd hg (by omega)))
        · exact ih (zeC y1) (by omega) x4 y1 (Nat.le_refl _) hf hcl h4
      | succ d ihp =>
        intro g x4 y1 hg hf hcl h4 hz
        have hgl : g < A.flatten.length := by omega
        have hcc := (rn_c_in A g hgl).1
        have hI1 := iF (hfm hf)
        obtain ⟨el, hll⟩ := hfl (2 * g) (by omega)
        obtain ⟨er, hrl⟩ := hfl (2 * g + 1) (by omega)
        have efl : y1.2.1 (n + 14) (2 * g) = nI (fl (2 * g)) := by rw [e14 (hfm hf)]; exact el
        have efr : y1.2.1 (n + 14) (2 * g + 1) = nI (fl (2 * g + 1)) := by rw [e14 (hfm hf)]; exact er
        have c7 : ∀ (x4 x6 x7 : Int32) (y1 : ow_MS), fr (fun g => g = 52) z y1 → cI y1 → (x4 = 0 ∧ (∀ u, u < g + 1 → inP A (z.2.1 (n + 12)) p u → (y1.2.1 52 (fl (2 * u)) ≠ 0 ↔ y1.2.1 52 (fl (2 * u + 1)) ≠ 0)) ∨ x4 = 1 ∧ zeC y1 < zeC y) → zeC y1 ≤ zeC y → Tt (fun K i => q_X13_colourFaces K i 7 (nI v0) (nI p) x4 (nI g) x6 x7 n 0 0 y1) Q := by
          intro x4 x6 x7 y1 hf hcl h4 hz
          refine u_X13_colourFaces_7 ?_; unfold qm_X13_colourFaces_7
          rw [nI_1]
          exact ihp (g + 1) x4 y1 (by omega) hf hcl h4 hz
        -- a face gets its colour
        have put : ∀ (f : Nat) (s : Nat), f < 80 → y1.2.1 52 f = 0 → inP A (z.2.1 (n + 12)) p (s / 2) → fl s = f → cI (usI y1 52 f (co f)) ∧ zeC (usI y1 52 f (co f)) < zeC y := by
          intro f s hf80 h0 hs1 hs2
          refine ⟨⟨fun f' hf' => ?_, ?_⟩, Nat.lt_of_lt_of_le (zeC_lt hf80 h0 (co0 f)) hz⟩
          · by_cases hff : f' = f
            · rw [hff]
              exact Or.inr ⟨⟨s, hs1, hs2⟩, po_usI_at⟩
            · rw [po_usI_ne hff]
              exact hcl.1 f' hf'
          · have hff : fl (2 * v0) ≠ f := fun e => by
              rw [← e, hcl.2] at h0
              exact absurd h0 (by decide)
            exact rd_ne hff hcl.2
        have stay : inP A (z.2.1 (n + 12)) p g ∨ ¬ inP A (z.2.1 (n + 12)) p g := Classical.em _
        refine u_X13_colourFaces_3 ?_; unfold qm_X13_colourFaces_3
        rw [show (2 : Int32) * nI g = nI (2 * g) from rn_mul2, show nI (2 * g) + 1 = nI (2 * g + 1) from nI_1 _]
        refine w_rdF hI1.1.1.V (w_leF (by omega) hgl (w_rdI (pl14 hn) rfl (by omega) efl (w_rdI (pl14 hn) rfl (by omega) efr (w_rdI (pl8 hn) rfl (by omega) (lk_c hI1.1.1 hgl) (w_rdI (pl12 hn) rfl (by omega) rfl (w_if (fun hpp => ?_) (fun hpp => ?_)))))))
        · rw [e12 (hfm hf)] at hpp
          have hgP : inP A (z.2.1 (n + 12)) p g := ⟨hgl, hpp⟩
          have opp : cb (fl (2 * g)) = !cb (fl (2 * g + 1)) := hcb g hgP
          have c3a : ∀ a b : Bool, ∀ k : Bool, a = !b → (3 : Int32) - (if b = k then 1 else 2) = if a = k then 1 else 2 := by decide
          have colL : (3 : Int32) - co (fl (2 * g + 1)) = co (fl (2 * g)) := c3a _ _ _ opp
          have colR : (3 : Int32) - co (fl (2 * g)) = co (fl (2 * g + 1)) := c3a _ _ _ (by rw [opp, Bool.not_not])
          have c5 : ∀ (t0 t1 : Int32), (t1 = if y1.2.1 52 (fl (2 * g)) = 0 then 1 else 0) → (t0 = if y1.2.1 52 (fl (2 * g + 1)) = 0 then 1 else 0) → Tt (fun K i => q_X13_colourFaces K i 5 (nI v0) (nI p) x4 (nI g) (nI (fl (2 * g))) (nI (fl (2 * g + 1))) n t0 t1 y1) Q := by
            intro t0 t1 ht1 ht0
            refine u_X13_colourFaces_5 ?_; unfold qm_X13_colourFaces_5
            refine w_if (fun he => ?_) (fun hne => w_rdI ml52 rfl (by omega) rfl (w_if (fun hl0 => ?_) (fun hl0 => ?_)))
            · have ev : y1.2.1 52 (fl (2 * g)) ≠ 0 ↔ y1.2.1 52 (fl (2 * g + 1)) ≠ 0 := by
                rw [ht1, ht0] at he
                by_cases h1 : y1.2.1 52 (fl (2 * g)) = 0 <;> by_cases h2 : y1.2.1 52 (fl (2 * g + 1)) = 0
                · exact ⟨fun h => absurd h1 h, fun h => absurd h2 h⟩
                · rw [if_pos h1, if_neg h2] at he
                  exact absurd he (by decide)
                · rw [if_neg h1, if_pos h2] at he
                  exact absurd he (by decide)
                · exact ⟨fun _ => h2, fun _ => h1⟩
              refine c7 _ _ _ y1 hf hcl ?_ hz
              rcases h4 with ⟨h4, h6⟩ | h4
              · refine Or.inl ⟨h4, fun u hu huP => ?_⟩
                by_cases h8 : u = g
                · rw [h8]
                  exact ev
                · exact h6 u (by omega) huP
              · exact Or.inr h4
            · have hr0 : y1.2.1 52 (fl (2 * g + 1)) ≠ 0 := fun e => hne (by rw [ht1, ht0, if_pos hl0, if_pos e])
              have hr1 := ((hcl.1 _ (by omega)).resolve_left hr0).2
              obtain ⟨k1, k2⟩ := put (fl (2 * g)) (2 * g) (by omega) hl0 (by rw [show 2 * g / 2 = g by omega]; exact hgP) rfl
              refine w_rdI ml52 rfl (by omega) hr1 ?_
              rw [colL]
              refine w_wrI ml52 rfl (by omega) ?_
              refine u_X13_colourFaces_6 ?_; unfold qm_X13_colourFaces_6
              exact c7 1 _ _ _ (fr_I2 hf rfl) k1 (Or.inr ⟨rfl, k2⟩) (Nat.le_of_lt k2)
            · have hr0 : y1.2.1 52 (fl (2 * g + 1)) = 0 := Classical.byContradiction (fun e => hne (by rw [ht1, ht0, if_neg hl0, if_neg e]))
              have hl1 := ((hcl.1 _ (by omega)).resolve_left hl0).2
              obtain ⟨k1, k2⟩ := put (fl (2 * g + 1)) (2 * g + 1) (by omega) hr0 (by rw [show (2 * g + 1) / 2 = g by omega]; exact hgP) rfl
              refine w_rdI ml52 rfl (by omega) hl1 ?_
              rw [colR]
              refine w_wrI ml52 rfl (by omega) ?_
              refine u_X13_colourFaces_6 ?_; unfold qm_X13_colourFaces_6
              exact c7 1 _ _ _ (fr_I2 hf rfl) k1 (Or.inr ⟨rfl, k2⟩) (Nat.le_of_lt k2)
          have c4 : ∀ (t0 : Int32), (t0 = if y1.2.1 52 (fl (2 * g)) = 0 then 1 else 0) → Tt (fun K i => q_X13_colourFaces K i 4 (nI v0) (nI p) x4 (nI g) (nI (fl (2 * g))) (nI (fl (2 * g + 1))) n t0 0 y1) Q := by
            intro t0 ht0
            refine u_X13_colourFaces_4 ?_; unfold qm_X13_colourFaces_4
            exact w_rdI ml52 rfl (by omega) rfl (w_if (fun h9 => c5 _ _ ht0 (if_pos h9).symm) (fun h9 => c5 _ _ ht0 (if_neg h9).symm))
          exact w_rdI ml52 rfl (by omega) rfl (w_if (fun h9 => c4 _ (if_pos h9).symm) (fun h9 => c4 _ (if_neg h9).symm))
        · rw [e12 (hfm hf)] at hpp
          refine c7 _ _ _ y1 hf hcl ?_ hz
          rcases h4 with ⟨h4, h6⟩ | h4
          · refine Or.inl ⟨h4, fun u hu huP => ?_⟩
            by_cases h8 : u = g
            · rw [h8] at huP
              exact absurd huP.2 hpp
            · exact h6 u (by omega) huP
          · exact Or.inr h4
    rw [hx4]
    refine u_X13_colourFaces_2 ?_; unfold qm_X13_colourFaces_2
    exact w_ifF (by decide) (pass A.flatten.length 0 0 y (by omega) hf hcl (Or.inl ⟨rfl, fun u hu => absurd hu (by omega)⟩) (Nat.le_refl _))
  have c1 : ∀ (d i : Nat) (y : ow_MS), i + d = 80 → fr (fun g => g = 52) z y → (∀ f, f < i → y.2.1 52 f = 0) → Tt (fun K t => q_X13_colourFaces K t 1 (nI v0) (nI p) (nI i) 0 0 0 n 0 0 y) Q := by
    intro d
    induction d with
    | zero =>
      intro i y hi hf h0
      have e14' : y.2.1 (n + 14) = z.2.1 (n + 14) := (hf (n + 14) (by omega)).2.1
      obtain ⟨ef0, hf0⟩ := hfl (2 * v0) (by omega)
      refine u_X13_colourFaces_1 ?_; unfold qm_X13_colourFaces_1
      rw [show (2 : Int32) * nI v0 = nI (2 * v0) from rn_mul2]
      refine w_leT (a := 80) (by omega) (by omega) (w_rdI (pl14 hn) rfl (by omega) (by rw [e14']; exact ef0) (w_wrI ml52 rfl (by omega) (c2 _ 1 _ (Nat.le_refl _) (fr_I2 hf rfl) ⟨fun f hf80 => ?_, po_usI_at⟩ rfl)))
      by_cases hff : f = fl (2 * v0)
      · rw [hff]
        refine Or.inr ⟨⟨2 * v0, by rw [show 2 * v0 / 2 = v0 by omega]; exact hv0, rfl⟩, ?_⟩
        rw [po_usI_at, coD, if_pos rfl]
      · exact Or.inl (rd_ne hff (h0 f (by omega)))
    | succ d ih =>
      intro i y hi hf h0
      refine u_X13_colourFaces_1 ?_; unfold qm_X13_colourFaces_1
      rw [nI_1]
      refine w_leF (a := 80) (by omega) (by omega) (w_wrI ml52 rfl (by omega) (ih (i + 1) _ (by omega) (fr_I2 hf rfl) (fun f h9 => ?_)))
      by_cases hfi : f = i
      · rw [hfi, po_usI_at]
      · exact rd_ne hfi (h0 f (by omega))
  have hcc0 := (rn_c_in A v0 hv0l).1
  refine e_X13_colourFaces ?_
  refine u_X13_colourFaces_0 ?_; unfold qm_X13_colourFaces_0
  exact w_rdI (pl8 hn) rfl (by omega) (lk_c hI.1.1 hv0.1) (w_rdI (pl12 hn) rfl (by omega) hv0.2 (c1 80 0 z (by omega) fr_rf (fun f hf => absurd hf (by omega))))
end XSGY
