/-! the law's steps: both sides answer the same, and stay related -/
def ciH (g : Nat) : Prop := 24001 ≤ g ∧ g ≤ 25003 ∨ 39001 ≤ g ∧ g ≤ 40011 ∨ 41006 ≤ g ∧ g ≤ 41016 ∨ g = 43005 ∨ 45001 ≤ g ∧ g ≤ 45011
section XST
variable {vl : Nat → Nat} {y y1 z : ow_MS} {P P' : Nat → Prop}
theorem jnT_fr (hf : fr P y y1) (hP : ¬ P 40008 ∧ ¬ P 24009 ∧ ¬ P 24006) {A : rn_L} {sg : Nat → Bool} {c : Nat} (h : jnT y A sg c) : jnT y1 A sg c := by
  obtain ⟨S, G, h1, h2, h3, h4⟩ := h
  refine ⟨S, G, h1, by rw [(hf 40008 hP.1).1]; exact h2, by rw [(hf 24009 hP.2.1).1]; exact h3, fun k hk => by rw [(hf 24006 hP.2.2).2.1]; exact h4 k hk⟩
theorem jnC_fr (hf : fr P y y1) (hP : ∀ g, P g → ¬ ciH g) (h : jnC y) : jnC y1 := by
  have no : ∀ g, ciH g → ¬ P g := fun g g1 h9 => hP g h9 g1
  obtain ⟨C, h1, h2, h3⟩ := h
  refine ⟨C, slC_fr hf (fun q hq => no q (by unfold cW at hq; unfold ciH; omega)) h1, h2, h3.imp id ?_⟩
  rintro ⟨A, sg, c, e, hT⟩
  exact ⟨A, sg, c, e, jnT_fr hf ⟨no _ (by unfold ciH; omega), no _ (by unfold ciH; omega), no _ (by unfold ciH; omega)⟩ hT⟩
theorem CI_fr (hf : fr P y y1) (hP : ∀ g, P g → ¬ ciH g) (h : CI vl y) : CI vl y1 := by
  have no : ∀ g, ciH g → ¬ P g := fun g g1 h9 => hP g h9 g1
  obtain ⟨h1, h2, h3, h4, h5, h6, h7, h8⟩ := h
  refine ⟨knC_fr hf (fun g hg h9 => hP g hg (by unfold ciH; omega)) h1, jnC_fr hf hP h2, bnC_fr hf (fun m hm => no _ (by unfold ciH; omega)) h3, mpC_fr hf ⟨no _ (by unfold ciH; omega), no _ (by unfold ciH; omega), no _ (by unfold ciH; omega)⟩ h4, ?_, fun m hm => ?_, fun i k hi hk => ?_, h8⟩
  · obtain ⟨k, k1, k2, k3⟩ := h5
    refine ⟨k, k1, by rw [(hf 41010 (no _ (by unfold ciH; omega))).1]; exact k2, fun s hs => ?_⟩
    rw [(hf 41012 (no _ (by unfold ciH; omega))).2.1, (hf 41013 (no _ (by unfold ciH; omega))).2.1, (hf 41014 (no _ (by unfold ciH; omega))).2.1]
    exact k3 s hs
  · rw [(hf 43005 (no _ (by unfold ciH; omega))).2.1]
    exact h6 m hm
  · rw [(hf (45001 + i) (no _ (by unfold ciH; omega))).2.1]
    exact h7 i k hi hk
/-- the law's own row of one number -/
theorem REL_J {v : Int64} (h : REL (vl, y, z)) : REL (vl, usJ y 52001 0 v, z) := h
def lsV (vl : Nat → Nat) (fc : Nat → Option (Nat × Int32 × ow_MS)) (mp : Nat → ow_MS → Option (Int32 × ow_MS)) (fm : Nat → Option (Int32 × ow_MS)) (K : Nat) : Option ow_LwS := cs1 (tc1 (fc K) mp fun v3 z1 => ctJ (cX vl) z1 52001 0 v3.toInt64 fun z4 => some (0, z4)) fun v2 zc1 => cs1 (fm K) fun v4 zm3 => cs1 (qe_X13_thrown K zm3) fun v6 zm5 => (if v6 = v2 then (if v2 = 0 then crJ (cX vl) zc1 52001 0 fun v7 => (if (lg_cmp v7 v4.toInt64) = 0 then some (vl, zc1, zm5) else none) else some (vl, zc1, zm5)) else none)
theorem ch_52 : ((cX vl).2 52001).2.1 = 1 := rfl
theorem st_int {em : List (Nat × Nat)} {fc : Nat → Option (Nat × Int32 × ow_MS)} {mp : Nat → ow_MS → Option (Int32 × ow_MS)} {fm : Nat → Option (Int32 × ow_MS)} (h : Te fm (fun rr => Te fc (fun rc => REL (vl, rc.2.2, rr.2) ∧ ansI em rr rc))) (hmp : ∀ j k, (j, k) ∈ em → 0 < j ∧ j < 100 ∧ k ≠ 0 ∧ ∀ z, mp k z = some (nI j, z)) : Te (lsV vl fc mp fm) (fun S1 => REL S1 ∧ dPhi vl ≤ dPhi S1.1) := by
  obtain ⟨rr, ⟨b1, hb1⟩, rc, ⟨b2, hb2⟩, hR, ha⟩ := h
  obtain ⟨a, zm⟩ := rr
  obtain ⟨k, v, zc⟩ := rc
  have hR : REL (vl, zc, zm) := hR
  rcases ha with ⟨t0, k0, e⟩ | ⟨j, k', hm, t0, k0⟩
  · have k0 : k = 0 := k0
    have e : a = v := e
    have t0 : zm.1 1 = 0 := t0
    subst k0
    subst e
    refine ⟨(vl, usJ zc 52001 0 a.toInt64, zm), ⟨b1 + b2, fun K hK => ?_⟩, REL_J hR, Nat.le_refl _⟩
    unfold lsV
    rw [hb1 K (by omega), hb2 K (by omega)]
    show (if zm.1 1 = 0 then (if (0 : Int32) = 0 then _ else _) else none) = _
    rw [if_pos t0, if_pos rfl]
    show (if lg_cmp ((usJ zc 52001 0 a.toInt64).2.2 52001 0) a.toInt64 = 0 then some (vl, usJ zc 52001 0 a.toInt64, zm) else none) = _
    rw [if_pos ((lg_cmp_eq _ _).mpr usJ_at)]
  · have k0 : k = k' := k0
    have t0 : zm.1 1 = nI j := t0
    subst k0
    obtain ⟨m1, m2, m3, m4⟩ := hmp j k hm
    refine ⟨(vl, zc, zm), ⟨b1 + b2, fun K hK => ?_⟩, hR, Nat.le_refl _⟩
    unfold lsV
    rw [hb1 K (by omega), hb2 K (by omega)]
    have e1 : tc1 (some (k, v, zc)) mp (fun v3 z1 => ctJ (cX vl) z1 52001 0 v3.toInt64 fun z4 => some (0, z4)) = some (nI j, zc) := by
      show (if k = 0 then _ else mp k zc) = _
      rw [if_neg m3, m4]
    rw [e1]
    show (if zm.1 1 = nI j then (if nI j = 0 then _ else some (vl, zc, zm)) else none) = _
    have nj : nI j ≠ 0 := fun h9 => by
      have := nI_inj9 (a := j) (b := 0) (by omega) (by omega) h9
      omega
    rw [if_pos t0, if_neg nj]
/-- what a call keeps besides, by what it may change -/
theorem rel_of {em : List (Nat × Nat)} {fc : Nat → Option (Nat × Int32 × ow_MS)} {fm : Nat → Option (Int32 × ow_MS)} (h : REL (vl, y, z)) (hc : Te fm (fun rr => Te fc (fun rc => rel3 XR rr.2 rc.2.2 ∧ ansI em rr rc))) (hm : ∀ K, Fo Prod.snd P z (fm K)) (hf : ∀ K, Fo (fun r => r.2.2) P' y (fc K)) (hP : ¬ P 48 ∧ ¬ P 50) (hP' : ∀ g, P' g → ¬ ciH g) : Te fm (fun rr => Te fc (fun rc => REL (vl, rc.2.2, rr.2) ∧ ansI em rr rc)) := w_monoE (te_fo hc hm) (fun rr ⟨h1, f1⟩ => w_monoE (te_fo h1 hf) (fun rc ⟨⟨h2, h3⟩, f2⟩ => ⟨⟨h2, CI_fr f2 hP' h.2.1, jnR_fr f1 hP.1 hP.2 h.2.2⟩, h3⟩))
/-- calls that answer yes or no -/
theorem st_bool {fc fm : Nat → Option (Int32 × ow_MS)} (h : REL (vl, y, z)) (hc : Te fm (fun rr => Te fc (fun rc => rel3 XR rr.2 rc.2 ∧ rr.2.1 1 = 0 ∧ rr.1 = rc.1))) (hm : ∀ K, Fo Prod.snd P z (fm K)) (hf : ∀ K, Fo Prod.snd P' y (fc K)) (hP : ¬ P 48 ∧ ¬ P 50) (hP' : ∀ g, P' g → ¬ ciH g) : Te (fun K => cs1 (fc K) fun v2 zc1 => cs1 (fm K) fun v4 zm3 => (if v2 = v4 then some (vl, zc1, zm3) else none)) (fun S1 => REL S1 ∧ dPhi vl ≤ dPhi S1.1) := by
  obtain ⟨⟨a, zm⟩, ⟨b1, hb1⟩, ⟨⟨v, zc⟩, ⟨b2, hb2⟩, ⟨hR, -, e⟩, f2⟩, f1⟩ := te_fo (w_monoE hc (fun rr h1 => te_fo h1 hf)) hm
  have e : a = v := e
  subst e
  refine ⟨(vl, zc, zm), ⟨b1 + b2, fun K hK => ?_⟩, ⟨hR, CI_fr f2 hP' h.2.1, jnR_fr f1 hP.1 hP.2 h.2.2⟩, Nat.le_refl _⟩
  show cs1 (fc K) _ = _
  rw [hb2 K (by omega)]
  show (cs1 (fm K) fun v4 zm3 => if a = v4 then some (vl, zc, zm3) else none) = _
  rw [hb1 K (by omega)]
  exact if_pos rfl
end XST
/-- a case of the law: from related states it ends, and leaves related states -/
def stp (f : (Nat → Nat) → Nat → Int32 → Int32 → Int32 → Int32 → Int32 → ow_MS → ow_MS → Option ow_LwS) : Prop := ∀ (S : ow_LwS) (x1 x2 x3 x4 x5 : Int32), REL S → Te (fun K => f S.1 K x1 x2 x3 x4 x5 S.2.1 S.2.2) (fun S1 => REL S1 ∧ dPhi S.1 ≤ dPhi S1.1)
section XSS
theorem st_mirror : stp lst_mirror := by
  intro S x1 x2 x3 x4 x5 h
  have hc := rel_of (vl := S.1) (y := S.2.1) (z := S.2.2) (em := [(1, 1), (2, 3)]) (fc := fun K => ce_X11_mirror S.1 K 0 x1 S.2.1) (fm := fun K => qe_X13_mirror K x1 S.2.2) h (by
    obtain ⟨⟨St, k⟩, -⟩ := id h.1
    exact w_monoE (b_mirror k) (fun rr hr => w_monoE hr (fun rc hb => both_3 h.1 hb))) (fun K => ff_X13_mirror) (fun K => ff_X11_mirror) (by decide) (fun g hg h9 => by unfold ciH at h9; omega)
  refine st_int (mp := (fun k z => if k = 1 then some (1, z) else if k = 3 then some (2, z) else none)) hc (fun j k hm => ?_)
  simp only [List.mem_cons, List.not_mem_nil, or_false, Prod.mk.injEq] at hm
  rcases hm with ⟨rfl, rfl⟩ | ⟨rfl, rfl⟩ <;> exact ⟨by decide, by decide, by decide, fun _ => rfl⟩
theorem st_change : stp lst_change := by
  intro S x1 x2 x3 x4 x5 h
  have hc := rel_of (vl := S.1) (y := S.2.1) (z := S.2.2) (em := [(1, 1), (2, 3)]) (fc := fun K => ce_X11_change S.1 K 0 x1 x2 S.2.1) (fm := fun K => qe_X13_change K x1 x2 S.2.2) h (by
    obtain ⟨⟨St, k⟩, -⟩ := id h.1
    exact w_monoE (b_change k) (fun rr hr => w_monoE hr (fun rc hb => both_3 h.1 hb))) (fun K => ff_X13_change) (fun K => ff_X11_change) (by decide) (fun g hg h9 => by unfold ciH at h9; omega)
  refine st_int (mp := (fun k z => if k = 1 then some (1, z) else if k = 3 then some (2, z) else none)) hc (fun j k hm => ?_)
  simp only [List.mem_cons, List.not_mem_nil, or_false, Prod.mk.injEq] at hm
  rcases hm with ⟨rfl, rfl⟩ | ⟨rfl, rfl⟩ <;> exact ⟨by decide, by decide, by decide, fun _ => rfl⟩
theorem st_reverse : stp lst_reverse := by
  intro S x1 x2 x3 x4 x5 h
  have hc := rel_of (vl := S.1) (y := S.2.1) (z := S.2.2) (em := [(1, 1), (2, 3)]) (fc := fun K => ce_X11_reverse S.1 K 0 x1 x2 S.2.1) (fm := fun K => qe_X13_reverse K x1 x2 S.2.2) h (by
    obtain ⟨⟨St, k⟩, -⟩ := id h.1
    exact w_monoE (b_reverse k) (fun rr hr => w_monoE hr (fun rc hb => both_3 h.1 hb))) (fun K => ff_X13_reverse) (fun K => ff_X11_reverse) (by decide) (fun g hg h9 => by unfold ciH at h9; omega)
  refine st_int (mp := (fun k z => if k = 1 then some (1, z) else if k = 3 then some (2, z) else none)) hc (fun j k hm => ?_)
  simp only [List.mem_cons, List.not_mem_nil, or_false, Prod.mk.injEq] at hm
  rcases hm with ⟨rfl, rfl⟩ | ⟨rfl, rfl⟩ <;> exact ⟨by decide, by decide, by decide, fun _ => rfl⟩
theorem st_smooth : stp lst_smooth := by
  intro S x1 x2 x3 x4 x5 h
  have hc := rel_of (vl := S.1) (y := S.2.1) (z := S.2.2) (em := [(1, 1), (2, 4), (3, 3)]) (fc := fun K => ce_X11_smooth S.1 K 0 x1 x2 S.2.1) (fm := fun K => qe_X13_smooth K x1 x2 S.2.2) h (by
    obtain ⟨⟨St, k⟩, -⟩ := id h.1
    exact w_monoE (b_smooth k) (fun rr hr => w_monoE hr (fun rc hb => both_3 h.1 hb))) (fun K => ff_X13_smooth) (fun K => ff_X11_smooth) (by decide) (fun g hg h9 => by unfold ciH at h9; omega)
  refine st_int (mp := (fun k z => if k = 1 then some (1, z) else if k = 4 then some (2, z) else if k = 3 then some (3, z) else none)) hc (fun j k hm => ?_)
  simp only [List.mem_cons, List.not_mem_nil, or_false, Prod.mk.injEq] at hm
  rcases hm with ⟨rfl, rfl⟩ | ⟨rfl, rfl⟩ | ⟨rfl, rfl⟩ <;> exact ⟨by decide, by decide, by decide, fun _ => rfl⟩
theorem st_apart : stp lst_apart := by
  intro S x1 x2 x3 x4 x5 h
  have hc := rel_of (vl := S.1) (y := S.2.1) (z := S.2.2) (em := [(1, 1), (2, 4), (3, 3)]) (fc := fun K => ce_X11_apart S.1 K 0 x1 x2 S.2.1) (fm := fun K => qe_X13_apart K x1 x2 S.2.2) h (by
    obtain ⟨⟨St, k⟩, -⟩ := id h.1
    exact w_monoE (b_apart k) (fun rr hr => w_monoE hr (fun rc hb => both_3 h.1 hb))) (fun K => ff_X13_apart) (fun K => ff_X11_apart) (by decide) (fun g hg h9 => by unfold ciH at h9; omega)
  refine st_int (mp := (fun k z => if k = 1 then some (1, z) else if k = 4 then some (2, z) else if k = 3 then some (3, z) else none)) hc (fun j k hm => ?_)
  simp only [List.mem_cons, List.not_mem_nil, or_false, Prod.mk.injEq] at hm
  rcases hm with ⟨rfl, rfl⟩ | ⟨rfl, rfl⟩ | ⟨rfl, rfl⟩ <;> exact ⟨by decide, by decide, by decide, fun _ => rfl⟩
theorem st_join : stp lst_join := by
  intro S x1 x2 x3 x4 x5 h
  have hc := rel_of (vl := S.1) (y := S.2.1) (z := S.2.2) (em := [(1, 1), (2, 4), (3, 3)]) (fc := fun K => ce_X11_join S.1 K 0 x1 x2 x3 x4 S.2.1) (fm := fun K => qe_X13_join K x1 x2 x3 x4 S.2.2) h (by
    obtain ⟨⟨St, k⟩, -⟩ := id h.1
    exact w_monoE (b_join k) (fun rr hr => w_monoE hr (fun rc hb => both_3 h.1 hb))) (fun K => ff_X13_join) (fun K => ff_X11_join) (by decide) (fun g hg h9 => by unfold ciH at h9; omega)
  refine st_int (mp := (fun k z => if k = 1 then some (1, z) else if k = 4 then some (2, z) else if k = 3 then some (3, z) else none)) hc (fun j k hm => ?_)
  simp only [List.mem_cons, List.not_mem_nil, or_false, Prod.mk.injEq] at hm
  rcases hm with ⟨rfl, rfl⟩ | ⟨rfl, rfl⟩ | ⟨rfl, rfl⟩ <;> exact ⟨by decide, by decide, by decide, fun _ => rfl⟩
theorem st_figure : stp lst_figure := by
  intro S x1 x2 x3 x4 x5 h
  have hc := rel_of (vl := S.1) (y := S.2.1) (z := S.2.2) (em := [(1, 1), (2, 2)]) (fc := fun K => ce_X11_figure S.1 K 0 x1 x2 S.2.1) (fm := fun K => qe_X13_figure K x1 x2 S.2.2) h (by
    obtain ⟨⟨St, k⟩, -⟩ := id h.1
    exact w_monoE (b_figure k) (fun rr hr => w_monoE hr (fun rc hb => both_3 h.1 hb))) (fun K => ff_X13_figure) (fun K => ff_X11_figure) (by decide) (fun g hg h9 => by unfold ciH at h9; omega)
  refine st_int (mp := (fun k z => if k = 1 then some (1, z) else if k = 2 then some (2, z) else none)) hc (fun j k hm => ?_)
  simp only [List.mem_cons, List.not_mem_nil, or_false, Prod.mk.injEq] at hm
  rcases hm with ⟨rfl, rfl⟩ | ⟨rfl, rfl⟩ <;> exact ⟨by decide, by decide, by decide, fun _ => rfl⟩
theorem st_visit : stp lst_visit := by
  intro S x1 x2 x3 x4 x5 h
  have hc := rel_of (vl := S.1) (y := S.2.1) (z := S.2.2) (em := [(1, 1), (2, 2)]) (fc := fun K => ce_X11_visit S.1 K 0 x1 x2 x3 S.2.1) (fm := fun K => qe_X13_visit K x1 x2 x3 S.2.2) h (by
    obtain ⟨⟨St, k⟩, -⟩ := id h.1
    exact w_monoE (b_visit k) (fun rr hr => w_monoE hr (fun rc hb => both_3 h.1 hb))) (fun K => ff_X13_visit) (fun K => ff_X11_visit) (by decide) (fun g hg h9 => by unfold ciH at h9; omega)
  refine st_int (mp := (fun k z => if k = 1 then some (1, z) else if k = 2 then some (2, z) else none)) hc (fun j k hm => ?_)
  simp only [List.mem_cons, List.not_mem_nil, or_false, Prod.mk.injEq] at hm
  rcases hm with ⟨rfl, rfl⟩ | ⟨rfl, rfl⟩ <;> exact ⟨by decide, by decide, by decide, fun _ => rfl⟩
theorem st_linking : stp lst_linking := by
  intro S x1 x2 x3 x4 x5 h
  have hc := rel_of (vl := S.1) (y := S.2.1) (z := S.2.2) (em := [(1, 1), (2, 2)]) (fc := fun K => ce_X11_linking S.1 K 0 x1 x2 x3 S.2.1) (fm := fun K => qe_X13_linking K x1 x2 x3 S.2.2) h (by
    obtain ⟨⟨St, k⟩, -⟩ := id h.1
    exact w_monoE (b_linking k) (fun rr hr => w_monoE hr (fun rc hb => both_3 h.1 hb))) (fun K => ff_X13_linking) (fun K => ff_X11_linking) (by decide) (fun g hg h9 => by unfold ciH at h9; omega)
  refine st_int (mp := (fun k z => if k = 1 then some (1, z) else if k = 2 then some (2, z) else none)) hc (fun j k hm => ?_)
  simp only [List.mem_cons, List.not_mem_nil, or_false, Prod.mk.injEq] at hm
  rcases hm with ⟨rfl, rfl⟩ | ⟨rfl, rfl⟩ <;> exact ⟨by decide, by decide, by decide, fun _ => rfl⟩
theorem st_moves : stp lst_moves := by
  intro S x1 x2 x3 x4 x5 h
  have hc := rel_of (vl := S.1) (y := S.2.1) (z := S.2.2) (em := [(1, 1), (2, 2)]) (fc := fun K => ce_X11_moves S.1 K 0 x1 x2 S.2.1) (fm := fun K => qe_X13_moves K x1 x2 S.2.2) h (c_moves h.1) (fun K => ff_X13_moves) (fun K => ff_X11_moves) (by decide) (fun g hg h9 => by unfold ciH at h9; omega)
  refine st_int (mp := (fun k z => if k = 1 then some (1, z) else if k = 2 then some (2, z) else none)) hc (fun j k hm => ?_)
  simp only [List.mem_cons, List.not_mem_nil, or_false, Prod.mk.injEq] at hm
  rcases hm with ⟨rfl, rfl⟩ | ⟨rfl, rfl⟩ <;> exact ⟨by decide, by decide, by decide, fun _ => rfl⟩
theorem st_moved : stp lst_moved := by
  intro S x1 x2 x3 x4 x5 h
  have hc := rel_of (vl := S.1) (y := S.2.1) (z := S.2.2) (em := [(1, 1), (2, 3)]) (fc := fun K => ce_X11_moved S.1 K 0 x1 S.2.1) (fm := fun K => qe_X13_moved K x1 S.2.2) h (c_moved h.1) (fun K => ff_X13_moved) (fun K => ff_X11_moved) (by decide) (fun g hg h9 => by unfold ciH at h9; omega)
  refine st_int (mp := (fun k z => if k = 1 then some (1, z) else if k = 3 then some (2, z) else none)) hc (fun j k hm => ?_)
  simp only [List.mem_cons, List.not_mem_nil, or_false, Prod.mk.injEq] at hm
  rcases hm with ⟨rfl, rfl⟩ | ⟨rfl, rfl⟩ <;> exact ⟨by decide, by decide, by decide, fun _ => rfl⟩
theorem st_simplify : stp lst_simplify := by
  intro S x1 x2 x3 x4 x5 h
  have hc := rel_of (vl := S.1) (y := S.2.1) (z := S.2.2) (em := [(1, 1), (2, 3)]) (fc := fun K => ce_X11_simplify S.1 K 0 x1 S.2.1) (fm := fun K => qe_X13_simplify K x1 S.2.2) h (c_simplify h.1) (fun K => ff_X13_simplify) (fun K => ff_X11_simplify) (by decide) (fun g hg h9 => by unfold ciH at h9; omega)
  refine st_int (mp := (fun k z => if k = 1 then some (1, z) else if k = 3 then some (2, z) else none)) hc (fun j k hm => ?_)
  simp only [List.mem_cons, List.not_mem_nil, or_false, Prod.mk.injEq] at hm
  rcases hm with ⟨rfl, rfl⟩ | ⟨rfl, rfl⟩ <;> exact ⟨by decide, by decide, by decide, fun _ => rfl⟩
theorem st_summand : stp lst_summand := by
  intro S x1 x2 x3 x4 x5 h
  have hc := rel_of (vl := S.1) (y := S.2.1) (z := S.2.2) (em := [(1, 1), (2, 3)]) (fc := fun K => ce_X11_summand S.1 K 0 x1 S.2.1) (fm := fun K => qe_X13_summand K x1 S.2.2) h (c_summand h.1) (fun K => ff_X13_summand) (fun K => ff_X11_summand) (by decide) (fun g hg h9 => by unfold ciH at h9; omega)
  refine st_int (mp := (fun k z => if k = 1 then some (1, z) else if k = 3 then some (2, z) else none)) hc (fun j k hm => ?_)
  simp only [List.mem_cons, List.not_mem_nil, or_false, Prod.mk.injEq] at hm
  rcases hm with ⟨rfl, rfl⟩ | ⟨rfl, rfl⟩ <;> exact ⟨by decide, by decide, by decide, fun _ => rfl⟩
theorem st_diagram : stp lst_diagram := by
  intro S x1 x2 x3 x4 x5 h
  have hc := rel_of (vl := S.1) (y := S.2.1) (z := S.2.2) (em := [(1, 3)]) (fc := fun K => ce_X11_diagram S.1 K 0  S.2.1) (fm := fun K => qe_X13_diagram K  S.2.2) h (c_diagram h.1) (fun K => ff_X13_diagram) (fun K => ff_X11_diagram) (by decide) (fun g hg h9 => by unfold ciH at h9; omega)
  refine st_int (mp := (fun k z => if k = 3 then some (1, z) else none)) hc (fun j k hm => ?_)
  simp only [List.mem_cons, List.not_mem_nil, or_false, Prod.mk.injEq] at hm
  rcases hm with ⟨rfl, rfl⟩ <;> exact ⟨by decide, by decide, by decide, fun _ => rfl⟩
theorem st_feed : stp lst_feed := by
  intro S x1 x2 x3 x4 x5 h
  have hc := rel_of (vl := S.1) (y := S.2.1) (z := S.2.2) (em := [(1, 3)]) (fc := fun K => ce_X11_feed S.1 K 0 x1 x2 x3 x4 x5 S.2.1) (fm := fun K => qe_X13_feed K x1 x2 x3 x4 x5 S.2.2) h (c_feed h.1) (fun K => ff_X13_feed) (fun K => ff_X11_feed) (by decide) (fun g hg h9 => by unfold ciH at h9; omega)
  refine st_int (mp := (fun k z => if k = 3 then some (1, z) else none)) hc (fun j k hm => ?_)
  simp only [List.mem_cons, List.not_mem_nil, or_false, Prod.mk.injEq] at hm
  rcases hm with ⟨rfl, rfl⟩ <;> exact ⟨by decide, by decide, by decide, fun _ => rfl⟩
theorem st_braid : stp lst_braid := by
  intro S x1 x2 x3 x4 x5 h
  have hc := rel_of (vl := S.1) (y := S.2.1) (z := S.2.2) (em := [(1, 2), (2, 3)]) (fc := fun K => ce_X11_braid S.1 K 0 x1 S.2.1) (fm := fun K => qe_X13_braid K x1 S.2.2) h (c_braid h.1) (fun K => ff_X13_braid) (fun K => ff_X11_braid) (by decide) (fun g hg h9 => by unfold ciH at h9; omega)
  refine st_int (mp := (fun k z => if k = 2 then some (1, z) else if k = 3 then some (2, z) else none)) hc (fun j k hm => ?_)
  simp only [List.mem_cons, List.not_mem_nil, or_false, Prod.mk.injEq] at hm
  rcases hm with ⟨rfl, rfl⟩ | ⟨rfl, rfl⟩ <;> exact ⟨by decide, by decide, by decide, fun _ => rfl⟩
theorem st_closure : stp lst_closure := by
  intro S x1 x2 x3 x4 x5 h
  have hc := rel_of (vl := S.1) (y := S.2.1) (z := S.2.2) (em := [(1, 1), (2, 4), (3, 3)]) (fc := fun K => ce_X11_closure S.1 K 0 x1 S.2.1) (fm := fun K => qe_X13_closure K x1 S.2.2) h (c_closure h.1) (fun K => ff_X13_closure) (fun K => ff_X11_closure) (by decide) (fun g hg h9 => by unfold ciH at h9; omega)
  refine st_int (mp := (fun k z => if k = 1 then some (1, z) else if k = 4 then some (2, z) else if k = 3 then some (3, z) else none)) hc (fun j k hm => ?_)
  simp only [List.mem_cons, List.not_mem_nil, or_false, Prod.mk.injEq] at hm
  rcases hm with ⟨rfl, rfl⟩ | ⟨rfl, rfl⟩ | ⟨rfl, rfl⟩ <;> exact ⟨by decide, by decide, by decide, fun _ => rfl⟩
theorem st_product : stp lst_product := by
  intro S x1 x2 x3 x4 x5 h
  have hc := rel_of (vl := S.1) (y := S.2.1) (z := S.2.2) (em := [(1, 1), (2, 2), (3, 4), (4, 3)]) (fc := fun K => ce_X11_product S.1 K 0 x1 x2 S.2.1) (fm := fun K => qe_X13_product K x1 x2 S.2.2) h (c_product h.1) (fun K => ff_X13_product) (fun K => ff_X11_product) (by decide) (fun g hg h9 => by unfold ciH at h9; omega)
  refine st_int (mp := (fun k z => if k = 1 then some (1, z) else if k = 2 then some (2, z) else if k = 4 then some (3, z) else if k = 3 then some (4, z) else none)) hc (fun j k hm => ?_)
  simp only [List.mem_cons, List.not_mem_nil, or_false, Prod.mk.injEq] at hm
  rcases hm with ⟨rfl, rfl⟩ | ⟨rfl, rfl⟩ | ⟨rfl, rfl⟩ | ⟨rfl, rfl⟩ <;> exact ⟨by decide, by decide, by decide, fun _ => rfl⟩
theorem st_inverse : stp lst_inverse := by
  intro S x1 x2 x3 x4 x5 h
  have hc := rel_of (vl := S.1) (y := S.2.1) (z := S.2.2) (em := [(1, 1), (2, 3)]) (fc := fun K => ce_X11_inverse S.1 K 0 x1 S.2.1) (fm := fun K => qe_X13_inverse K x1 S.2.2) h (c_inverse h.1) (fun K => ff_X13_inverse) (fun K => ff_X11_inverse) (by decide) (fun g hg h9 => by unfold ciH at h9; omega)
  refine st_int (mp := (fun k z => if k = 1 then some (1, z) else if k = 3 then some (2, z) else none)) hc (fun j k hm => ?_)
  simp only [List.mem_cons, List.not_mem_nil, or_false, Prod.mk.injEq] at hm
  rcases hm with ⟨rfl, rfl⟩ | ⟨rfl, rfl⟩ <;> exact ⟨by decide, by decide, by decide, fun _ => rfl⟩
theorem st_alike : stp lst_alike := fun S x1 x2 x3 x4 x5 h => st_bool (vl := S.1) (y := S.2.1) (z := S.2.2) (fc := fun K => ce_X11_alike S.1 K 0 x1 x2 S.2.1) (fm := fun K => qe_X13_alike K x1 x2 S.2.2) h (by
    obtain ⟨⟨St, k⟩, -⟩ := id h.1
    exact w_monoE (b_alike k) (fun rr hr => w_monoE hr (fun rc hb => both_Z h.1 hb))) (fun K => ff_X13_alike) (fun K => ff_X11_alike) (by decide) (fun g hg h9 => by unfold ciH at h9; exact hg)
theorem st_drop : stp lst_drop := fun S x1 x2 x3 x4 x5 h => st_bool (vl := S.1) (y := S.2.1) (z := S.2.2) (fc := fun K => ce_X11_drop S.1 K 0 x1 S.2.1) (fm := fun K => qe_X13_drop K x1 S.2.2) h (by
    obtain ⟨⟨St, k⟩, hM, -⟩ := id h.1
    exact w_monoE (b_drop k hM) (fun rr hr => w_monoE hr (fun rc hb => both_Z h.1 hb.1))) (fun K => ff_X13_drop) (fun K => ff_X11_drop) (by decide) (fun g hg h9 => by unfold ciH at h9; omega)
theorem st_dropBraid : stp lst_dropBraid := fun S x1 x2 x3 x4 x5 h => st_bool (vl := S.1) (y := S.2.1) (z := S.2.2) (fc := fun K => ce_X11_dropBraid S.1 K 0 x1 S.2.1) (fm := fun K => qe_X13_dropBraid K x1 S.2.2) h (c_dropBraid h.1) (fun K => ff_X13_dropBraid) (fun K => ff_X11_dropBraid) (by decide) (fun g hg h9 => by unfold ciH at h9; omega)
theorem st_end : stp lst_end := by
  intro S x1 x2 x3 x4 x5 h
  obtain ⟨zm, ⟨b1, hb1⟩, ⟨⟨k, zc⟩, ⟨b2, hb2⟩, ⟨hR, ha⟩, f2⟩, f1⟩ := te_fo (st := id) (P := pf [1, 11] []) (z0 := S.2.2) (w_monoE (c_end (vl := S.1) (x := x1) h.1) (fun rr h1 => te_fo (st := Prod.snd) (P := fun g => g = 0 + 11001) (z0 := S.2.1) h1 (fun K => ff_X11_end))) (fun K => ff_X13_end)
  refine ⟨(S.1, zc, zm), ⟨b1 + b2, fun K hK => ?_⟩, ⟨hR, CI_fr f2 (fun g hg h9 => by unfold ciH at h9; omega) h.2.1, jnR_fr f1 (by decide) (by decide) h.2.2⟩, Nat.le_refl _⟩
  have q1 : qe_X13_end K x1 S.2.2 = some zm := hb1 K (by omega)
  have q2 : ce_X11_end S.1 K 0 x1 S.2.1 = some (k, zc) := hb2 K (by omega)
  have hl : le_L_end S.1 K 0 x1 S.2.1 = if k = 0 then some (0, zc) else if k = 2 then some (1, zc) else none := by
    unfold le_L_end
    rw [q2]
    rfl
  show (cs1 (le_L_end S.1 K 0 x1 S.2.1) fun v2 zc1 => cs0 (qe_X13_end K x1 S.2.2) fun zm3 => cs1 (qe_X13_thrown K zm3) fun v5 zm4 => (if v5 = v2 then some (S.1, zc1, zm4) else none)) = _
  rw [hl, q1]
  rcases ha with ⟨t0, k0⟩ | ⟨t0, k0⟩
  · have k0 : k = 0 := k0
    rw [k0, if_pos rfl]
    exact if_pos t0
  · have k0 : k = 2 := k0
    rw [k0, if_neg (by decide), if_pos rfl]
    exact if_pos t0
end XSS
section XSJ
variable {vl : Nat → Nat} {y : ow_MS}
theorem tc_jonesK {x x' : Int32} (hM : gM y) (hk : jnC y) (hn : knC y) : Te (fun K => ce_X11_jones vl K 0 x x' y) (fun r => knC r.2.2) := by
  refine e_X11_jones ?_; unfold cm_X11_jones_0
  refine w_tc0 (tc_need hM.1.1) ?_ ?_
  · rintro y1 ⟨h1, rfl⟩
    rcases h1 with ⟨-, d, A, sg, c, hd, rfl, hs, hA, hne⟩ | h1
    · obtain ⟨T, hT, hT2⟩ := hM.1.2.1 40000 nH40
      refine w_cs0 (tc_countStates ch_1000 (by omega) hd hs hA hM.1.1.1 hk hT hT2) ?_
      rintro y2 ⟨g1, g2, g3, g4, g5, g6⟩
      obtain ⟨S, G, q1, q2, q3⟩ := id g2
      refine w_cs1 (tc_jonesAt hA.2.2.2.1 q2) ?_
      rintro v z ⟨e1, e2⟩
      dsimp only at e1 e2
      rw [e2]
      refine w_some ⟨g5 hn.1, fun s hs => ?_, c, hA.2.2.2.1, q2⟩
      rcases (show s = 0 ∨ s = 1 by omega) with e | e
      · obtain ⟨C, c1, c2⟩ := hn.2.1 0 (by omega)
        rw [e]
        exact ⟨C, g4 C c2 c1, c2⟩
      · rw [e]
        exact ⟨_, g1, (okL_c hA).2⟩
    · exact absurd (show (0 : Nat) = 1 from h1.1) (by decide)
  · rintro a y1 ha ⟨h1, rfl⟩
    rcases h1 with ⟨h1, -⟩ | ⟨h1, h2⟩
    · exact absurd h1 ha
    · exact w_some hn
theorem st_jones : stp lst_jones := by
  intro S x1 x2 x3 x4 x5 h
  have hc : Te (fun K => qe_X13_jones K x1 x2 S.2.2) (fun rr => Te (fun K => ce_X11_jones S.1 K 0 x1 x2 S.2.1) (fun rc => REL (S.1, rc.2.2, rr.2) ∧ ansI [(1, 1)] rr rc)) := by
    obtain ⟨h1, ⟨i1, i2, i3, i4, i5, i6, i7, i8⟩, h3⟩ := id h
    refine w_monoE (c_jones (vl := S.1) (x := x1) (x' := x2) h1 ⟨h3, i2, i3⟩) (fun rr hr => w_monoE (te_and hr (tc_jonesK (vl := S.1) (x := x1) (x' := x2) h1.2.1 i2 i1)) (fun rc ⟨⟨⟨q1, q2⟩, ⟨j1, j2, j3⟩, f1, f2⟩, q3⟩ => ⟨⟨q1, ⟨q3, j2, j3, ?_, ?_, ?_, ?_, i8⟩, j1⟩, q2⟩))
    · exact mpC_fr f2 (by unfold jnP; omega) i4
    · obtain ⟨k, k1, k2, k3⟩ := i5
      refine ⟨k, k1, by rw [(f2 41010 (by unfold jnP; omega)).1]; exact k2, fun s hs => ?_⟩
      rw [(f2 41012 (by unfold jnP; omega)).2.1, (f2 41013 (by unfold jnP; omega)).2.1, (f2 41014 (by unfold jnP; omega)).2.1]
      exact k3 s hs
    · intro m hm
      rw [(f2 43005 (by unfold jnP; omega)).2.1]
      exact i6 m hm
    · intro i k hi hk
      rw [(f2 (45001 + i) (by unfold jnP; omega)).2.1]
      exact i7 i k hi hk
  refine st_int (mp := (fun k z => if k = 1 then some (1, z) else none)) hc (fun j k hm => ?_)
  simp only [List.mem_cons, List.not_mem_nil, or_false, Prod.mk.injEq] at hm
  obtain ⟨rfl, rfl⟩ := hm
  exact ⟨by decide, by decide, by decide, fun _ => rfl⟩
end XSJ
