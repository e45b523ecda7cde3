/-! normal answers the same -/
theorem far_nf {g : Nat} (hg : 46001 ≤ g) : ∀ h, nH h → ¬ cP h g := by
  intro h hh h9
  have key : ∀ a, a ∈ nHL → a ≤ 45000 := by decide
  have := key h hh
  unfold cP at h9
  omega
section NFA
variable {X : (Nat → Nat → Int32) → Prop} {P Q : Nat → Prop} {z z1 y y1 : ow_MS} {vl : Nat → Nat} {x x' : Int32}
theorem gM_nf (hf : fr Q y y1) (hQ : ∀ g, Q g → 46001 ≤ g ∧ g < 52000) (h : gM y) : gM y1 := ⟨⟨dgC_fr hf (fun g g1 g2 h9 => by have := hQ g h9; omega) h.1.1, nsC_fr hf (fun h hh g hg h9 => far_nf (g := g) (by have := hQ g h9; omega) h hh hg) h.1.2.1, kdC_fr hf (fun g h9 => by have := hQ g h9; omega) h.1.2.2⟩, tbs_fr hf (fun g h9 => by have := hQ g h9; omega) h.2⟩
theorem rel3_nf (hz : fr P z z1) (hy : fr Q y y1) (h1 : ∀ g, P g → g = 1 ∨ 108 ≤ g) (h2 : ∀ g, Q g → 46001 ≤ g ∧ g < 52000) (hI : gI X z1) (h : rel3 X z y) : rel3 X z1 y1 := by
  obtain ⟨⟨St, k1, k2, k3, k4, k5⟩, hM, t1, t2, t3, ⟨Ms, m1, m2, m3⟩, Ns, n1, n2, n3⟩ := h
  have hM1 := gM_nf hy h2 hM
  have no : ∀ g, 2 ≤ g → g < 108 → ¬ P g := fun g g1 g2 h9 => by
    have := h1 g h9
    omega
  have no2 : ∀ g, g < 46001 → ¬ Q g := fun g g2 h9 => by
    have := h2 g h9
    omega
  exact ⟨⟨St, hI, hM1.1, relR_fr hz (no 12 (by omega) (by omega)) k3, relC_fr hy (fun q hq => no2 q (by unfold cW at hq; omega)) k4, k5⟩, hM1, relT_k hz hy ⟨no _ (by omega) (by omega), no _ (by omega) (by omega)⟩ ⟨no2 _ (by omega), no2 _ (by omega)⟩ t1, relB_k hz hy ⟨no _ (by omega) (by omega), no _ (by omega) (by omega), no _ (by omega) (by omega)⟩ ⟨no2 _ (by omega), no2 _ (by omega), no2 _ (by omega)⟩ t2, brC_fr hy ⟨no2 _ (by omega), no2 _ (by omega), no2 _ (by omega)⟩ t3, ⟨Ms, rlR_k hz ⟨no _ (by omega) (by omega), no _ (by omega) (by omega), no _ (by omega) (by omega)⟩ m1, rlC_k hy (fun q hq => no2 q (by unfold cV at hq; omega)) m2, m3⟩, Ns, rlR_k hz ⟨no _ (by omega) (by omega), no _ (by omega) (by omega), no _ (by omega) (by omega)⟩ n1, rlC_k hy (fun q hq => no2 q (by unfold cV at hq; omega)) n2, n3⟩
theorem pf_nf {L : List Nat} (h : (L.all (fun g => g == 1 || decide (108 ≤ g))) = true) : ∀ g, pf L [] g → g = 1 ∨ 108 ≤ g := by
  rintro g (h1 | h1 | h1)
  · have h2 := List.all_eq_true.mp h g h1
    simp only [Bool.or_eq_true, beq_iff_eq, decide_eq_true_eq] at h2
    exact h2
  · exact absurd h1 List.not_mem_nil
  · omega
/-- a braid of the class, its letters -/
def brW (y : ow_MS) (x : Int32) (b n l : Nat) (w : Nat → Nat × Bool) : Prop := b < 20 ∧ x = nI b ∧ 2 ≤ n ∧ n ≤ 5 ∧ y.2.1 15 b = nI n ∧ l ≤ 16 ∧ y.2.1 14 b = nI l ∧ ∀ i, i < l → (w i).1 + 1 < n ∧ y.2.1 13 (16 * b + i) = lx9 (w i)
theorem wd_w {b n l : Nat} (h : wdB y b n l) : ∃ w : Nat → Nat × Bool, ∀ i, i < l → (w i).1 + 1 < n ∧ y.2.1 13 (16 * b + i) = lx9 (w i) := by
  refine Classical.axiomOfChoice (r := fun i p => i < l → p.1 + 1 < n ∧ y.2.1 13 (16 * b + i) = lx9 p) (fun i => ?_)
  by_cases hi : i < l
  · obtain ⟨a, e, a1, a2⟩ := h i hi
    by_cases h0 : 0 ≤ a
    · refine ⟨(a.natAbs - 1, false), fun _ => ⟨show a.natAbs - 1 + 1 < n by omega, ?_⟩⟩
      rw [e]
      show iI a = nI (a.natAbs - 1 + 1)
      rw [nI_iI]
      congr 1
      omega
    · refine ⟨(a.natAbs - 1, true), fun _ => ⟨show a.natAbs - 1 + 1 < n by omega, ?_⟩⟩
      rw [e]
      show iI a = -1 - nI (a.natAbs - 1)
      rw [nI_iI, show (-1 : Int32) = iI (-1) from rfl, iI_sub]
      congr 1
      omega
  · exact ⟨(0, false), fun h9 => absurd h9 hi⟩
/-- what the class makes of it -/
def fmC (y : ow_MS) (h n l : Nat) (w : Nat → Nat × Bool) (F : List Nat) (j : Nat) : Prop := foA y h n (iI ((foT n w l).2 + (j : Nat))) (F.map (pkG n)) ∧ nfL n F ∧ F.length ≤ l ∧ eqT n (foT n w l).1 (List.replicate j (gNN n - 1) ++ F)
def nvN (x' : Int32) (n l : Nat) (k : Int32) (m : Nat) : Int32 := if x' = 0 then k else if x' = 1 then nI m else if x' = 2 then nI l else nI n
theorem xc_normal (hB : brC y) : Te (fun K => ce_X11_normal vl K 0 x x' y) (fun r => r.1 = 1 ∧ noB (y.2.1 15) x ∨ ∃ b n l w, brW y x b n l w ∧ (r.1 = 2 ∧ (x' < 0 ∨ ¬ x' ≤ 3) ∨ r.1 = 0 ∧ ¬ x' < 0 ∧ x' ≤ 3 ∧ ∃ F j, nfL n F ∧ eqT n (foT n w l).1 (List.replicate j (gNN n - 1) ++ F) ∧ r.2.1 = nvN x' n l (iI ((foT n w l).2 + (j : Nat))) F.length)) := by
  refine e_X11_normal ?_; unfold cm_X11_normal_0
  refine w_tc0 (tc_needBraid (brC_E hB)) ?_ ?_
  · rintro y1 ⟨h1, rfl⟩
    rcases h1 with ⟨-, hb⟩ | h1
    · obtain ⟨b, n, l, hb20, rfl, hn2, hn5, e15, l16, e14, hwd⟩ := isB_w hB hb
      obtain ⟨w, hw⟩ := wd_w hwd
      have hW : brW y1 (nI b) b n l w := ⟨hb20, rfl, hn2, hn5, e15, l16, e14, hw⟩
      refine w_if (fun f0 => w_some (Or.inr ⟨b, n, l, w, hW, Or.inl ⟨rfl, Or.inl f0⟩⟩)) (fun f0 => w_if (fun f3 => w_cs0 (xc_writeF fo46 hn2 hn5 hb20 e15 l16 e14 hw) ?_) (fun f3 => w_some (Or.inr ⟨b, n, l, w, hW, Or.inl ⟨rfl, Or.inr f3⟩⟩)))
      rintro y2 ⟨F, j, g1, g3, g4, g5, g2⟩
      have q14 : y2.2.1 14 b = nI l := (congrFun (g2 14 (by unfold foP; omega)).2.1 b).trans e14
      have q15 : y2.2.1 15 b = nI n := (congrFun (g2 15 (by unfold foP; omega)).2.1 b).trans e15
      have fin : ∀ v, v = nvN x' n l (iI ((foT n w l).2 + (j : Nat))) F.length → Tt (fun _ _ => some ((0 : Nat), v, y2)) (fun r => r.1 = 1 ∧ noB (y1.2.1 15) (nI b) ∨ ∃ b' n l w, brW y1 (nI b) b' n l w ∧ (r.1 = 2 ∧ (x' < 0 ∨ ¬ x' ≤ 3) ∨ r.1 = 0 ∧ ¬ x' < 0 ∧ x' ≤ 3 ∧ ∃ F j, nfL n F ∧ eqT n (foT n w l).1 (List.replicate j (gNN n - 1) ++ F) ∧ r.2.1 = nvN x' n l (iI ((foT n w l).2 + (j : Nat))) F.length)) := fun v hv => w_some (Or.inr ⟨b, n, l, w, hW, Or.inr ⟨rfl, f0, f3, F, j, g3, g5, hv⟩⟩)
      rcases five f0 (Int32.le_trans f3 (by decide)) with h | h | h | h | h | h
      · subst h
        exact w_ifF (by decide) (w_ifT rfl (w_rdF g1.2.1 (fin _ rfl)))
      · subst h
        exact w_ifF (by decide) (w_ifF (by decide) (w_ifT rfl (w_rdF (fo_len g1).1 (fin _ rfl))))
      · subst h
        exact w_ifF (by decide) (w_ifF (by decide) (w_ifF (by decide) (w_ifT rfl (w_crI ch_14 rfl hb20 q14 (fin _ rfl)))))
      · subst h
        exact w_ifT (by decide) (w_crI ch_15 rfl hb20 q15 (fin _ rfl))
      · rw [h] at f3
        exact absurd f3 (by decide)
      · rw [h] at f3
        exact absurd f3 (by decide)
    · exact absurd (show (0 : Nat) = 1 from h1.1) (by decide)
  · rintro a y1 ha ⟨h1, rfl⟩
    rcases h1 with h1 | h1
    · exact absurd h1.1 ha
    · exact w_some (Or.inl ⟨h1.1, h1.2⟩)
theorem xq_normal (h : gI X z) (hG : ∀ W, X W → XG W) : Te (fun K => qe_X13_normal K x x' z) (fun r => (r.2.1 1 = nI 1 ∧ noB (z.2.1 96) x ∨ ∃ b n l, b < 20 ∧ x = nI b ∧ hBr z b n l ∧ (r.2.1 1 = nI 2 ∧ (x' < 0 ∨ ¬ x' ≤ 3) ∨ r.2.1 1 = 0 ∧ ¬ x' < 0 ∧ x' ≤ 3))) := by
  have h1 := gI_1 (c := 0) h
  let Q : Int32 × ow_MS → Prop := fun r => (r.2.1 1 = nI 1 ∧ noB (z.2.1 96) x ∨ ∃ b n l, b < 20 ∧ x = nI b ∧ hBr z b n l ∧ (r.2.1 1 = nI 2 ∧ (x' < 0 ∨ ¬ x' ≤ 3) ∨ r.2.1 1 = 0 ∧ ¬ x' < 0 ∧ x' ≤ 3))
  refine e_X13_normal ?_
  refine u_X13_normal_0 ?_; unfold qm_X13_normal_0
  refine w_wrF (w_hasBX h1.2.2.2.2.2.1 (fun h0 => w_ifT rfl (w_mono (w_failX (k := 1) h1 fr_1) (fun r hr => Or.inl ⟨hr.2.1, h0⟩))) (fun b n l hc hx hh => w_ifF (by decide) ?_))
  have c1 : (x' < 0 ∨ ¬ x' ≤ 3) → Tt (fun K i => q_X13_normal K i 1 x x' (usF z 1 0)) Q := by
    intro hv
    refine u_X13_normal_1 ?_; unfold qm_X13_normal_1
    exact w_mono (w_failX (k := 2) h1 fr_1) (fun r hr => Or.inr ⟨b, n, l, hc, hx, hh, Or.inl ⟨hr.2.1, hv⟩⟩)
  have fin : ∀ (v : Int32) (y : ow_MS), y.1 1 = 0 → ¬ x' < 0 → x' ≤ 3 → Tt (fun _ _ => some (v, y)) Q := fun v y e f0 f3 => w_some (Or.inr ⟨b, n, l, hc, hx, hh, Or.inr ⟨e, f0, f3⟩⟩)
  subst hx
  refine w_if (fun f0 => c1 (Or.inl f0)) (fun f0 => w_if (fun f3 => w_if (fun _ => w_rdI ml95 rfl (by omega) rfl (fin _ _ po_usF_at f0 f3)) (fun _ => w_if (fun _ => w_rdI ml96 rfl (by omega) rfl (fin _ _ po_usF_at f0 f3)) (fun _ => w_cs0 (tp_formOf hc hh (gI_tb hG h1)) (fun y ⟨_, f1⟩ => ?_)))) (fun f3 => c1 (Or.inr f3)))
  have e1 : y.1 1 = 0 := (f1 1 (by unfold nmH; omega)).1.trans po_usF_at
  exact w_if (fun _ => w_rdF rfl (fin _ _ e1 f0 f3)) (fun _ => w_rdF rfl (fin _ _ e1 f0 f3))
theorem xr_normal {b n l : Nat} {w : Nat → Nat × Bool} {F : List Nat} {j : Nat} (h : gI X z) (hG : ∀ W, X W → XG W) (hb : b < 20) (hh : hBr z b n l) (hwd : ∀ i, i < l → (w i).1 + 1 < n ∧ z.2.1 94 (16 * b + i) = lx9 (w i)) (hF : nfL n F) (he : eqT n (foT n w l).1 (List.replicate j (gNN n - 1) ++ F)) (f0 : ¬ x' < 0) (f3 : x' ≤ 3) : Te (fun K => qe_X13_normal K (nI b) x' z) (fun r => r.1 = nvN x' n l (iI ((foT n w l).2 + (j : Nat))) F.length) := by
  have h1 := gI_1 (c := 0) h
  refine e_X13_normal ?_
  refine u_X13_normal_0 ?_; unfold qm_X13_normal_0
  refine w_wrF (w_hasBX h1.2.2.2.2.2.1 (fun h0 => ?_) (fun b' n' l' hc hx hh' => w_ifF (by decide) ?_))
  · exfalso
    have := h0 b hb rfl
    have e96 : (usF z 1 0).2.1 96 b = nI n := hh.2.2.2.1
    rw [e96] at this
    exact nI_ne0 (by have := hh.1; omega) (by have := hh.2.1; omega) this
  · have e95 : (usF z 1 0).2.1 95 b = nI l := hh.2.2.2.2.1
    have e96 : (usF z 1 0).2.1 96 b = nI n := hh.2.2.2.1
    have fo := xr_formOf (z := usF z 1 0) hb hh (gI_tb hG h1) hwd hF he
    rcases five f0 (Int32.le_trans f3 (by decide)) with h | h | h | h | h | h
    · subst h
      exact w_ifF (by decide) (w_ifT (by decide) (w_ifF (by decide) (w_ifF (by decide) (w_cs0 fo (fun y1 ⟨k1, k2⟩ => w_ifT rfl (w_rdF k2 (w_some rfl)))))))
    · subst h
      exact w_ifF (by decide) (w_ifT (by decide) (w_ifF (by decide) (w_ifF (by decide) (w_cs0 fo (fun y1 ⟨k1, k2⟩ => w_ifF (by decide) (w_rdF k1.1.1 (w_some rfl)))))))
    · subst h
      exact w_ifF (by decide) (w_ifT (by decide) (w_ifT rfl (w_rdI ml95 rfl (by omega) e95 (w_some rfl))))
    · subst h
      exact w_ifF (by decide) (w_ifT (by decide) (w_ifF (by decide) (w_ifT rfl (w_rdI ml96 rfl (by omega) e96 (w_some rfl)))))
    · rw [h] at f3
      exact absurd f3 (by decide)
    · rw [h] at f3
      exact absurd f3 (by decide)
theorem c_normal (hG : ∀ W, X W → XG W) (h : rel3 X z y) : Te (fun K => qe_X13_normal K x x' z) (fun rr => Te (fun K => ce_X11_normal vl K 0 x x' y) (fun rc => rel3 X rr.2 rc.2.2 ∧ ansI [(1, 1), (2, 2)] rr rc)) := by
  have hI := r3_g h
  have hB := h.2.2.2.2.1
  have hR := h.2.2.2.1
  have ref := te_all (α := Nat × Nat × Nat × (Nat → Nat × Bool) × List Nat × Nat) (H := fun a => a.1 < 20 ∧ x = nI a.1 ∧ hBr z a.1 a.2.1 a.2.2.1 ∧ (∀ i, i < a.2.2.1 → (a.2.2.2.1 i).1 + 1 < a.2.1 ∧ z.2.1 94 (16 * a.1 + i) = lx9 (a.2.2.2.1 i)) ∧ nfL a.2.1 a.2.2.2.2.1 ∧ eqT a.2.1 (foT a.2.1 a.2.2.2.1 a.2.2.1).1 (List.replicate a.2.2.2.2.2 (gNN a.2.1 - 1) ++ a.2.2.2.2.1) ∧ ¬ x' < 0 ∧ x' ≤ 3) (R := fun a r => r.1 = nvN x' a.2.1 a.2.2.1 (iI ((foT a.2.1 a.2.2.2.1 a.2.2.1).2 + (a.2.2.2.2.2 : Nat))) a.2.2.2.2.1.length) (te_fo (te_and (tp_normal (b := x) (w := x') hG hI) (xq_normal (x := x) (x' := x') hI hG)) (fun K => ff_X13_normal)) (fun a ⟨a1, a2, a3, a4, a5, a6, a7, a8⟩ => by
    rw [a2]
    exact xr_normal hI hG a1 a3 a4 a5 a6 a7 a8)
  refine te_two ref (te_fo (xc_normal (x := x) (x' := x') hB) (fun K => ff_X11_normal)) (fun rr rc ⟨⟨⟨hgI, hr⟩, fR⟩, hall⟩ ⟨hc, fC⟩ => ⟨rel3_nf fR fC (pf_nf (by decide)) (fun g hg => by omega) hgI h, ?_⟩)
  rcases hr with ⟨r1, r2⟩ | ⟨b, n, l, hb, hx, hh, hr⟩
  · rcases hc with ⟨c1, -⟩ | ⟨b, n, l, w, ⟨w1, w2, w3, w4, w5, -⟩, -⟩
    · exact Or.inr ⟨1, 1, by simp, r1, c1⟩
    · have := r2 b w1 w2
      rw [(hR b w1).1, w5] at this
      exact absurd this (nI_ne0 (by omega) (by omega))
  · rcases hc with ⟨c1, c2⟩ | ⟨b', n', l', w, ⟨w1, w2, w3, w4, w5, w6, w7, w8⟩, hc⟩
    · have := c2 b hb hx
      rw [← (hR b hb).1, hh.2.2.2.1] at this
      exact absurd this (nI_ne0 (by have := hh.1; omega) (by have := hh.2.1; omega))
    · have eb := nI_inj9 (a := b) (b := b') (by omega) (by omega) (hx.symm.trans w2)
      subst eb
      have e96 := (hR b hb).1
      have en : n = n' := nI_inj9 (by have := hh.2.1; omega) (by omega) (hh.2.2.2.1.symm.trans (e96.trans w5))
      subst en
      have hne : z.2.1 96 b ≠ 0 := by
        rw [hh.2.2.2.1]
        exact nI_ne0 (by omega) (by omega)
      obtain ⟨k1, k2⟩ := (hR b hb).2 hne
      have el : l = l' := nI_inj9 (by have := hh.2.2.1; omega) (by omega) (hh.2.2.2.2.1.symm.trans (k1.trans w7))
      subst el
      have hwz : ∀ i, i < l → (w i).1 + 1 < n ∧ z.2.1 94 (16 * b + i) = lx9 (w i) := fun i hi => ⟨(w8 i hi).1, by rw [k2 l w6 hh.2.2.2.2.1 i hi]; exact (w8 i hi).2⟩
      rcases hr with ⟨r1, r2⟩ | ⟨r1, f0, f3⟩
      · rcases hc with ⟨c1, -⟩ | ⟨-, c2, c3, -⟩
        · exact Or.inr ⟨2, 2, by simp, r1, c1⟩
        · rcases r2 with r2 | r2
          · exact absurd r2 c2
          · exact absurd c3 r2
      · rcases hc with ⟨-, c2⟩ | ⟨c1, -, -, F, j, c4, c5, c6⟩
        · rcases c2 with c2 | c2
          · exact absurd c2 f0
          · exact absurd f3 c2
        · refine Or.inl ⟨r1, c1, ?_⟩
          rw [c6]
          exact hall (b, n, l, w, F, j) ⟨hb, hx, hh, hwz, c4, c5, f0, f3⟩
end NFA
