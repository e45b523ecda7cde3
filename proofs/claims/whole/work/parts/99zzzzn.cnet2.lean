/-! the class's nets: swaps, copies, marks -/
section CN2
variable {vl : Nat → Nat} {y : ow_MS} {h v w : Nat} {T : ow_NT}
theorem e_X7_swapped {vl : Nat → Nat} {x0 : Int32} {x1 : Int32} {x2 : Int32} {z : ow_MS} {Q : (Int32 × ow_MS) → Prop} (H : Tt (fun K _ => cm_X7_swapped_0 vl K x0 x1 x2 z) Q) : Te (fun K => ce_X7_swapped vl K x0 x1 x2 z) Q := w_te0 H
theorem tc_swapped {a : Nat} (ha : a < 24) (hv : v < 24) (hw : w < 24) : Te (fun K => ce_X7_swapped vl K (nI a) (nI v) (nI w) y) (fun r => r.1 = nI (np_sw a v w) ∧ r.2 = y) := by
  refine e_X7_swapped ?_; unfold cm_X7_swapped_0
  unfold np_sw
  refine w_eqN (by omega) (by omega) (fun e => w_some ⟨?_, rfl⟩) (fun e => w_eqN (by omega) (by omega) (fun e1 => w_some ⟨?_, rfl⟩) (fun e1 => w_some ⟨?_, rfl⟩))
  · rw [if_pos e]
  · rw [if_neg e, if_pos e1]
  · rw [if_neg e, if_neg e1]
theorem sw_lt {a : Nat} (ha : a < 24) (hv : v < 24) (hw : w < 24) : np_sw a v w < 24 := by
  unfold np_sw
  split
  · exact hw
  · split
    · exact hv
    · exact ha
theorem e_X7_swapPlaces {vl : Nat → Nat} {r0 : Nat} {x1 : Int32} {x2 : Int32} {z : ow_MS} {Q : ow_MS → Prop} (H : Tt (fun K _ => cm_X7_swapPlaces_0 vl K x1 x2 r0 z) Q) : Te (fun K => ce_X7_swapPlaces vl K r0 x1 x2 z) Q := w_te0 H
theorem tc_swapPlaces (hh : nH h) (hy : cAt y h T) (hb : ow_b24 T.2.2.1) (hv : v < 24) (hw : w < 24) : Te (fun K => ce_X7_swapPlaces vl K h (nI v) (nI w) y) (fun y1 => cAt y1 h (ntS T (np_swap T.2.2.1 v w)) ∧ fr (cP h) y y1) := by
  refine e_X7_swapPlaces ?_; unfold cm_X7_swapPlaces_0
  refine w_crI (nH_2 hh) rfl hv (hy.2.2.2.1 v) (w_cs1 (tc_swapped (hb.2 v) hv hw) ?_)
  rintro a1 y1 ⟨e1, e2⟩
  dsimp only at e1 e2
  subst e1
  subst e2
  refine w_crI (nH_1 hh) rfl hv (hy.2.2.1 v) (w_cs1 (tc_swapped (hb.1 v) hv hw) ?_)
  rintro a1 y1 ⟨e1, e2⟩
  dsimp only at e1 e2
  subst e1
  subst e2
  refine w_crI (nH_2 hh) rfl hw (hy.2.2.2.1 w) (w_cs1 (tc_swapped (hb.2 w) hv hw) ?_)
  rintro a1 y1 ⟨e1, e2⟩
  dsimp only at e1 e2
  subst e1
  subst e2
  refine w_crI (nH_1 hh) rfl hw (hy.2.2.1 w) (w_cs1 (tc_swapped (hb.1 w) hv hw) ?_)
  rintro a1 y1 ⟨e1, e2⟩
  dsimp only at e1 e2
  subst e1
  subst e2
  refine w_cs0 (tc_link hh hy (sw_lt (hb.2 v) hv hw) hw) ?_
  rintro y1 ⟨h1, f1⟩
  refine w_cs0 (tc_link hh h1 hw (sw_lt (hb.1 v) hv hw)) ?_
  rintro y2 ⟨h2, f2⟩
  refine w_cs0 (tc_link hh h2 (sw_lt (hb.2 w) hv hw) hv) ?_
  rintro y3 ⟨h3, f3⟩
  refine w_cs0 (tc_link hh h3 hv (sw_lt (hb.1 w) hv hw)) ?_
  rintro y4 ⟨h4, f4⟩
  exact w_some ⟨h4, fr_tr (fr_tr (fr_tr f1 f2) f3) f4⟩
theorem e_X7_flipCrossing {vl : Nat → Nat} {r0 : Nat} {x1 : Int32} {z : ow_MS} {Q : ow_MS → Prop} (H : Tt (fun K _ => cm_X7_flipCrossing_0 vl K x1 r0 z) Q) : Te (fun K => ce_X7_flipCrossing vl K r0 x1 z) Q := w_te0 H
theorem tc_flipCrossing {x : Nat} (hh : nH h) (hy : cAt y h T) (hb : ow_b24 T.2.2.1) (hx : x < 12) : Te (fun K => ce_X7_flipCrossing vl K h (nI x) y) (fun y1 => cAt y1 h (T.1, T.2.1, np_swap T.2.2.1 (2 * x) (2 * x + 1), su T.2.2.2 x (- T.2.2.2 x)) ∧ fr (cP h) y y1) := by
  refine e_X7_flipCrossing ?_; unfold cm_X7_flipCrossing_0
  rw [show (2 : Int32) * nI x = nI (2 * x) from pk_mul 2 x, nI_1]
  refine w_cs0 (tc_swapPlaces hh hy hb (show 2 * x < 24 by omega) (show 2 * x + 1 < 24 by omega)) ?_
  rintro y1 ⟨⟨a, b, c, d, e⟩, f1⟩
  refine w_crI (nH_3 hh) rfl hx (e x) (w_ctI (nH_3 hh) rfl hx (w_some ⟨⟨a, b, fun k => rd_ot (by omega) (c k), fun k => rd_ot (by omega) (d k), fun k => ?_⟩, fr_I2 f1 (Or.inl (by omega))⟩))
  show _ = if k = x then _ else T.2.2.2 k
  by_cases e1 : k = x
  · rw [if_pos e1, e1]
    exact po_usI_at
  · rw [if_neg e1]
    exact rd_ne e1 (e k)
theorem b24_exchange {S : ow_NP} (hb : ow_b24 S) (hv : v < 24) (hw : w < 24) : ow_b24 (np_exchange S v w) := b24_nl (b24_nl hb hv (hb.1 w)) hw (hb.1 v)
theorem e_X7_smoothCrossing {vl : Nat → Nat} {r0 : Nat} {x1 : Int32} {z : ow_MS} {Q : ow_MS → Prop} (H : Tt (fun K _ => cm_X7_smoothCrossing_0 vl K x1 r0 z) Q) : Te (fun K => ce_X7_smoothCrossing vl K r0 x1 z) Q := w_te0 H
theorem tc_smoothCrossing {x : Nat} (hh : nH h) (hy : cAt y h T) (hb : ow_b24 T.2.2.1) (hx : x < T.1) (hT : T.1 ≤ 12) : Te (fun K => ce_X7_smoothCrossing vl K h (nI x) y) (fun y1 => cAt y1 h (nt_rm (ntS T (np_exchange T.2.2.1 (2 * x) (2 * x + 1))) x) ∧ fr (cP h) y y1) := by
  refine e_X7_smoothCrossing ?_; unfold cm_X7_smoothCrossing_0
  rw [show (2 : Int32) * nI x = nI (2 * x) from pk_mul 2 x, nI_1]
  refine w_cs0 (tc_exchange hh hy hb (show 2 * x < 24 by omega) (show 2 * x + 1 < 24 by omega)) ?_
  rintro y1 ⟨h1, f1⟩
  refine w_cs0 (tc_removeCrossing hh h1 (b24_exchange hb (show 2 * x < 24 by omega) (show 2 * x + 1 < 24 by omega)) hx hT) ?_
  rintro y2 ⟨h2, f2⟩
  exact w_some ⟨h2, fr_tr f1 f2⟩
theorem e_X7_empty {vl : Nat → Nat} {r0 : Nat} {z : ow_MS} {Q : ow_MS → Prop} (H : Tt (fun K _ => cm_X7_empty_0 vl K r0 z) Q) : Te (fun K => ce_X7_empty vl K r0 z) Q := w_te0 H
theorem tc_empty (hy : cAt y h T) : Te (fun K => ce_X7_empty vl K h y) (fun y1 => cAt y1 h (0, 0, T.2.2) ∧ fr (cP h) y y1) := by
  refine e_X7_empty ?_; unfold cm_X7_empty_0
  exact w_wrF (w_wrF (w_some ⟨cAt_o (o := 0) (cAt_c (o := 0) hy), fr_F2 (fr_F2 fr_rf (Or.inr (Or.inl rfl))) (Or.inr (Or.inr rfl))⟩))
theorem cpy_nI {N M : Nat → Nat} {a b n k : Nat} {f g : Nat → Int32} (hf : ∀ k, f k = nI (N k)) (hg : ∀ k, g k = nI (M k)) : va_cpy f g a b n k = nI (va_cpy N M a b n k) := by
  unfold va_cpy
  split
  · exact hf _
  · exact hg _
theorem cpy_eq {N M : Nat → Int32} {a b n k : Nat} {f g : Nat → Int32} (hf : ∀ k, f k = N k) (hg : ∀ k, g k = M k) : va_cpy f g a b n k = va_cpy N M a b n k := by
  unfold va_cpy
  split
  · exact hf _
  · exact hg _
theorem usR_at {f : Nat → Int32} {g : Nat} : (usR y g f).2.1 g = f := if_pos rfl
theorem usR_ot {f : Nat → Int32} {g g' : Nat} (hg : g' ≠ g) : (usR y g f).2.1 g' = y.2.1 g' := if_neg hg
theorem fr_R2 {P : Nat → Prop} {z1 : ow_MS} {f : Nat → Int32} {g : Nat} (h1 : fr P y z1) (hg : P g) : fr P y (usR z1 g f) := by
  intro g' h9
  refine ⟨(h1 g' h9).1, ?_, (h1 g' h9).2.2⟩
  rw [usR_ot (fun e => h9 (by rw [e]; exact hg))]
  exact (h1 g' h9).2.1
/-- two nets that share no cell -/
def nDj (h g : Nat) : Prop := h + 12 ≤ g ∨ g + 12 ≤ h
theorem e_X7_copy {vl : Nat → Nat} {r0 : Nat} {r1 : Nat} {z : ow_MS} {Q : ow_MS → Prop} (H : Tt (fun K _ => cm_X7_copy_0 vl K r0 r1 z) Q) : Te (fun K => ce_X7_copy vl K r0 r1 z) Q := w_te0 H
theorem tc_copy {g : Nat} {R : ow_NT} (hh : nH h) (hg : nH g) (hd : nDj h g) (hy : cAt y h T) (hr : cAt y g R) (hR : R.1 ≤ 12) : Te (fun K => ce_X7_copy vl K h g y) (fun y1 => cAt y1 h (nt_copy T R) ∧ fr (cP h) y y1) := by
  unfold nDj at hd
  obtain ⟨a, b, c, d, e⟩ := hy
  obtain ⟨a', b', c', d', e'⟩ := hr
  refine e_X7_copy ?_; unfold cm_X7_copy_0
  refine w_rdF a' (w_wrF (w_rdF (x := nI R.2.1) (rf_ot (by omega) b') (w_wrF (w_rdF (x := nI R.1) (rf_ot (by omega) po_usF_at) ?_))))
  rw [show (2 : Int32) * nI R.1 = nI (2 * R.1) from pk_mul 2 _]
  refine w_cpI (a := 0) (b := 0) (nH_1 hg) (nH_1 hh) rfl rfl rfl (by omega) (by omega) (w_rdF (x := nI R.1) (rf_ot (by omega) po_usF_at) ?_)
  rw [show (2 : Int32) * nI R.1 = nI (2 * R.1) from pk_mul 2 _]
  refine w_cpI (a := 0) (b := 0) (nH_2 hg) (nH_2 hh) rfl rfl rfl (by omega) (by omega) (w_rdF (x := nI R.1) (rf_ot (by omega) po_usF_at) ?_)
  refine w_cpI (a := 0) (b := 0) (nH_3 hg) (nH_3 hh) rfl rfl rfl (by omega) (by omega) (w_some ⟨⟨rf_ot (by omega) po_usF_at, po_usF_at, fun k => ?_, fun k => ?_, fun k => ?_⟩, fr_R2 (fr_R2 (fr_R2 (fr_F2 (fr_F2 fr_rf (Or.inr (Or.inl rfl))) (Or.inr (Or.inr rfl))) (Or.inl (by omega))) (Or.inl (by omega))) (Or.inl (by omega))⟩)
  · rw [usR_ot (by omega), usR_ot (by omega), usR_at]
    exact cpy_nI c' c
  · rw [usR_ot (by omega), usR_at, usR_ot (by omega), usR_ot (by omega)]
    exact cpy_nI d' d
  · rw [usR_at, usR_ot (by omega), usR_ot (by omega), usR_ot (by omega), usR_ot (by omega)]
    exact cpy_eq e' e
theorem e_J7_rangeCheck_23922 {vl : Nat → Nat} {x0 : Int32} {x1 : Int32} {x2 : Int32} {z : ow_MS} {Q : ow_MS → Prop} (H : Tt (fun K _ => cm_J7_rangeCheck_23922_0 vl K x0 x1 x2 z) Q) : Te (fun K => ce_J7_rangeCheck_23922 vl K x0 x1 x2 z) Q := w_te0 H
theorem tc_range {l a b : Nat} (h1 : a ≤ b) (h2 : b ≤ l) (hl : l < 2 ^ 31) : Te (fun K => ce_J7_rangeCheck_23922 vl K (nI l) (nI a) (nI b) y) (fun y1 => y1 = y) := by
  refine e_J7_rangeCheck_23922 ?_; unfold cm_J7_rangeCheck_23922_0
  exact w_leT (by omega) h1 (w_leT (a := 0) (by omega) (by omega) (w_leT (by omega) h2 (w_some rfl)))
theorem u_J7_fill_fda19_1 {vl : Nat → Nat} {x1 : Int32} {x2 : Int32} {x3 : Int32} {x4 : Int32} {r0 : Nat} {z : ow_MS} {Q : ow_MS → Prop} (H : Tt (fun K k => cm_J7_fill_fda19_1 vl K (c_J7_fill_fda19 vl K k) x1 x2 x3 x4 r0 z) Q) : Tt (fun K k => c_J7_fill_fda19 vl K k 1 x1 x2 x3 x4 r0 z) Q := w_un (fun _ _ => rfl) H
theorem e_J7_fill_fda19 {vl : Nat → Nat} {r0 : Nat} {x1 : Int32} {x2 : Int32} {x3 : Int32} {z : ow_MS} {Q : ow_MS → Prop} (H : Tt (fun K k => c_J7_fill_fda19 vl K k 0 x1 x2 x3 0 r0 z) Q) : Te (fun K => ce_J7_fill_fda19 vl K r0 x1 x2 x3 z) Q := w_te H
theorem u_J7_fill_fda19_0 {vl : Nat → Nat} {x1 : Int32} {x2 : Int32} {x3 : Int32} {x4 : Int32} {r0 : Nat} {z : ow_MS} {Q : ow_MS → Prop} (H : Tt (fun K k => cm_J7_fill_fda19_0 vl K (c_J7_fill_fda19 vl K k) x1 x2 x3 x4 r0 z) Q) : Tt (fun K k => c_J7_fill_fda19 vl K k 0 x1 x2 x3 x4 r0 z) Q := w_un (fun _ _ => rfl) H
theorem tc_fill {g l a b : Nat} {x : Int32} (hL : ((cX vl).2 g).2.1 = l) (h1 : a ≤ b) (h2 : b ≤ l) (hl : l < 2 ^ 31) : Te (fun K => ce_J7_fill_fda19 vl K g (nI a) (nI b) x y) (fun y1 => (∀ k, y1.2.1 g k = if a ≤ k ∧ k < b then x else y.2.1 g k) ∧ fr (fun q => q = g) y y1) := by
  let Q : ow_MS → Prop := fun y1 => (∀ k, y1.2.1 g k = if a ≤ k ∧ k < b then x else y.2.1 g k) ∧ fr (fun q => q = g) y y1
  have c1 : ∀ (d i : Nat) (y1 : ow_MS), i + d = b → a ≤ i → (∀ k, y1.2.1 g k = if a ≤ k ∧ k < i then x else y.2.1 g k) → fr (fun q => q = g) y y1 → Tt (fun K t => c_J7_fill_fda19 vl K t 1 (nI a) (nI b) x (nI i) g y1) Q := by
    intro d
    induction d with
    | zero =>
      intro i y1 hi ha hk hf
      have e : i = b := by omega
      subst e
      refine u_J7_fill_fda19_1 ?_; unfold cm_J7_fill_fda19_1
      exact w_leT (by omega) (by omega) (w_some ⟨hk, hf⟩)
    | succ d ih =>
      intro i y1 hi ha hk hf
      refine u_J7_fill_fda19_1 ?_; unfold cm_J7_fill_fda19_1
      rw [nI_1]
      refine w_leF (by omega) (by omega) (w_ctI hL rfl (by omega) (ih (i + 1) _ (by omega) (by omega) (fun k => ?_) (fr_I2 hf rfl)))
      by_cases e : k = i
      · rw [e, if_pos (by omega)]
        exact po_usI_at
      · rw [show (usI y1 g i x).2.1 g k = y1.2.1 g k from po_usI_ne e, hk]
        by_cases e1 : a ≤ k ∧ k < i
        · rw [if_pos e1, if_pos (by omega)]
        · rw [if_neg e1, if_neg (by omega)]
  refine e_J7_fill_fda19 ?_
  refine u_J7_fill_fda19_0 ?_; unfold cm_J7_fill_fda19_0
  unfold uw_len
  rw [hL]
  refine w_cs0 (tc_range h1 h2 hl) ?_
  rintro y1 e
  subst e
  exact c1 (b - a) a _ (by omega) (by omega) (fun k => by rw [if_neg (by omega)]) fr_rf
end CN2
