section
/-! 99zzzzm.cnet -/
/-! the class: rules for its rows, and what changes a net -/
section CW
variable {O : Type} {X : ow_Tb} {z : ow_MS} {h i len : Nat} {j x : Int32} {y : Int64} {Q : O → Prop}
theorem w_crI {E : Int32 → Nat → Nat → Option O} (hL : (X.2 h).2.1 = len) (hj : j = nI i) (hi : i < len) (he : z.2.1 h i = x) (H : Tt (E x) Q) (hb : len < 2 ^ 31 := by omega) : Tt (fun K k => crI X z h j (fun v => E v K k)) Q := w_rdI (E := E) hL hj hi he H hb
theorem w_ctI {E : ow_MS → Nat → Nat → Option O} (hL : (X.2 h).2.1 = len) (hj : j = nI i) (hi : i < len) (H : Tt (E (usI z h i x)) Q) (hb : len < 2 ^ 31 := by omega) : Tt (fun K k => ctI X z h j x (fun v => E v K k)) Q := w_wrI (E := E) hL hj hi H hb
theorem w_ctB {E : ow_MS → Nat → Nat → Option O} (hL : (X.2 h).2.1 = len) (hj : j = nI i) (hi : i < len) (H : Tt (E (usI z h i (vp_nar .byte x))) Q) (hb : len < 2 ^ 31 := by omega) : Tt (fun K k => ctB X z h j x (fun v => E v K k)) Q := w_wrI (E := E) hL hj hi H hb
theorem w_ctZ {E : ow_MS → Nat → Nat → Option O} (hL : (X.2 h).2.1 = len) (hj : j = nI i) (hi : i < len) (H : Tt (E (usI z h i (vp_nar .boolean x))) Q) (hb : len < 2 ^ 31 := by omega) : Tt (fun K k => ctZ X z h j x (fun v => E v K k)) Q := w_wrI (E := E) hL hj hi H hb
theorem w_crJ {E : Int64 → Nat → Nat → Option O} (hL : (X.2 h).2.1 = len) (hj : j = nI i) (hi : i < len) (he : z.2.2 h i = y) (H : Tt (E y) Q) (hb : len < 2 ^ 31 := by omega) : Tt (fun K k => crJ X z h j (fun v => E v K k)) Q := w_rdJ (E := E) hL hj hi he H hb
theorem w_ctJ {E : ow_MS → Nat → Nat → Option O} (hL : (X.2 h).2.1 = len) (hj : j = nI i) (hi : i < len) (H : Tt (E (usJ z h i y)) Q) (hb : len < 2 ^ 31 := by omega) : Tt (fun K k => ctJ X z h j y (fun v => E v K k)) Q := w_wrJ (E := E) hL hj hi H hb
theorem w_cpI {g a b n la lb : Nat} {sp dp m : Int32} {E : ow_MS → Nat → Nat → Option O} (hL : (X.2 h).2.1 = la) (hG : (X.2 g).2.1 = lb) (h1 : sp = nI a) (h2 : dp = nI b) (h3 : m = nI n) (ha : a + n ≤ la) (hb : b + n ≤ lb) (H : Tt (E (usR z g (va_cpy (z.2.1 h) (z.2.1 g) a b n))) Q) (hla : la < 2 ^ 31 := by omega) (hlb : lb < 2 ^ 31 := by omega) : Tt (fun K k => cpI X z h sp g dp m (fun v => E v K k)) Q := by
  have e : (fun K k => cpI X z h sp g dp m (fun v => E v K k)) = E (usR z g (va_cpy (z.2.1 h) (z.2.1 g) a b n)) := by
    funext K k
    unfold cpI uw_len
    rw [h1, h2, h3, nI_clamp (by omega), nI_clamp (by omega), nI_clamp (by omega), if_neg]
    rintro (h9 | h9 | h9 | h9 | h9)
    · exact nI_pos (by omega) h9
    · exact nI_pos (by omega) h9
    · exact nI_pos (by omega) h9
    · omega
    · omega
  rw [e]
  exact H
end CW
/-- the class's nets -/
def nHL : List Nat := [4000, 5000, 16000, 17000, 26000, 27000, 28000, 29000, 30000, 31000, 32000, 33000, 34000, 35000, 36000, 37000, 38000, 40000, 44000]
def nH (h : Nat) : Prop := h ∈ nHL
theorem nH_all {P : Nat → Prop} (h1 : P 4000 ∧ P 5000 ∧ P 16000 ∧ P 17000 ∧ P 26000 ∧ P 27000 ∧ P 28000 ∧ P 29000 ∧ P 30000 ∧ P 31000 ∧ P 32000 ∧ P 33000 ∧ P 34000 ∧ P 35000 ∧ P 36000 ∧ P 37000 ∧ P 38000 ∧ P 40000 ∧ P 44000) {h : Nat} (hh : nH h) : P h := by
  unfold nH nHL at hh
  simp only [List.mem_cons, List.not_mem_nil, or_false] at hh
  obtain ⟨a1, a2, a3, a4, a5, a6, a7, a8, a9, a10, a11, a12, a13, a14, a15, a16, a17, a18, a19⟩ := h1
  rcases hh with rfl | rfl | rfl | rfl | rfl | rfl | rfl | rfl | rfl | rfl | rfl | rfl | rfl | rfl | rfl | rfl | rfl | rfl | rfl <;> assumption
theorem nH_1 {vl : Nat → Nat} {h : Nat} (hh : nH h) : ((cX vl).2 (h + 1)).2.1 = 24 := nH_all (P := fun h => ((cX vl).2 (h + 1)).2.1 = 24) ⟨rfl, rfl, rfl, rfl, rfl, rfl, rfl, rfl, rfl, rfl, rfl, rfl, rfl, rfl, rfl, rfl, rfl, rfl, rfl⟩ hh
theorem nH_2 {vl : Nat → Nat} {h : Nat} (hh : nH h) : ((cX vl).2 (h + 2)).2.1 = 24 := nH_all (P := fun h => ((cX vl).2 (h + 2)).2.1 = 24) ⟨rfl, rfl, rfl, rfl, rfl, rfl, rfl, rfl, rfl, rfl, rfl, rfl, rfl, rfl, rfl, rfl, rfl, rfl, rfl⟩ hh
theorem nH_3 {vl : Nat → Nat} {h : Nat} (hh : nH h) : ((cX vl).2 (h + 3)).2.1 = 12 := nH_all (P := fun h => ((cX vl).2 (h + 3)).2.1 = 12) ⟨rfl, rfl, rfl, rfl, rfl, rfl, rfl, rfl, rfl, rfl, rfl, rfl, rfl, rfl, rfl, rfl, rfl, rfl, rfl⟩ hh
theorem nH_4 {vl : Nat → Nat} {h : Nat} (hh : nH h) : ((cX vl).2 (h + 4)).2.1 = 24 := nH_all (P := fun h => ((cX vl).2 (h + 4)).2.1 = 24) ⟨rfl, rfl, rfl, rfl, rfl, rfl, rfl, rfl, rfl, rfl, rfl, rfl, rfl, rfl, rfl, rfl, rfl, rfl, rfl⟩ hh
theorem nH_5 {vl : Nat → Nat} {h : Nat} (hh : nH h) : ((cX vl).2 (h + 5)).2.1 = 24 := nH_all (P := fun h => ((cX vl).2 (h + 5)).2.1 = 24) ⟨rfl, rfl, rfl, rfl, rfl, rfl, rfl, rfl, rfl, rfl, rfl, rfl, rfl, rfl, rfl, rfl, rfl, rfl, rfl⟩ hh
theorem nH_6 {vl : Nat → Nat} {h : Nat} (hh : nH h) : ((cX vl).2 (h + 6)).2.1 = 24 := nH_all (P := fun h => ((cX vl).2 (h + 6)).2.1 = 24) ⟨rfl, rfl, rfl, rfl, rfl, rfl, rfl, rfl, rfl, rfl, rfl, rfl, rfl, rfl, rfl, rfl, rfl, rfl, rfl⟩ hh
theorem nH_7 {vl : Nat → Nat} {h : Nat} (hh : nH h) : ((cX vl).2 (h + 7)).2.1 = 24 := nH_all (P := fun h => ((cX vl).2 (h + 7)).2.1 = 24) ⟨rfl, rfl, rfl, rfl, rfl, rfl, rfl, rfl, rfl, rfl, rfl, rfl, rfl, rfl, rfl, rfl, rfl, rfl, rfl⟩ hh
/-- a net of the class: crossings, circles, next and prev, signs -/
def cAt (y : ow_MS) (h : Nat) (T : ow_NT) : Prop := y.1 (h + 8) = nI T.1 ∧ y.1 (h + 9) = nI T.2.1 ∧ (∀ v, y.2.1 (h + 1) v = nI (T.2.2.1.1 v)) ∧ (∀ v, y.2.1 (h + 2) v = nI (T.2.2.1.2 v)) ∧ ∀ v, y.2.1 (h + 3) v = T.2.2.2 v
def cP (h g : Nat) : Prop := h + 1 ≤ g ∧ g ≤ h + 3 ∨ g = h + 8 ∨ g = h + 9
theorem cAt_fr {P : Nat → Prop} {y y1 : ow_MS} {h : Nat} {T : ow_NT} (hf : fr P y y1) (hP : ∀ g, cP h g → ¬ P g) (hy : cAt y h T) : cAt y1 h T := by
  obtain ⟨a, b, c, d, e⟩ := hy
  refine ⟨?_, ?_, fun v => ?_, fun v => ?_, fun v => ?_⟩
  · rw [(hf _ (hP _ (by unfold cP; omega))).1]
    exact a
  · rw [(hf _ (hP _ (by unfold cP; omega))).1]
    exact b
  · rw [(hf _ (hP _ (by unfold cP; omega))).2.1]
    exact c v
  · rw [(hf _ (hP _ (by unfold cP; omega))).2.1]
    exact d v
  · rw [(hf _ (hP _ (by unfold cP; omega))).2.1]
    exact e v
def ntS (T : ow_NT) (S : ow_NP) : ow_NT := (T.1, T.2.1, S, T.2.2.2)
section CN
variable {vl : Nat → Nat} {y : ow_MS} {h v w : Nat} {T : ow_NT}
theorem e_X7_link {vl : Nat → Nat} {r0 : Nat} {x1 : Int32} {x2 : Int32} {z : ow_MS} {Q : ow_MS → Prop} (H : Tt (fun K _ => cm_X7_link_0 vl K x1 x2 r0 z) Q) : Te (fun K => ce_X7_link vl K r0 x1 x2 z) Q := w_te0 H
theorem tc_link (hh : nH h) (hy : cAt y h T) (hv : v < 24) (hw : w < 24) : Te (fun K => ce_X7_link vl K h (nI v) (nI w) y) (fun y1 => cAt y1 h (ntS T (nl T.2.2.1 v w)) ∧ fr (cP h) y y1) := by
  obtain ⟨a, b, c, d, e⟩ := hy
  refine e_X7_link ?_; unfold cm_X7_link_0
  refine w_ctI (nH_1 hh) rfl hv (w_ctI (nH_2 hh) rfl hw (w_some ⟨⟨a, b, fun k => ?_, fun k => ?_, fun k => rd_ot (by omega) (rd_ot (by omega) (e k))⟩, fr_I2 (fr_I2 fr_rf (Or.inl (by omega))) (Or.inl (by omega))⟩))
  · refine rd_ot (by omega) ?_
    show _ = nI (if k = v then w else T.2.2.1.1 k)
    by_cases e1 : k = v
    · rw [if_pos e1, e1]
      exact po_usI_at
    · rw [if_neg e1]
      exact rd_ne e1 (c k)
  · show _ = nI (if k = w then v else T.2.2.1.2 k)
    by_cases e1 : k = w
    · rw [if_pos e1, e1]
      exact po_usI_at
    · rw [if_neg e1]
      exact rd_ne e1 (rd_ot (by omega) (d k))
theorem e_X7_exchange {vl : Nat → Nat} {r0 : Nat} {x1 : Int32} {x2 : Int32} {z : ow_MS} {Q : ow_MS → Prop} (H : Tt (fun K _ => cm_X7_exchange_0 vl K x1 x2 r0 z) Q) : Te (fun K => ce_X7_exchange vl K r0 x1 x2 z) Q := w_te0 H
theorem tc_exchange (hh : nH h) (hy : cAt y h T) (hb : ow_b24 T.2.2.1) (hv : v < 24) (hw : w < 24) : Te (fun K => ce_X7_exchange vl K h (nI v) (nI w) y) (fun y1 => cAt y1 h (ntS T (np_exchange T.2.2.1 v w)) ∧ fr (cP h) y y1) := by
  refine e_X7_exchange ?_; unfold cm_X7_exchange_0
  refine w_crI (nH_1 hh) rfl hv (hy.2.2.1 v) (w_crI (nH_1 hh) rfl hw (hy.2.2.1 w) (w_cs0 (tc_link hh hy hv (hb.1 w)) ?_))
  rintro y1 ⟨h1, f1⟩
  refine w_cs0 (tc_link hh h1 hw (hb.1 v)) ?_
  rintro y2 ⟨h2, f2⟩
  exact w_some ⟨h2, fr_tr f1 f2⟩
theorem e_X7_putBehind {vl : Nat → Nat} {r0 : Nat} {x1 : Int32} {x2 : Int32} {z : ow_MS} {Q : ow_MS → Prop} (H : Tt (fun K _ => cm_X7_putBehind_0 vl K x1 x2 r0 z) Q) : Te (fun K => ce_X7_putBehind vl K r0 x1 x2 z) Q := w_te0 H
theorem tc_putBehind (hh : nH h) (hy : cAt y h T) (hb : ow_b24 T.2.2.1) (hv : v < 24) (hw : w < 24) : Te (fun K => ce_X7_putBehind vl K h (nI v) (nI w) y) (fun y1 => cAt y1 h (ntS T (np_putBehind T.2.2.1 v w)) ∧ fr (cP h) y y1) := by
  refine e_X7_putBehind ?_; unfold cm_X7_putBehind_0
  refine w_crI (nH_1 hh) rfl hv (hy.2.2.1 v) (w_cs0 (tc_link hh hy hv hw) ?_)
  rintro y1 ⟨h1, f1⟩
  refine w_cs0 (tc_link hh h1 hw (hb.1 v)) ?_
  rintro y2 ⟨h2, f2⟩
  exact w_some ⟨h2, fr_tr f1 f2⟩
theorem cAt_o {o : Nat} (hy : cAt y h T) : cAt (usF y (h + 9) (nI o)) h (T.1, o, T.2.2) := by
  obtain ⟨a, b, c, d, e⟩ := hy
  exact ⟨rf_ot (by omega) a, po_usF_at, c, d, e⟩
theorem cAt_c {o : Nat} (hy : cAt y h T) : cAt (usF y (h + 8) (nI o)) h (o, T.2) := by
  obtain ⟨a, b, c, d, e⟩ := hy
  exact ⟨po_usF_at, rf_ot (by omega) b, c, d, e⟩
theorem e_X7_openCircle {vl : Nat → Nat} {r0 : Nat} {x1 : Int32} {z : ow_MS} {Q : ow_MS → Prop} (H : Tt (fun K _ => cm_X7_openCircle_0 vl K x1 r0 z) Q) : Te (fun K => ce_X7_openCircle vl K r0 x1 z) Q := w_te0 H
theorem tc_openCircle (hh : nH h) (hy : cAt y h T) (hv : v < 24) (ho : 1 ≤ T.2.1) : Te (fun K => ce_X7_openCircle vl K h (nI v) y) (fun y1 => cAt y1 h (T.1, T.2.1 - 1, nl T.2.2.1 v v, T.2.2.2) ∧ fr (cP h) y y1) := by
  refine e_X7_openCircle ?_; unfold cm_X7_openCircle_0
  refine w_rdF hy.2.1 ?_
  rw [show nI T.2.1 - 1 = nI (T.2.1 - 1) from pk_sub (b := 1) ho]
  refine w_wrF (w_cs0 (tc_link hh (cAt_o hy) hv hv) ?_)
  rintro y1 ⟨h1, f1⟩
  exact w_some ⟨h1, fr_tr (fr_F2 fr_rf (Or.inr (Or.inr rfl))) f1⟩
theorem e_X7_cut {vl : Nat → Nat} {r0 : Nat} {x1 : Int32} {z : ow_MS} {Q : ow_MS → Prop} (H : Tt (fun K _ => cm_X7_cut_0 vl K x1 r0 z) Q) : Te (fun K => ce_X7_cut vl K r0 x1 z) Q := w_te0 H
theorem tc_cut (hh : nH h) (hy : cAt y h T) (hb : ow_b24 T.2.2.1) (hv : v < 24) : Te (fun K => ce_X7_cut vl K h (nI v) y) (fun y1 => cAt y1 h (T.1, np_cutN T.2.2.1 v T.2.1, np_cut T.2.2.1 v, T.2.2.2) ∧ fr (cP h) y y1) := by
  have b1 := hb.1 v
  have b2 := hb.2 v
  refine e_X7_cut ?_; unfold cm_X7_cut_0
  refine w_crI (nH_1 hh) rfl hv (hy.2.2.1 v) (w_eqN (by omega) (by omega) (fun e => ?_) (fun e => ?_))
  · refine w_rdF hy.2.1 ?_
    rw [nI_1]
    refine w_wrF (w_some ⟨?_, fr_F2 fr_rf (Or.inr (Or.inr rfl))⟩)
    unfold np_cutN np_cut
    rw [if_pos e, if_pos e]
    exact cAt_o hy
  · refine w_crI (nH_2 hh) rfl hv (hy.2.2.2.1 v) (w_crI (nH_1 hh) rfl hv (hy.2.2.1 v) (w_cs0 (tc_link hh hy b2 b1) ?_))
    rintro y1 ⟨h1, f1⟩
    refine w_some ⟨?_, f1⟩
    unfold np_cutN np_cut
    rw [if_neg e, if_neg e]
    exact h1
theorem e_X7_rename {vl : Nat → Nat} {r0 : Nat} {x1 : Int32} {x2 : Int32} {z : ow_MS} {Q : ow_MS → Prop} (H : Tt (fun K _ => cm_X7_rename_0 vl K x1 x2 r0 z) Q) : Te (fun K => ce_X7_rename vl K r0 x1 x2 z) Q := w_te0 H
theorem tc_rename (hh : nH h) (hy : cAt y h T) (hb : ow_b24 T.2.2.1) (hv : v < 24) (hw : w < 24) : Te (fun K => ce_X7_rename vl K h (nI v) (nI w) y) (fun y1 => cAt y1 h (ntS T (np_rename T.2.2.1 v w)) ∧ fr (cP h) y y1) := by
  have b1 := hb.1 v
  have b2 := hb.2 v
  refine e_X7_rename ?_; unfold cm_X7_rename_0
  refine w_crI (nH_1 hh) rfl hv (hy.2.2.1 v) (w_eqN (by omega) (by omega) (fun e => ?_) (fun e => ?_))
  · refine w_cs0 (tc_link hh hy hw hw) ?_
    rintro y1 ⟨h1, f1⟩
    refine w_some ⟨?_, f1⟩
    unfold np_rename
    rw [if_pos e]
    exact h1
  · refine w_crI (nH_2 hh) rfl hv (hy.2.2.2.1 v) (w_cs0 (tc_link hh hy b2 hw) ?_)
    rintro y1 ⟨h1, f1⟩
    have b3 : (nl T.2.2.1 (T.2.2.1.2 v) w).1 v < 24 := by
      show (if v = T.2.2.1.2 v then w else T.2.2.1.1 v) < 24
      split
      · exact hw
      · exact b1
    refine w_crI (nH_1 hh) rfl hv (h1.2.2.1 v) (w_cs0 (tc_link hh h1 hw b3) ?_)
    rintro y2 ⟨h2, f2⟩
    refine w_some ⟨?_, fr_tr f1 f2⟩
    unfold np_rename
    rw [if_neg e]
    exact h2
theorem b24_nl {S : ow_NP} (hb : ow_b24 S) (hv : v < 24) (hw : w < 24) : ow_b24 (nl S v w) := by
  refine ⟨fun k => ?_, fun k => ?_⟩
  · show (if k = v then w else S.1 k) < 24
    split
    · exact hw
    · exact hb.1 k
  · show (if k = w then v else S.2 k) < 24
    split
    · exact hv
    · exact hb.2 k
theorem b24_cut {S : ow_NP} (hb : ow_b24 S) : ow_b24 (np_cut S v) := by
  unfold np_cut
  split
  · exact hb
  · exact b24_nl hb (hb.2 v) (hb.1 v)
theorem b24_rename {S : ow_NP} (hb : ow_b24 S) (hw : w < 24) : ow_b24 (np_rename S v w) := by
  unfold np_rename
  split
  · exact b24_nl hb hw hw
  · have := b24_nl hb (hb.2 v) hw
    exact b24_nl this hw (this.1 v)
theorem e_X7_removeCrossing {vl : Nat → Nat} {r0 : Nat} {x1 : Int32} {z : ow_MS} {Q : ow_MS → Prop} (H : Tt (fun K _ => cm_X7_removeCrossing_0 vl K x1 r0 z) Q) : Te (fun K => ce_X7_removeCrossing vl K r0 x1 z) Q := w_te0 H
theorem tc_removeCrossing {x : Nat} (hh : nH h) (hy : cAt y h T) (hb : ow_b24 T.2.2.1) (hx : x < T.1) (hT : T.1 ≤ 12) : Te (fun K => ce_X7_removeCrossing vl K h (nI x) y) (fun y1 => cAt y1 h (nt_rm T x) ∧ fr (cP h) y y1) := by
  refine e_X7_removeCrossing ?_; unfold cm_X7_removeCrossing_0
  rw [show (2 : Int32) * nI x = nI (2 * x) from pk_mul 2 x, nI_1]
  refine w_cs0 (tc_cut hh hy hb (show 2 * x < 24 by omega)) ?_
  rintro y1 ⟨h1, f1⟩
  refine w_cs0 (tc_cut hh h1 (b24_cut hb) (show 2 * x + 1 < 24 by omega)) ?_
  rintro y2 ⟨h2, f2⟩
  refine w_rdF h2.1 ?_
  rw [show nI T.1 - 1 = nI (T.1 - 1) from pk_sub (b := 1) (by omega)]
  refine w_wrF ?_
  have h3 := cAt_c (o := T.1 - 1) h2
  have f3 := fr_F2 (x := nI (T.1 - 1)) (fr_tr f1 f2) (Or.inr (Or.inl rfl))
  refine w_rdF h3.1 (w_eqN (by omega) (by omega) (fun e => ?_) (fun e => ?_))
  · refine w_some ⟨?_, f3⟩
    unfold nt_rm np_rmS np_rmG np_rmN
    rw [if_pos e, if_pos e]
    exact h3
  · refine w_rdF h3.1 ?_
    rw [show (2 : Int32) * nI (T.1 - 1) = nI (2 * (T.1 - 1)) from pk_mul 2 _]
    refine w_cs0 (tc_rename hh h3 (b24_cut (b24_cut hb)) (show 2 * (T.1 - 1) < 24 by omega) (show 2 * x < 24 by omega)) ?_
    rintro y4 ⟨h4, f4⟩
    refine w_rdF (x := nI (T.1 - 1)) h4.1 ?_
    rw [show (2 : Int32) * nI (T.1 - 1) = nI (2 * (T.1 - 1)) from pk_mul 2 _, nI_1]
    refine w_cs0 (tc_rename hh h4 (b24_rename (b24_cut (b24_cut hb)) (by omega)) (show 2 * (T.1 - 1) + 1 < 24 by omega) (show 2 * x + 1 < 24 by omega)) ?_
    rintro y5 ⟨h5, f5⟩
    refine w_rdF (x := nI (T.1 - 1)) h5.1 (w_crI (nH_3 hh) rfl (show T.1 - 1 < 12 by omega) (h5.2.2.2.2 _) (w_ctI (nH_3 hh) rfl (show x < 12 by omega) (w_some ⟨?_, fr_I2 (fr_tr (fr_tr f3 f4) f5) (Or.inl (by omega))⟩)))
    unfold nt_rm np_rmS np_rmG np_rmN
    rw [if_neg e, if_neg e]
    obtain ⟨a, b, c, d, e⟩ := h5
    refine ⟨a, b, fun k => rd_ot (by omega) (c k), fun k => rd_ot (by omega) (d k), fun k => ?_⟩
    show _ = if k = x then T.2.2.2 (T.1 - 1) else T.2.2.2 k
    by_cases e1 : k = x
    · rw [if_pos e1, e1]
      exact po_usI_at
    · rw [if_neg e1]
      exact rd_ne e1 (e k)
end CN
end
section
/-! 99zzzzn.cnet2 -/
/-! the class's nets: swaps, copies, marks -/
section CN2
variable {vl : Nat → Nat} {y : ow_MS} {h v w : Nat} {T : ow_NT}
theorem e_X7_swapped {vl : Nat → Nat} {x0 : Int32} {x1 : Int32} {x2 : Int32} {z : ow_MS} {Q : (Int32 × ow_MS) → Prop} (H : Tt (fun K _ => cm_X7_swapped_0 vl K x0 x1 x2 z) Q) : Te (fun K => ce_X7_swapped vl K x0 x1 x2 z) Q := w_te0 H
theorem tc_swapped {a : Nat} (ha : a < 24) (hv : v < 24) (hw : w < 24) : Te (fun K => ce_X7_swapped vl K (nI a) (nI v) (nI w) y) (fun r => r.1 = nI (np_sw a v w) ∧ r.2 = y) := by
  refine e_X7_swapped ?_; unfold cm_X7_swapped_0
  unfold np_sw
  refine w_eqN (by omega) (by omega) (fun e => w_some ⟨?_, rfl⟩) (fun e => w_eqN (by omega) (by omega) (fun e1 => w_some ⟨?_, rfl⟩) (fun e1 => w_some ⟨?_, rfl⟩))
  · rw [if_pos e]
  · rw [if_neg e, if_pos e1]
  · rw [if_neg e, if_neg e1]
theorem sw_lt {a : Nat} (ha : a < 24) (hv : v < 24) (hw : w < 24) : np_sw a v w < 24 := by
  unfold np_sw
  split
  · exact hw
  · split
    · exact hv
    · exact ha
theorem e_X7_swapPlaces {vl : Nat → Nat} {r0 : Nat} {x1 : Int32} {x2 : Int32} {z : ow_MS} {Q : ow_MS → Prop} (H : Tt (fun K _ => cm_X7_swapPlaces_0 vl K x1 x2 r0 z) Q) : Te (fun K => ce_X7_swapPlaces vl K r0 x1 x2 z) Q := w_te0 H
theorem tc_swapPlaces (hh : nH h) (hy : cAt y h T) (hb : ow_b24 T.2.2.1) (hv : v < 24) (hw : w < 24) : Te (fun K => ce_X7_swapPlaces vl K h (nI v) (nI w) y) (fun y1 => cAt y1 h (ntS T (np_swap T.2.2.1 v w)) ∧ fr (cP h) y y1) := by
  refine e_X7_swapPlaces ?_; unfold cm_X7_swapPlaces_0
  refine w_crI (nH_2 hh) rfl hv (hy.2.2.2.1 v) (w_cs1 (tc_swapped (hb.2 v) hv hw) ?_)
  rintro a1 y1 ⟨e1, e2⟩
  dsimp only at e1 e2
  subst e1
  subst e2
  refine w_crI (nH_1 hh) rfl hv (hy.2.2.1 v) (w_cs1 (tc_swapped (hb.1 v) hv hw) ?_)
  rintro a1 y1 ⟨e1, e2⟩
  dsimp only at e1 e2
  subst e1
  subst e2
  refine w_crI (nH_2 hh) rfl hw (hy.2.2.2.1 w) (w_cs1 (tc_swapped (hb.2 w) hv hw) ?_)
  rintro a1 y1 ⟨e1, e2⟩
  dsimp only at e1 e2
  subst e1
  subst e2
  refine w_crI (nH_1 hh) rfl hw (hy.2.2.1 w) (w_cs1 (tc_swapped (hb.1 w) hv hw) ?_)
  rintro a1 y1 ⟨e1, e2⟩
  dsimp only at e1 e2
  subst e1
  subst e2
  refine w_cs0 (tc_link hh hy (sw_lt (hb.2 v) hv hw) hw) ?_
  rintro y1 ⟨h1, f1⟩
  refine w_cs0 (tc_link hh h1 hw (sw_lt (hb.1 v) hv hw)) ?_
  rintro y2 ⟨h2, f2⟩
  refine w_cs0 (tc_link hh h2 (sw_lt (hb.2 w) hv hw) hv) ?_
  rintro y3 ⟨h3, f3⟩
  refine w_cs0 (tc_link hh h3 hv (sw_lt (hb.1 w) hv hw)) ?_
  rintro y4 ⟨h4, f4⟩
  exact w_some ⟨h4, fr_tr (fr_tr (fr_tr f1 f2) f3) f4⟩
theorem e_X7_flipCrossing {vl : Nat → Nat} {r0 : Nat} {x1 : Int32} {z : ow_MS} {Q : ow_MS → Prop} (H : Tt (fun K _ => cm_X7_flipCrossing_0 vl K x1 r0 z) Q) : Te (fun K => ce_X7_flipCrossing vl K r0 x1 z) Q := w_te0 H
theorem tc_flipCrossing {x : Nat} (hh : nH h) (hy : cAt y h T) (hb : ow_b24 T.2.2.1) (hx : x < 12) : Te (fun K => ce_X7_flipCrossing vl K h (nI x) y) (fun y1 => cAt y1 h (T.1, T.2.1, np_swap T.2.2.1 (2 * x) (2 * x + 1), su T.2.2.2 x (- T.2.2.2 x)) ∧ fr (cP h) y y1) := by
  refine e_X7_flipCrossing ?_; unfold cm_X7_flipCrossing_0
  rw [show (2 : Int32) * nI x = nI (2 * x) from pk_mul 2 x, nI_1]
  refine w_cs0 (tc_swapPlaces hh hy hb (show 2 * x < 24 by omega) (show 2 * x + 1 < 24 by omega)) ?_
  rintro y1 ⟨⟨a, b, c, d, e⟩, f1⟩
  refine w_crI (nH_3 hh) rfl hx (e x) (w_ctI (nH_3 hh) rfl hx (w_some ⟨⟨a, b, fun k => rd_ot (by omega) (c k), fun k => rd_ot (by omega) (d k), fun k => ?_⟩, fr_I2 f1 (Or.inl (by omega))⟩))
  show _ = if k = x then _ else T.2.2.2 k
  by_cases e1 : k = x
  · rw [if_pos e1, e1]
    exact po_usI_at
  · rw [if_neg e1]
    exact rd_ne e1 (e k)
theorem b24_exchange {S : ow_NP} (hb : ow_b24 S) (hv : v < 24) (hw : w < 24) : ow_b24 (np_exchange S v w) := b24_nl (b24_nl hb hv (hb.1 w)) hw (hb.1 v)
theorem e_X7_smoothCrossing {vl : Nat → Nat} {r0 : Nat} {x1 : Int32} {z : ow_MS} {Q : ow_MS → Prop} (H : Tt (fun K _ => cm_X7_smoothCrossing_0 vl K x1 r0 z) Q) : Te (fun K => ce_X7_smoothCrossing vl K r0 x1 z) Q := w_te0 H
theorem tc_smoothCrossing {x : Nat} (hh : nH h) (hy : cAt y h T) (hb : ow_b24 T.2.2.1) (hx : x < T.1) (hT : T.1 ≤ 12) : Te (fun K => ce_X7_smoothCrossing vl K h (nI x) y) (fun y1 => cAt y1 h (nt_rm (ntS T (np_exchange T.2.2.1 (2 * x) (2 * x + 1))) x) ∧ fr (cP h) y y1) := by
  refine e_X7_smoothCrossing ?_; unfold cm_X7_smoothCrossing_0
  rw [show (2 : Int32) * nI x = nI (2 * x) from pk_mul 2 x, nI_1]
  refine w_cs0 (tc_exchange hh hy hb (show 2 * x < 24 by omega) (show 2 * x + 1 < 24 by omega)) ?_
  rintro y1 ⟨h1, f1⟩
  refine w_cs0 (tc_removeCrossing hh h1 (b24_exchange hb (show 2 * x < 24 by omega) (show 2 * x + 1 < 24 by omega)) hx hT) ?_
  rintro y2 ⟨h2, f2⟩
  exact w_some ⟨h2, fr_tr f1 f2⟩
theorem e_X7_empty {vl : Nat → Nat} {r0 : Nat} {z : ow_MS} {Q : ow_MS → Prop} (H : Tt (fun K _ => cm_X7_empty_0 vl K r0 z) Q) : Te (fun K => ce_X7_empty vl K r0 z) Q := w_te0 H
theorem tc_empty (hy : cAt y h T) : Te (fun K => ce_X7_empty vl K h y) (fun y1 => cAt y1 h (0, 0, T.2.2) ∧ fr (cP h) y y1) := by
  refine e_X7_empty ?_; unfold cm_X7_empty_0
  exact w_wrF (w_wrF (w_some ⟨cAt_o (o := 0) (cAt_c (o := 0) hy), fr_F2 (fr_F2 fr_rf (Or.inr (Or.inl rfl))) (Or.inr (Or.inr rfl))⟩))
theorem cpy_nI {N M : Nat → Nat} {a b n k : Nat} {f g : Nat → Int32} (hf : ∀ k, f k = nI (N k)) (hg : ∀ k, g k = nI (M k)) : va_cpy f g a b n k = nI (va_cpy N M a b n k) := by
  unfold va_cpy
  split
  · exact hf _
  · exact hg _
theorem cpy_eq {N M : Nat → Int32} {a b n k : Nat} {f g : Nat → Int32} (hf : ∀ k, f k = N k) (hg : ∀ k, g k = M k) : va_cpy f g a b n k = va_cpy N M a b n k := by
  unfold va_cpy
  split
  · exact hf _
  · exact hg _
theorem usR_at {f : Nat → Int32} {g : Nat} : (usR y g f).2.1 g = f := if_pos rfl
theorem usR_ot {f : Nat → Int32} {g g' : Nat} (hg : g' ≠ g) : (usR y g f).2.1 g' = y.2.1 g' := if_neg hg
theorem fr_R2 {P : Nat → Prop} {z1 : ow_MS} {f : Nat → Int32} {g : Nat} (h1 : fr P y z1) (hg : P g) : fr P y (usR z1 g f) := by
  intro g' h9
  refine ⟨(h1 g' h9).1, ?_, (h1 g' h9).2.2⟩
  rw [usR_ot (fun e => h9 (by rw [e]; exact hg))]
  exact (h1 g' h9).2.1
/-- two nets that share no cell -/
def nDj (h g : Nat) : Prop := h + 12 ≤ g ∨ g + 12 ≤ h
theorem e_X7_copy {vl : Nat → Nat} {r0 : Nat} {r1 : Nat} {z : ow_MS} {Q : ow_MS → Prop} (H : Tt (fun K _ => cm_X7_copy_0 vl K r0 r1 z) Q) : Te (fun K => ce_X7_copy vl K r0 r1 z) Q := w_te0 H
theorem tc_copy {g : Nat} {R : ow_NT} (hh : nH h) (hg : nH g) (hd : nDj h g) (hy : cAt y h T) (hr : cAt y g R) (hR : R.1 ≤ 12) : Te (fun K => ce_X7_copy vl K h g y) (fun y1 => cAt y1 h (nt_copy T R) ∧ fr (cP h) y y1) := by
  unfold nDj at hd
  obtain ⟨a, b, c, d, e⟩ := hy
  obtain ⟨a', b', c', d', e'⟩ := hr
  refine e_X7_copy ?_; unfold cm_X7_copy_0
  refine w_rdF a' (w_wrF (w_rdF (x := nI R.2.1) (rf_ot (by omega) b') (w_wrF (w_rdF (x := nI R.1) (rf_ot (by omega) po_usF_at) ?_))))
  rw [show (2 : Int32) * nI R.1 = nI (2 * R.1) from pk_mul 2 _]
  refine w_cpI (a := 0) (b := 0) (nH_1 hg) (nH_1 hh) rfl rfl rfl (by omega) (by omega) (w_rdF (x := nI R.1) (rf_ot (by omega) po_usF_at) ?_)
  rw [show (2 : Int32) * nI R.1 = nI (2 * R.1) from pk_mul 2 _]
  refine w_cpI (a := 0) (b := 0) (nH_2 hg) (nH_2 hh) rfl rfl rfl (by omega) (by omega) (w_rdF (x := nI R.1) (rf_ot (by omega) po_usF_at) ?_)
  refine w_cpI (a := 0) (b := 0) (nH_3 hg) (nH_3 hh) rfl rfl rfl (by omega) (by omega) (w_some ⟨⟨rf_ot (by omega) po_usF_at, po_usF_at, fun k => ?_, fun k => ?_, fun k => ?_⟩, fr_R2 (fr_R2 (fr_R2 (fr_F2 (fr_F2 fr_rf (Or.inr (Or.inl rfl))) (Or.inr (Or.inr rfl))) (Or.inl (by omega))) (Or.inl (by omega))) (Or.inl (by omega))⟩)
  · rw [usR_ot (by omega), usR_ot (by omega), usR_at]
    exact cpy_nI c' c
  · rw [usR_ot (by omega), usR_at, usR_ot (by omega), usR_ot (by omega)]
    exact cpy_nI d' d
  · rw [usR_at, usR_ot (by omega), usR_ot (by omega), usR_ot (by omega), usR_ot (by omega)]
    exact cpy_eq e' e
theorem e_J7_rangeCheck_23922 {vl : Nat → Nat} {x0 : Int32} {x1 : Int32} {x2 : Int32} {z : ow_MS} {Q : ow_MS → Prop} (H : Tt (fun K _ => cm_J7_rangeCheck_23922_0 vl K x0 x1 x2 z) Q) : Te (fun K => ce_J7_rangeCheck_23922 vl K x0 x1 x2 z) Q := w_te0 H
theorem tc_range {l a b : Nat} (h1 : a ≤ b) (h2 : b ≤ l) (hl : l < 2 ^ 31) : Te (fun K => ce_J7_rangeCheck_23922 vl K (nI l) (nI a) (nI b) y) (fun y1 => y1 = y) := by
  refine e_J7_rangeCheck_23922 ?_; unfold cm_J7_rangeCheck_23922_0
  exact w_leT (by omega) h1 (w_leT (a := 0) (by omega) (by omega) (w_leT (by omega) h2 (w_some rfl)))
theorem u_J7_fill_fda19_1 {vl : Nat → Nat} {x1 : Int32} {x2 : Int32} {x3 : Int32} {x4 : Int32} {r0 : Nat} {z : ow_MS} {Q : ow_MS → Prop} (H : Tt (fun K k => cm_J7_fill_fda19_1 vl K (c_J7_fill_fda19 vl K k) x1 x2 x3 x4 r0 z) Q) : Tt (fun K k => c_J7_fill_fda19 vl K k 1 x1 x2 x3 x4 r0 z) Q := w_un (fun _ _ => rfl) H
theorem e_J7_fill_fda19 {vl : Nat → Nat} {r0 : Nat} {x1 : Int32} {x2 : Int32} {x3 : Int32} {z : ow_MS} {Q : ow_MS → Prop} (H : Tt (fun K k => c_J7_fill_fda19 vl K k 0 x1 x2 x3 0 r0 z) Q) : Te (fun K => ce_J7_fill_fda19 vl K r0 x1 x2 x3 z) Q := w_te H
theorem u_J7_fill_fda19_0 {vl : Nat → Nat} {x1 : Int32} {x2 : Int32} {x3 : Int32} {x4 : Int32} {r0 : Nat} {z : ow_MS} {Q : ow_MS → Prop} (H : Tt (fun K k => cm_J7_fill_fda19_0 vl K (c_J7_fill_fda19 vl K k) x1 x2 x3 x4 r0 z) Q) : Tt (fun K k => c_J7_fill_fda19 vl K k 0 x1 x2 x3 x4 r0 z) Q := w_un (fun _ _ => rfl) H
theorem tc_fill {g l a b : Nat} {x : Int32} (hL : ((cX vl).2 g).2.1 = l) (h1 : a ≤ b) (h2 : b ≤ l) (hl : l < 2 ^ 31) : Te (fun K => ce_J7_fill_fda19 vl K g (nI a) (nI b) x y) (fun y1 => (∀ k, y1.2.1 g k = if a ≤ k ∧ k < b then x else y.2.1 g k) ∧ fr (fun q => q = g) y y1) := by
  let Q : ow_MS → Prop := fun y1 => (∀ k, y1.2.1 g k = if a ≤ k ∧ k < b then x else y.2.1 g k) ∧ fr (fun q => q = g) y y1
  have c1 : ∀ (d i : Nat) (y1 : ow_MS), i + d = b → a ≤ i → (∀ k, y1.2.1 g k = if a ≤ k ∧ k < i then x else y.2.1 g k) → fr (fun q => q = g) y y1 → Tt (fun K t => c_J7_fill_fda19 vl K t 1 (nI a) (nI b) x (nI i) g y1) Q := by
    intro d
    induction d with
    | zero =>
      intro i y1 hi ha hk hf
      have e : i = b := by omega
      subst e
      refine u_J7_fill_fda19_1 ?_; unfold cm_J7_fill_fda19_1
      exact w_leT (by omega) (by omega) (w_some ⟨hk, hf⟩)
    | succ d ih =>
      intro i y1 hi ha hk hf
      refine u_J7_fill_fda19_1 ?_; unfold cm_J7_fill_fda19_1
      rw [nI_1]
      refine w_leF (by omega) (by omega) (w_ctI hL rfl (by omega) (ih (i + 1) _ (by omega) (by omega) (fun k => ?_) (fr_I2 hf rfl)))
      by_cases e : k = i
      · rw [e, if_pos (by omega)]
        exact po_usI_at
      · rw [show (usI y1 g i x).2.1 g k = y1.2.1 g k from po_usI_ne e, hk]
        by_cases e1 : a ≤ k ∧ k < i
        · rw [if_pos e1, if_pos (by omega)]
        · rw [if_neg e1, if_neg (by omega)]
  refine e_J7_fill_fda19 ?_
  refine u_J7_fill_fda19_0 ?_; unfold cm_J7_fill_fda19_0
  unfold uw_len
  rw [hL]
  refine w_cs0 (tc_range h1 h2 hl) ?_
  rintro y1 e
  subst e
  exact c1 (b - a) a _ (by omega) (by omega) (fun k => by rw [if_neg (by omega)]) fr_rf
end CN2
end
section
/-! 99zzzzo.cmark -/
/-! the class's nets: rings and parts marked -/
section CM
variable {vl : Nat → Nat} {y : ow_MS} {h : Nat} {T : ow_NT}
def rwC (y : ow_MS) (g : Nat) (F : Nat → Int32) : Prop := ∀ k, y.2.1 g k = F k
theorem rwC_su {y : ow_MS} {g i : Nat} {F : Nat → Int32} {x : Int32} (hy : rwC y g F) : rwC (usI y g i x) g (su F i x) := by
  intro k
  show _ = if k = i then x else F k
  by_cases e : k = i
  · rw [if_pos e, e]
    exact po_usI_at
  · rw [if_neg e]
    exact rd_ne e (hy k)
theorem rwC_ot {y : ow_MS} {g g' i : Nat} {F : Nat → Int32} {x : Int32} (hg : g ≠ g') (hy : rwC y g F) : rwC (usI y g' i x) g F := fun k => rd_ot hg (hy k)
theorem cAt_I {g i : Nat} {x : Int32} (hg : g = h + 4 ∨ g = h + 5 ∨ g = h + 6 ∨ g = h + 7) (hy : cAt y h T) : cAt (usI y g i x) h T := cAt_fr (P := fun q => q = g) (fr_I2 fr_rf rfl) (fun q hq => by unfold cP at hq; omega) hy
theorem cAt_F {g : Nat} {x : Int32} (hg : g = h + 10 ∨ g = h + 11) (hy : cAt y h T) : cAt (usF y g x) h T := cAt_fr (P := fun q => q = g) (fr_F2 fr_rf rfl) (fun q hq => by unfold cP at hq; omega) hy
def cR (h g : Nat) : Prop := g = h + 5 ∨ g = h + 10
theorem mr_out_le (N : Nat → Nat) (vs : Nat) (F : Nat → Int32) : ∀ n, (mr_out N vs F n).2 ≤ n := by
  intro n
  induction n with
  | zero => exact Nat.zero_le _
  | succ n ih =>
    show (if (mr_out N vs F n).1 n = -1 then (_, (mr_out N vs F n).2 + 1) else mr_out N vs F n).2 ≤ n + 1
    split
    · show (mr_out N vs F n).2 + 1 ≤ n + 1
      omega
    · omega
theorem u_X7_markRings_1 {vl : Nat → Nat} {x1 : Int32} {x2 : Int32} {x3 : Int32} {x4 : Int32} {r0 : Nat} {z : ow_MS} {Q : ow_MS → Prop} (H : Tt (fun K k => cm_X7_markRings_1 vl K (c_X7_markRings vl K k) x1 x2 x3 x4 r0 z) Q) : Tt (fun K k => c_X7_markRings vl K k 1 x1 x2 x3 x4 r0 z) Q := w_un (fun _ _ => rfl) H
theorem u_X7_markRings_4 {vl : Nat → Nat} {x1 : Int32} {x2 : Int32} {x3 : Int32} {x4 : Int32} {r0 : Nat} {z : ow_MS} {Q : ow_MS → Prop} (H : Tt (fun K k => cm_X7_markRings_4 vl K (c_X7_markRings vl K k) x1 x2 x3 x4 r0 z) Q) : Tt (fun K k => c_X7_markRings vl K k 4 x1 x2 x3 x4 r0 z) Q := w_un (fun _ _ => rfl) H
theorem u_X7_markRings_3 {vl : Nat → Nat} {x1 : Int32} {x2 : Int32} {x3 : Int32} {x4 : Int32} {r0 : Nat} {z : ow_MS} {Q : ow_MS → Prop} (H : Tt (fun K k => cm_X7_markRings_3 vl K (c_X7_markRings vl K k) x1 x2 x3 x4 r0 z) Q) : Tt (fun K k => c_X7_markRings vl K k 3 x1 x2 x3 x4 r0 z) Q := w_un (fun _ _ => rfl) H
theorem u_X7_markRings_2 {vl : Nat → Nat} {x1 : Int32} {x2 : Int32} {x3 : Int32} {x4 : Int32} {r0 : Nat} {z : ow_MS} {Q : ow_MS → Prop} (H : Tt (fun K k => cm_X7_markRings_2 vl K (c_X7_markRings vl K k) x1 x2 x3 x4 r0 z) Q) : Tt (fun K k => c_X7_markRings vl K k 2 x1 x2 x3 x4 r0 z) Q := w_un (fun _ _ => rfl) H
theorem e_X7_markRings {vl : Nat → Nat} {r0 : Nat} {z : ow_MS} {Q : ow_MS → Prop} (H : Tt (fun K k => c_X7_markRings vl K k 0 0 0 0 0 r0 z) Q) : Te (fun K => ce_X7_markRings vl K r0 z) Q := w_te H
theorem u_X7_markRings_0 {vl : Nat → Nat} {x1 : Int32} {x2 : Int32} {x3 : Int32} {x4 : Int32} {r0 : Nat} {z : ow_MS} {Q : ow_MS → Prop} (H : Tt (fun K k => cm_X7_markRings_0 vl K (c_X7_markRings vl K k) x1 x2 x3 x4 r0 z) Q) : Tt (fun K k => c_X7_markRings vl K k 0 x1 x2 x3 x4 r0 z) Q := w_un (fun _ _ => rfl) H
theorem tc_markRings (hh : nH h) (hy : cAt y h T) (hb : ow_b24 T.2.2.1) (hT : T.1 ≤ 12) : Te (fun K => ce_X7_markRings vl K h y) (fun y1 => rwC y1 (h + 5) (mr_out T.2.2.1.1 (2 * T.1) (np_fill (y.2.1 (h + 5)) 0 (2 * T.1) (-1)) (2 * T.1)).1 ∧ y1.1 (h + 10) = nI (mr_out T.2.2.1.1 (2 * T.1) (np_fill (y.2.1 (h + 5)) 0 (2 * T.1) (-1)) (2 * T.1)).2 ∧ fr (cR h) y y1) := by
  generalize hF0 : np_fill (y.2.1 (h + 5)) 0 (2 * T.1) (-1) = F0
  let N := T.2.2.1.1
  let vs := 2 * T.1
  let Q : ow_MS → Prop := fun y1 => rwC y1 (h + 5) (mr_out N vs F0 vs).1 ∧ y1.1 (h + 10) = nI (mr_out N vs F0 vs).2 ∧ fr (cR h) y y1
  have hvs : vs ≤ 24 := by show 2 * T.1 ≤ 24; omega
  have cAy : ∀ {y1 : ow_MS}, fr (cR h) y y1 → cAt y1 h T := fun hf => cAt_fr hf (fun q hq hr => by unfold cP at hq; unfold cR at hr; omega) hy
  have c1 : ∀ (d s : Nat) (y1 : ow_MS), s + d = vs → rwC y1 (h + 5) (mr_out N vs F0 s).1 → y1.1 (h + 10) = nI (mr_out N vs F0 s).2 → fr (cR h) y y1 → Tt (fun K t => c_X7_markRings vl K t 1 (nI vs) (nI s) 0 0 h y1) Q := by
    intro d
    induction d with
    | zero =>
      intro s y1 hs h1 h2 hf
      have e : s = vs := by omega
      rw [e] at h1 h2
      refine u_X7_markRings_1 ?_; unfold cm_X7_markRings_1
      exact w_leT (by omega) (by omega) (w_some ⟨h1, h2, hf⟩)
    | succ d ih =>
      intro s y1 hs h1 h2 hf
      have hle := mr_out_le N vs F0 s
      have eo : mr_out N vs F0 (s + 1) = if (mr_out N vs F0 s).1 s = -1 then (mr_in N (nI (mr_out N vs F0 s).2) vs (mr_out N vs F0 s).1 s, (mr_out N vs F0 s).2 + 1) else mr_out N vs F0 s := rfl
      have k4 : ∀ (y1 : ow_MS), rwC y1 (h + 5) (mr_out N vs F0 (s + 1)).1 → y1.1 (h + 10) = nI (mr_out N vs F0 (s + 1)).2 → fr (cR h) y y1 → Tt (fun K t => c_X7_markRings vl K t 4 (nI vs) (nI s) 0 0 h y1) Q := by
        intro y1 h1 h2 hf
        refine u_X7_markRings_4 ?_; unfold cm_X7_markRings_4
        rw [nI_1]
        exact ih (s + 1) y1 (by omega) h1 h2 hf
      refine u_X7_markRings_1 ?_; unfold cm_X7_markRings_1
      refine w_leF (by omega) (by omega) (w_crI (nH_5 hh) rfl (by omega) (h1 s) (w_if (fun e => ?_) (fun e => ?_)))
      · rw [if_pos e] at eo
        generalize (mr_out N vs F0 s).2 = q at *
        have k3 : ∀ (x3 x4 : Int32) (y1 : ow_MS), rwC y1 (h + 5) (mr_out N vs F0 (s + 1)).1 → y1.1 (h + 10) = nI q → fr (cR h) y y1 → Tt (fun K t => c_X7_markRings vl K t 3 (nI vs) (nI s) x3 x4 h y1) Q := by
          intro x3 x4 y1 h1 h2 hf
          refine u_X7_markRings_3 ?_; unfold cm_X7_markRings_3
          refine w_rdF h2 ?_
          rw [nI_1]
          refine w_wrF (k4 _ h1 ?_ (fr_F2 hf (Or.inr rfl)))
          rw [eo]
          exact po_usF_at
        have c2 : ∀ (e i v : Nat) (F : Nat → Int32) (y1 : ow_MS), i + e = vs → v < 24 → rwC y1 (h + 5) F → y1.1 (h + 10) = nI q → fr (cR h) y y1 → mr_in N (nI q) e F v = (mr_out N vs F0 (s + 1)).1 → Tt (fun K t => c_X7_markRings vl K t 2 (nI vs) (nI s) (nI v) (nI i) h y1) Q := by
          intro e
          induction e with
          | zero =>
            intro i v F y1 hi hv h1 h2 hf hm
            have hm : F = _ := hm
            refine u_X7_markRings_2 ?_; unfold cm_X7_markRings_2
            exact w_leT (by omega) (by omega) (k3 _ _ y1 (by rw [← hm]; exact h1) h2 hf)
          | succ e ihe =>
            intro i v F y1 hi hv h1 h2 hf hm
            have hm : (if F v = -1 then mr_in N (nI q) e (su F v (nI q)) (N v) else F) = _ := hm
            refine u_X7_markRings_2 ?_; unfold cm_X7_markRings_2
            refine w_leF (by omega) (by omega) (w_crI (nH_5 hh) rfl hv (h1 v) (w_if (fun e1 => ?_) (fun e1 => ?_)))
            · rw [if_pos e1] at hm
              rw [nI_1]
              refine w_rdF h2 (w_ctI (nH_5 hh) rfl hv (w_crI (nH_1 hh) rfl hv (rd_ot (by omega) ((cAy hf).2.2.1 v)) (ihe (i + 1) _ _ _ (by omega) (hb.1 v) (rwC_su h1) h2 (fr_I2 hf (Or.inl rfl)) hm)))
            · rw [if_neg e1] at hm
              exact k3 _ _ y1 (by rw [← hm]; exact h1) h2 hf
        exact c2 vs 0 s _ y1 (by omega) (by omega) h1 h2 hf (by rw [eo])
      · rw [if_neg e] at eo
        refine k4 y1 ?_ ?_ hf
        · rw [eo]
          exact h1
        · rw [eo]
          exact h2
  refine e_X7_markRings ?_
  refine u_X7_markRings_0 ?_; unfold cm_X7_markRings_0
  refine w_rdF hy.1 ?_
  rw [show (2 : Int32) * nI T.1 = nI (2 * T.1) from pk_mul 2 _]
  refine w_cs0 (tc_fill (a := 0) (nH_5 hh) (by omega) (show 2 * T.1 ≤ 24 by omega) (by omega)) ?_
  rintro y1 ⟨h1, f1⟩
  refine w_wrF (c1 vs 0 _ (by omega) (fun k => ?_) po_usF_at (fr_F2 (fr_mono (fun g hg => Or.inl hg) f1) (Or.inr rfl)))
  rw [← hF0]
  exact h1 k
theorem xor1 : ∀ q : Fin 24, nI q.val ^^^ 1 = nI (mt q.val) := by decide +kernel
def cQ (h g : Nat) : Prop := g = h + 6 ∨ g = h + 7 ∨ g = h + 11
theorem u_X7_markParts_1 {vl : Nat → Nat} {x1 : Int32} {x2 : Int32} {x3 : Int32} {x4 : Int32} {x5 : Int32} {x6 : Int32} {r0 : Nat} {z : ow_MS} {Q : ow_MS → Prop} (H : Tt (fun K k => cm_X7_markParts_1 vl K (c_X7_markParts vl K k) x1 x2 x3 x4 x5 x6 r0 z) Q) : Tt (fun K k => c_X7_markParts vl K k 1 x1 x2 x3 x4 x5 x6 r0 z) Q := w_un (fun _ _ => rfl) H
theorem u_X7_markParts_6 {vl : Nat → Nat} {x1 : Int32} {x2 : Int32} {x3 : Int32} {x4 : Int32} {x5 : Int32} {x6 : Int32} {r0 : Nat} {z : ow_MS} {Q : ow_MS → Prop} (H : Tt (fun K k => cm_X7_markParts_6 vl K (c_X7_markParts vl K k) x1 x2 x3 x4 x5 x6 r0 z) Q) : Tt (fun K k => c_X7_markParts vl K k 6 x1 x2 x3 x4 x5 x6 r0 z) Q := w_un (fun _ _ => rfl) H
theorem u_X7_markParts_5 {vl : Nat → Nat} {x1 : Int32} {x2 : Int32} {x3 : Int32} {x4 : Int32} {x5 : Int32} {x6 : Int32} {r0 : Nat} {z : ow_MS} {Q : ow_MS → Prop} (H : Tt (fun K k => cm_X7_markParts_5 vl K (c_X7_markParts vl K k) x1 x2 x3 x4 x5 x6 r0 z) Q) : Tt (fun K k => c_X7_markParts vl K k 5 x1 x2 x3 x4 x5 x6 r0 z) Q := w_un (fun _ _ => rfl) H
theorem u_X7_markParts_2 {vl : Nat → Nat} {x1 : Int32} {x2 : Int32} {x3 : Int32} {x4 : Int32} {x5 : Int32} {x6 : Int32} {r0 : Nat} {z : ow_MS} {Q : ow_MS → Prop} (H : Tt (fun K k => cm_X7_markParts_2 vl K (c_X7_markParts vl K k) x1 x2 x3 x4 x5 x6 r0 z) Q) : Tt (fun K k => c_X7_markParts vl K k 2 x1 x2 x3 x4 x5 x6 r0 z) Q := w_un (fun _ _ => rfl) H
theorem u_X7_markParts_4 {vl : Nat → Nat} {x1 : Int32} {x2 : Int32} {x3 : Int32} {x4 : Int32} {x5 : Int32} {x6 : Int32} {r0 : Nat} {z : ow_MS} {Q : ow_MS → Prop} (H : Tt (fun K k => cm_X7_markParts_4 vl K (c_X7_markParts vl K k) x1 x2 x3 x4 x5 x6 r0 z) Q) : Tt (fun K k => c_X7_markParts vl K k 4 x1 x2 x3 x4 x5 x6 r0 z) Q := w_un (fun _ _ => rfl) H
theorem u_X7_markParts_3 {vl : Nat → Nat} {x1 : Int32} {x2 : Int32} {x3 : Int32} {x4 : Int32} {x5 : Int32} {x6 : Int32} {r0 : Nat} {z : ow_MS} {Q : ow_MS → Prop} (H : Tt (fun K k => cm_X7_markParts_3 vl K (c_X7_markParts vl K k) x1 x2 x3 x4 x5 x6 r0 z) Q) : Tt (fun K k => c_X7_markParts vl K k 3 x1 x2 x3 x4 x5 x6 r0 z) Q := w_un (fun _ _ => rfl) H
theorem e_X7_markParts {vl : Nat → Nat} {r0 : Nat} {z : ow_MS} {Q : ow_MS → Prop} (H : Tt (fun K k => c_X7_markParts vl K k 0 0 0 0 0 0 0 r0 z) Q) : Te (fun K => ce_X7_markParts vl K r0 z) Q := w_te H
theorem u_X7_markParts_0 {vl : Nat → Nat} {x1 : Int32} {x2 : Int32} {x3 : Int32} {x4 : Int32} {x5 : Int32} {x6 : Int32} {r0 : Nat} {z : ow_MS} {Q : ow_MS → Prop} (H : Tt (fun K k => cm_X7_markParts_0 vl K (c_X7_markParts vl K k) x1 x2 x3 x4 x5 x6 r0 z) Q) : Tt (fun K k => c_X7_markParts vl K k 0 x1 x2 x3 x4 x5 x6 r0 z) Q := w_un (fun _ _ => rfl) H
theorem tc_markParts (hh : nH h) (hy : cAt y h T) (hN : ∀ k, k < 2 * T.1 → T.2.2.1.1 k < 2 * T.1) (hT : T.1 ≤ 12) : Te (fun K => ce_X7_markParts vl K h y) (fun y1 => rwC y1 (h + 6) (mp_out T.2.2.1.1 (2 * T.1) (np_fill (y.2.1 (h + 6)) 0 (2 * T.1) (-1)) (2 * T.1)).1 ∧ y1.1 (h + 11) = nI (mp_out T.2.2.1.1 (2 * T.1) (np_fill (y.2.1 (h + 6)) 0 (2 * T.1) (-1)) (2 * T.1)).2 ∧ fr (cQ h) y y1) := by
  generalize hF0 : np_fill (y.2.1 (h + 6)) 0 (2 * T.1) (-1) = F0
  let N := T.2.2.1.1
  generalize hvv : 2 * T.1 = vs at *
  let Q : ow_MS → Prop := fun y1 => rwC y1 (h + 6) (mp_out N vs F0 vs).1 ∧ y1.1 (h + 11) = nI (mp_out N vs F0 vs).2 ∧ fr (cQ h) y y1
  have hvs : vs ≤ 24 := by omega
  have cAy : ∀ {y1 : ow_MS}, fr (cQ h) y y1 → cAt y1 h T := fun hf => cAt_fr hf (fun q hq hr => by unfold cP at hq; unfold cQ at hr; omega) hy
  have c1 : ∀ (d s : Nat) (y1 : ow_MS), s + d = vs → rwC y1 (h + 6) (mp_out N vs F0 s).1 → y1.1 (h + 11) = nI (mp_out N vs F0 s).2 → fr (cQ h) y y1 → Tt (fun K t => c_X7_markParts vl K t 1 (nI vs) (nI s) 0 0 0 0 h y1) Q := by
    intro d
    induction d with
    | zero =>
      intro s y1 hs h1 h2 hf
      have e : s = vs := by omega
      rw [e] at h1 h2
      refine u_X7_markParts_1 ?_; unfold cm_X7_markParts_1
      exact w_leT (by omega) (by omega) (w_some ⟨h1, h2, hf⟩)
    | succ d ih =>
      intro s y1 hs h1 h2 hf
      have hle := mp_out_le N vs F0 s
      have eo : mp_out N vs F0 (s + 1) = if (mp_out N vs F0 s).1 s = -1 then ((mp_bfs N (nI (mp_out N vs F0 s).2) vs 0 (su (mp_out N vs F0 s).1 s (nI (mp_out N vs F0 s).2), (fun _ => s), 1)).1, (mp_out N vs F0 s).2 + 1) else mp_out N vs F0 s := rfl
      have k6 : ∀ (y1 : ow_MS), rwC y1 (h + 6) (mp_out N vs F0 (s + 1)).1 → y1.1 (h + 11) = nI (mp_out N vs F0 (s + 1)).2 → fr (cQ h) y y1 → Tt (fun K t => c_X7_markParts vl K t 6 (nI vs) (nI s) 0 0 0 0 h y1) Q := by
        intro y1 h1 h2 hf
        refine u_X7_markParts_6 ?_; unfold cm_X7_markParts_6
        rw [nI_1]
        exact ih (s + 1) y1 (by omega) h1 h2 hf
      refine u_X7_markParts_1 ?_; unfold cm_X7_markParts_1
      refine w_leF (by omega) (by omega) (w_crI (nH_6 hh) rfl (by omega) (h1 s) (w_if (fun e => ?_) (fun e => ?_)))
      · rw [if_pos e] at eo
        generalize (mp_out N vs F0 s).2 = q at *
        generalize (mp_out N vs F0 s).1 = F at *
        have addq : ∀ {y1 : ow_MS} {t : ow_PQ} {v : Nat}, mp_ok vs t → rwC y1 (h + 6) t.1 → (∀ j, j < t.2.2 → y1.2.1 (h + 7) j = nI (t.2.1 j)) → t.1 v = -1 → rwC (usI (usI y1 (h + 6) v (nI q)) (h + 7) t.2.2 (nI v)) (h + 6) (mp_add (nI q) t v).1 ∧ (∀ j, j < (mp_add (nI q) t v).2.2 → (usI (usI y1 (h + 6) v (nI q)) (h + 7) t.2.2 (nI v)).2.1 (h + 7) j = nI ((mp_add (nI q) t v).2.1 j)) ∧ (mp_add (nI q) t v).2.2 = t.2.2 + 1 := by
          intro y1 t v hok r1 r2 e1
          unfold mp_add
          rw [if_pos e1]
          refine ⟨rwC_ot (by omega) (rwC_su r1), fun j hj => ?_, rfl⟩
          show _ = nI (if j = t.2.2 then v else t.2.1 j)
          by_cases e2 : j = t.2.2
          · rw [if_pos e2, e2]
            exact po_usI_at
          · rw [if_neg e2]
            have hj : j < t.2.2 + 1 := hj
            exact rd_ne e2 (rd_ot (by omega) (r2 j (by omega)))
        have cnt : ∀ {t : ow_PQ} {v : Nat}, mp_ok vs t → v < vs → t.1 v = -1 → t.2.2 < vs := by
          intro t v hok hv e1
          have := (mp_add_ok (k := 0) (by omega) hok hv).2
          unfold mp_add at this
          rw [if_pos e1] at this
          have h9 : t.2.2 + 1 + cntU (su t.1 v (nI 0)) vs ≤ vs := this
          omega
        have c2 : ∀ (n i : Nat) (t : ow_PQ) (y1 : ow_MS), i + n = vs → mp_ok vs t → rwC y1 (h + 6) t.1 → (∀ j, j < t.2.2 → y1.2.1 (h + 7) j = nI (t.2.1 j)) → y1.1 (h + 11) = nI q → fr (cQ h) y y1 → (mp_bfs N (nI q) n i t).1 = (mp_out N vs F0 (s + 1)).1 → Tt (fun K t' => c_X7_markParts vl K t' 2 (nI vs) (nI s) (nI t.2.2) (nI i) 0 0 h y1) Q := by
          intro n
          have fin : ∀ (t : ow_PQ) (y1 : ow_MS) (x3 x4 : Int32), rwC y1 (h + 6) t.1 → y1.1 (h + 11) = nI q → fr (cQ h) y y1 → t.1 = (mp_out N vs F0 (s + 1)).1 → Tt (fun K t' => c_X7_markParts vl K t' 5 (nI vs) (nI s) x3 x4 0 0 h y1) Q := by
            intro t y1 x3 x4 r1 r2 hf em
            refine u_X7_markParts_5 ?_; unfold cm_X7_markParts_5
            refine w_rdF r2 ?_
            rw [nI_1]
            refine w_wrF (k6 _ (by rw [← em]; exact r1) ?_ (fr_F2 hf (Or.inr (Or.inr rfl))))
            rw [eo]
            exact po_usF_at
          induction n with
          | zero =>
            intro i t y1 hi hok r1 r3 r2 hf em
            have hc : t.2.2 ≤ vs := by have := hok.2; omega
            refine u_X7_markParts_2 ?_; unfold cm_X7_markParts_2
            exact w_leT (by omega) (by omega) (fin t y1 _ _ r1 r2 hf em)
          | succ n ihn =>
            intro i t y1 hi hok r1 r3 r2 hf em
            have hc : t.2.2 ≤ vs := by have := hok.2; omega
            have em : (if i < t.2.2 then mp_bfs N (nI q) n (i + 1) (mp_add (nI q) (mp_add (nI q) t (N (t.2.1 i))) (mt (t.2.1 i))) else t).1 = _ := em
            by_cases hit : i < t.2.2
            · rw [if_pos hit] at em
              have hqi := hok.1 i hit
              have hNv : N (t.2.1 i) < vs := hN _ hqi
              have hmt : mt (t.2.1 i) < vs := by
                rw [← hvv]
                exact mt_lt (by omega)
              have hok1 : mp_ok vs (mp_add (nI q) t (N (t.2.1 i))) := mp_add_ok (k := q) (by omega) hok hNv
              have hok2 := mp_add_ok (k := q) (by omega) hok1 hmt
              have hc1 : (mp_add (nI q) t (N (t.2.1 i))).2.2 ≤ vs := by have := hok1.2; omega
              have k4 : ∀ (x5 x6 : Int32) (y1 : ow_MS), rwC y1 (h + 6) (mp_add (nI q) (mp_add (nI q) t (N (t.2.1 i))) (mt (t.2.1 i))).1 → (∀ j, j < (mp_add (nI q) (mp_add (nI q) t (N (t.2.1 i))) (mt (t.2.1 i))).2.2 → y1.2.1 (h + 7) j = nI ((mp_add (nI q) (mp_add (nI q) t (N (t.2.1 i))) (mt (t.2.1 i))).2.1 j)) → y1.1 (h + 11) = nI q → fr (cQ h) y y1 → Tt (fun K t' => c_X7_markParts vl K t' 4 (nI vs) (nI s) (nI (mp_add (nI q) (mp_add (nI q) t (N (t.2.1 i))) (mt (t.2.1 i))).2.2) (nI i) x5 x6 h y1) Q := by
                intro x5 x6 y1 r1 r3 r2 hf
                refine u_X7_markParts_4 ?_; unfold cm_X7_markParts_4
                rw [nI_1]
                exact ihn (i + 1) _ y1 (by omega) hok2 r1 r3 r2 hf em
              have k3 : ∀ (x5 : Int32) (y1 : ow_MS), rwC y1 (h + 6) (mp_add (nI q) t (N (t.2.1 i))).1 → (∀ j, j < (mp_add (nI q) t (N (t.2.1 i))).2.2 → y1.2.1 (h + 7) j = nI ((mp_add (nI q) t (N (t.2.1 i))).2.1 j)) → y1.1 (h + 11) = nI q → fr (cQ h) y y1 → Tt (fun K t' => c_X7_markParts vl K t' 3 (nI vs) (nI s) (nI (mp_add (nI q) t (N (t.2.1 i))).2.2) (nI i) x5 (nI (mt (t.2.1 i))) h y1) Q := by
                intro x5 y1 r1 r3 r2 hf
                generalize mp_add (nI q) t (N (t.2.1 i)) = t1 at *
                refine u_X7_markParts_3 ?_; unfold cm_X7_markParts_3
                refine w_crI (nH_6 hh) rfl (by omega) (r1 _) (w_if (fun e1 => ?_) (fun e1 => ?_))
                · have hlt := cnt hok1 hmt e1
                  obtain ⟨a1, a2, a3⟩ := addq hok1 r1 r3 e1
                  have := k4 x5 (nI (mt (t.2.1 i))) _ a1 a2 r2 (fr_I2 (fr_I2 hf (Or.inl rfl)) (Or.inr (Or.inl rfl)))
                  rw [a3] at this
                  refine w_rdF r2 (w_ctI (nH_6 hh) rfl (by omega) (w_ctI (nH_7 hh) rfl (by omega) ?_))
                  rw [nI_1]
                  exact this
                · have e2 : mp_add (nI q) t1 (mt (t.2.1 i)) = t1 := by
                    unfold mp_add
                    rw [if_neg e1]
                  rw [e2] at k4
                  exact k4 _ _ y1 r1 r3 r2 hf
              refine u_X7_markParts_2 ?_; unfold cm_X7_markParts_2
              refine w_leF (by omega) (by omega) (w_leF (by omega) (by omega) (w_crI (nH_7 hh) rfl (by omega) (r3 i hit) (w_crI (nH_1 hh) rfl (by omega) ((cAy hf).2.2.1 _) (w_crI (nH_7 hh) rfl (by omega) (r3 i hit) (w_crI (nH_6 hh) rfl (by show N (t.2.1 i) < 24; omega) (r1 _) ?_)))))
              rw [xor1 ⟨t.2.1 i, by omega⟩]
              refine w_if (fun e1 => ?_) (fun e1 => ?_)
              · have hlt := cnt hok hNv e1
                obtain ⟨a1, a2, a3⟩ := addq hok r1 r3 e1
                have := k3 (nI (N (t.2.1 i))) _ a1 a2 r2 (fr_I2 (fr_I2 hf (Or.inl rfl)) (Or.inr (Or.inl rfl)))
                rw [a3] at this
                refine w_rdF r2 (w_ctI (nH_6 hh) rfl (by show N (t.2.1 i) < 24; omega) (w_ctI (nH_7 hh) rfl (by omega) ?_))
                rw [nI_1]
                exact this
              · have e2 : mp_add (nI q) t (N (t.2.1 i)) = t := by
                  unfold mp_add
                  rw [if_neg e1]
                rw [e2] at k3
                exact k3 _ y1 r1 r3 r2 hf
            · rw [if_neg hit] at em
              refine u_X7_markParts_2 ?_; unfold cm_X7_markParts_2
              exact w_leT (by omega) (by omega) (fin t y1 _ _ r1 r2 hf em)
        refine w_ctI (i := 0) (nH_7 hh) rfl (by omega) (w_rdF h2 (w_ctI (nH_6 hh) rfl (by omega) ?_))
        have hok0 : mp_ok vs (su F s (nI q), (fun _ => s), 1) := by
          refine ⟨fun j _ => by show s < vs; omega, ?_⟩
          have c8 := cntU_su e (rn_neg1 (v := q) (by omega)) vs (by omega)
          have c9 := cntU_le F vs
          show 1 + cntU (su F s (nI q)) vs ≤ vs
          omega
        exact c2 vs 0 (su F s (nI q), (fun _ => s), 1) _ (by omega) hok0 (rwC_su (rwC_ot (by omega) h1)) (fun j hj => by
          have hj : j < 1 := hj
          rw [show j = 0 by omega]
          exact rd_ot (by omega) po_usI_at) h2 (fr_I2 (fr_I2 hf (Or.inr (Or.inl rfl))) (Or.inl rfl)) (by rw [eo])
      · rw [if_neg e] at eo
        refine k6 y1 ?_ ?_ hf
        · rw [eo]
          exact h1
        · rw [eo]
          exact h2
  refine e_X7_markParts ?_
  refine u_X7_markParts_0 ?_; unfold cm_X7_markParts_0
  refine w_rdF hy.1 ?_
  rw [show (2 : Int32) * nI T.1 = nI (2 * T.1) from pk_mul 2 _, hvv]
  refine w_cs0 (tc_fill (a := 0) (nH_6 hh) (by omega) (show vs ≤ 24 by omega) (by omega)) ?_
  rintro y1 ⟨h1, f1⟩
  refine w_wrF (c1 vs 0 _ (by omega) (fun k => ?_) po_usF_at (fr_F2 (fr_mono (fun g hg => Or.inl hg) f1) (Or.inr (Or.inr rfl))))
  rw [← hF0]
  exact h1 k
end CM
end
section
/-! 99zzzzp.codes -/
/-! the class's tables of codes: compare, write -/
def tHL : List (Nat × Nat) := [(1000, 40), (2000, 1848), (3000, 12), (8000, 1), (9000, 1), (10000, 12), (13000, 301), (14000, 480), (15000, 480), (21000, 1), (22000, 1), (23000, 12), (25000, 2)]
/-- g is a table of codes with p places -/
def tH (g p : Nat) : Prop := (g, p) ∈ tHL
theorem tH_all {P : Nat → Nat → Prop} (h1 : P 1000 40 ∧ P 2000 1848 ∧ P 3000 12 ∧ P 8000 1 ∧ P 9000 1 ∧ P 10000 12 ∧ P 13000 301 ∧ P 14000 480 ∧ P 15000 480 ∧ P 21000 1 ∧ P 22000 1 ∧ P 23000 12 ∧ P 25000 2) {g p : Nat} (hh : tH g p) : P g p := by
  unfold tH tHL at hh
  simp only [List.mem_cons, List.not_mem_nil, or_false, Prod.mk.injEq] at hh
  obtain ⟨a1, a2, a3, a4, a5, a6, a7, a8, a9, a10, a11, a12, a13⟩ := h1
  rcases hh with ⟨rfl, rfl⟩ | ⟨rfl, rfl⟩ | ⟨rfl, rfl⟩ | ⟨rfl, rfl⟩ | ⟨rfl, rfl⟩ | ⟨rfl, rfl⟩ | ⟨rfl, rfl⟩ | ⟨rfl, rfl⟩ | ⟨rfl, rfl⟩ | ⟨rfl, rfl⟩ | ⟨rfl, rfl⟩ | ⟨rfl, rfl⟩ | ⟨rfl, rfl⟩ <;> assumption
theorem tH_p {g p : Nat} (hh : tH g p) : 1 ≤ p ∧ p ≤ 1848 := tH_all (P := fun _ p => 1 ≤ p ∧ p ≤ 1848) (by decide) hh
theorem tH_1 {vl : Nat → Nat} {g p : Nat} (hh : tH g p) : ((cX vl).2 (g + 1)).2.1 = 30 * p := tH_all (P := fun g p => ((cX vl).2 (g + 1)).2.1 = 30 * p) ⟨rfl, rfl, rfl, rfl, rfl, rfl, rfl, rfl, rfl, rfl, rfl, rfl, rfl⟩ hh
theorem tH_2 {vl : Nat → Nat} {g p : Nat} (hh : tH g p) : ((cX vl).2 (g + 2)).2.1 = p := tH_all (P := fun g p => ((cX vl).2 (g + 2)).2.1 = p) ⟨rfl, rfl, rfl, rfl, rfl, rfl, rfl, rfl, rfl, rfl, rfl, rfl, rfl⟩ hh
theorem tH_3 {vl : Nat → Nat} {g p : Nat} (hh : tH g p) : ((cX vl).2 (g + 3)).2.1 = p := tH_all (P := fun g p => ((cX vl).2 (g + 3)).2.1 = p) ⟨rfl, rfl, rfl, rfl, rfl, rfl, rfl, rfl, rfl, rfl, rfl, rfl, rfl⟩ hh
theorem tH_4 {vl : Nat → Nat} {g p : Nat} (hh : tH g p) : ((cX vl).2 (g + 4)).2.1 = p := tH_all (P := fun g p => ((cX vl).2 (g + 4)).2.1 = p) ⟨rfl, rfl, rfl, rfl, rfl, rfl, rfl, rfl, rfl, rfl, rfl, rfl, rfl⟩ hh
/-- a code: its crossings and its cells -/
abbrev cdT := Nat × List Nat
def cOK (C : cdT) : Prop := C.1 ≤ 12 ∧ C.2.length ≤ 30 ∧ ∀ a, a ∈ C.2 → a < 64
/-- place s of table g holds C -/
def slC (y : ow_MS) (g s : Nat) (C : cdT) : Prop := y.2.1 (g + 3) s = nI C.1 ∧ y.2.1 (g + 2) s = nI C.2.length ∧ ∀ i a, C.2[i]? = some a → y.2.1 (g + 1) (30 * s + i) = nI a
def lexD : List Nat → List Nat → Int
  | [], B => - (B.length : Int)
  | A, [] => (A.length : Int)
  | a :: A, b :: B => if a = b then lexD A B else (a : Int) - b
def cmpC (A B : cdT) : Int := if A.1 = B.1 then lexD A.2 B.2 else (A.1 : Int) - B.1
theorem mul30 {a : Nat} : nI a * 30 = nI (30 * a) := by
  rw [nI_iI, show (30 : Int32) = iI 30 from rfl, iI_mul, nI_iI]
  congr 1
  omega
theorem iI_eq {a b : Int} (h1 : -(2 ^ 31 : Int) ≤ a) (h2 : a < 2 ^ 31) (h3 : -(2 ^ 31 : Int) ≤ b) (h4 : b < 2 ^ 31) : iI a = iI b ↔ a = b := by
  refine ⟨fun e => ?_, fun e => by rw [e]⟩
  have := congrArg Int32.toInt e
  rw [iI_toInt h1 h2, iI_toInt h3 h4] at this
  exact this
section CC
variable {vl : Nat → Nat} {y : ow_MS} {g g' p p' s s' : Nat} {A B : cdT}
theorem u_X3_compare_1 {vl : Nat → Nat} {x1 : Int32} {x3 : Int32} {x4 : Int32} {x5 : Int32} {x6 : Int32} {x7 : Int32} {r0 : Nat} {r2 : Nat} {z : ow_MS} {Q : (Int32 × ow_MS) → Prop} (H : Tt (fun K k => cm_X3_compare_1 vl K (c_X3_compare vl K k) x1 x3 x4 x5 x6 x7 r0 r2 z) Q) : Tt (fun K k => c_X3_compare vl K k 1 x1 x3 x4 x5 x6 x7 r0 r2 z) Q := w_un (fun _ _ => rfl) H
theorem e_X3_compare {vl : Nat → Nat} {r0 : Nat} {x1 : Int32} {r2 : Nat} {x3 : Int32} {z : ow_MS} {Q : (Int32 × ow_MS) → Prop} (H : Tt (fun K k => c_X3_compare vl K k 0 x1 x3 0 0 0 0 r0 r2 z) Q) : Te (fun K => ce_X3_compare vl K r0 x1 r2 x3 z) Q := w_te H
theorem u_X3_compare_0 {vl : Nat → Nat} {x1 : Int32} {x3 : Int32} {x4 : Int32} {x5 : Int32} {x6 : Int32} {x7 : Int32} {r0 : Nat} {r2 : Nat} {z : ow_MS} {Q : (Int32 × ow_MS) → Prop} (H : Tt (fun K k => cm_X3_compare_0 vl K (c_X3_compare vl K k) x1 x3 x4 x5 x6 x7 r0 r2 z) Q) : Tt (fun K k => c_X3_compare vl K k 0 x1 x3 x4 x5 x6 x7 r0 r2 z) Q := w_un (fun _ _ => rfl) H
theorem tc_compare (hg : tH g p) (hg' : tH g' p') (hs : s < p) (hs' : s' < p') (ha : slC y g s A) (hb : slC y g' s' B) (oa : cOK A) (ob : cOK B) : Te (fun K => ce_X3_compare vl K g (nI s) g' (nI s') y) (fun r => r.1 = iI (cmpC A B) ∧ r.2 = y) := by
  have hp := tH_p hg
  have hp' := tH_p hg'
  obtain ⟨a1, a2, a3⟩ := oa
  obtain ⟨b1, b2, b3⟩ := ob
  let Q : Int32 × ow_MS → Prop := fun r => r.1 = iI (cmpC A B) ∧ r.2 = y
  let m := if B.2.length < A.2.length then B.2.length else A.2.length
  have hmA : m ≤ A.2.length := by show (if _ then _ else _) ≤ _; split <;> omega
  have hmB : m ≤ B.2.length := by show (if _ then _ else _) ≤ _; split <;> omega
  have hmm : m = A.2.length ∨ m = B.2.length := by show (if _ then _ else _) = _ ∨ (if _ then _ else _) = _; split <;> omega
  have c1 : A.1 = B.1 → ∀ (d i : Nat), i + d = m → lexD (A.2.drop i) (B.2.drop i) = lexD A.2 B.2 → Tt (fun K t => c_X3_compare vl K t 1 (nI s) (nI s') (nI (30 * s)) (nI (30 * s')) (nI m) (nI i) g g' y) Q := by
    intro e d
    have eC : cmpC A B = lexD A.2 B.2 := by unfold cmpC; rw [if_pos e]
    induction d with
    | zero =>
      intro i hi hl
      refine u_X3_compare_1 ?_; unfold cm_X3_compare_1
      refine w_leT (by omega) (by omega) (w_crI (tH_2 hg) rfl hs ha.2.1 (w_crI (tH_2 hg') rfl hs' hb.2.1 (w_some ⟨?_, rfl⟩)))
      show nI A.2.length - nI B.2.length = iI (cmpC A B)
      rw [eC, ← hl, nI_iI, nI_iI, iI_sub]
      congr 1
      rcases hmm with h9 | h9
      · rw [List.drop_of_length_le (show A.2.length ≤ i by omega)]
        show _ = - (((B.2.drop i).length : Nat) : Int)
        rw [List.length_drop]
        omega
      · rw [List.drop_of_length_le (show B.2.length ≤ i by omega)]
        have e9 : ∀ L : List Nat, lexD L [] = (L.length : Int) := by
          intro L
          cases L
          · rfl
          · rfl
        rw [e9, List.length_drop]
        omega
    | succ d ih =>
      intro i hi hl
      obtain ⟨a, ea⟩ : ∃ a, A.2[i]? = some a := ⟨_, List.getElem?_eq_getElem (show i < A.2.length by omega)⟩
      obtain ⟨b, eb⟩ : ∃ b, B.2[i]? = some b := ⟨_, List.getElem?_eq_getElem (show i < B.2.length by omega)⟩
      have la := a3 a (List.mem_of_getElem? ea)
      have lb := b3 b (List.mem_of_getElem? eb)
      have dA : A.2.drop i = a :: A.2.drop (i + 1) := by
        have := List.getElem?_eq_some_iff.mp ea
        obtain ⟨q, q2⟩ := this
        rw [List.drop_eq_getElem_cons q, q2]
      have dB : B.2.drop i = b :: B.2.drop (i + 1) := by
        have := List.getElem?_eq_some_iff.mp eb
        obtain ⟨q, q2⟩ := this
        rw [List.drop_eq_getElem_cons q, q2]
      rw [dA, dB] at hl
      have hl : (if a = b then lexD (A.2.drop (i + 1)) (B.2.drop (i + 1)) else (a : Int) - b) = _ := hl
      refine u_X3_compare_1 ?_; unfold cm_X3_compare_1
      rw [nI_add, nI_add, nI_1]
      refine w_leF (by omega) (by omega) (w_crI (tH_1 hg) rfl (by omega) (ha.2.2 i a ea) (w_crI (tH_1 hg') rfl (by omega) (hb.2.2 i b eb) (w_if (fun h9 => ?_) (fun h9 => w_some ⟨?_, rfl⟩))))
      · have e2 : a = b := by
          rw [nI_iI, nI_iI, iI_sub] at h9
          have := (iI_eq (by omega) (by omega) (by omega) (by omega)).mp (h9.trans (show (0 : Int32) = iI 0 from rfl))
          omega
        rw [if_pos e2] at hl
        exact ih (i + 1) (by omega) hl
      · have e2 : a ≠ b := by
          intro e2
          rw [e2] at h9
          refine h9 ?_
          rw [nI_iI, iI_sub, Int.sub_self]
          rfl
        rw [if_neg e2] at hl
        show nI a - nI b = iI (cmpC A B)
        rw [eC, ← hl, nI_iI, nI_iI, iI_sub]
  refine e_X3_compare ?_
  refine u_X3_compare_0 ?_; unfold cm_X3_compare_0
  rw [mul30, mul30]
  refine w_crI (tH_3 hg) rfl hs ha.1 (w_crI (tH_3 hg') rfl hs' hb.1 (w_eqN (by omega) (by omega) (fun e => ?_) (fun e => ?_)))
  · refine w_crI (tH_2 hg) rfl hs ha.2.1 (w_crI (tH_2 hg') rfl hs' hb.2.1 ?_)
    have em : (if nI B.2.length < nI A.2.length then nI B.2.length else nI A.2.length) = nI m := by
      show _ = nI (if B.2.length < A.2.length then B.2.length else A.2.length)
      by_cases h9 : B.2.length < A.2.length
      · rw [if_pos h9, if_pos (nI_lt h9 (by omega))]
      · rw [if_neg h9, if_neg (nI_nlt (by omega) (by omega))]
    rw [em]
    exact c1 e m 0 (by omega) rfl
  · refine w_crI (tH_3 hg) rfl hs ha.1 (w_crI (tH_3 hg') rfl hs' hb.1 (w_some ⟨?_, rfl⟩))
    show nI A.1 - nI B.1 = iI (cmpC A B)
    unfold cmpC
    rw [if_neg e, nI_iI, nI_iI, iI_sub]
end CC
end
section
/-! 99zzzzq.codes2 -/
/-! the class's tables of codes: write, find -/
def byR (y : ow_MS) (g : Nat) : Prop := ∀ i, fits .byte (.int (y.2.1 g i)) = true
theorem nar64 {a : Nat} (h : a < 64) : vp_nar .byte (nI a) = nI a := (byt ⟨a, h⟩).2
def cW (g q : Nat) : Prop := q = g + 1 ∨ q = g + 2 ∨ q = g + 3
theorem slC_fr {P : Nat → Prop} {y y1 : ow_MS} {g s : Nat} {C : cdT} (hf : fr P y y1) (hP : ∀ q, cW g q → ¬ P q) (h : slC y g s C) : slC y1 g s C := by
  obtain ⟨a, b, c⟩ := h
  refine ⟨?_, ?_, fun i v hi => ?_⟩
  · rw [(hf _ (hP _ (Or.inr (Or.inr rfl)))).2.1]
    exact a
  · rw [(hf _ (hP _ (Or.inr (Or.inl rfl)))).2.1]
    exact b
  · rw [(hf _ (hP _ (Or.inl rfl))).2.1]
    exact c i v hi
section CC2
variable {vl : Nat → Nat} {y : ow_MS} {g g' p p' s s' : Nat} {B : cdT}
theorem e_X3_write {vl : Nat → Nat} {r0 : Nat} {x1 : Int32} {r2 : Nat} {x3 : Int32} {z : ow_MS} {Q : ow_MS → Prop} (H : Tt (fun K _ => cm_X3_write_0 vl K x1 x3 r0 r2 z) Q) : Te (fun K => ce_X3_write vl K r0 x1 r2 x3 z) Q := w_te0 H
theorem tc_write (hg : tH g p) (hg' : tH g' p') (hd : g + 6 ≤ g' ∨ g' + 6 ≤ g) (hs : s < p) (hs' : s' < p') (hb : slC y g' s' B) (ob : cOK B) (hy : byR y (g' + 1)) : Te (fun K => ce_X3_write vl K g (nI s) g' (nI s') y) (fun y1 => slC y1 g s B ∧ (∀ t C, t ≠ s → cOK C → slC y g t C → slC y1 g t C) ∧ (byR y (g + 1) → byR y1 (g + 1)) ∧ fr (cW g) y y1) := by
  have hp := tH_p hg
  have hp' := tH_p hg'
  obtain ⟨b1, b2, b3⟩ := ob
  refine e_X3_write ?_; unfold cm_X3_write_0
  rw [mul30, mul30]
  have cpb : ∀ {E : ow_MS → Nat → Nat → Option ow_MS} {Q : ow_MS → Prop}, Tt (E (usR y (g + 1) (va_cpy (y.2.1 (g' + 1)) (y.2.1 (g + 1)) (30 * s') (30 * s) 30))) Q → Tt (fun K k => cpB (cX vl) y (g' + 1) (nI (30 * s')) (g + 1) (nI (30 * s)) 30 (fun v => E v K k)) Q := by
    intro E Q H
    unfold cpB
    exact w_ifT (fun i _ => hy _) (w_cpI (a := 30 * s') (b := 30 * s) (n := 30) (tH_1 hg') (tH_1 hg) rfl rfl rfl (by omega) (by omega) H)
  refine cpb (w_crI (x := nI B.2.length) (tH_2 hg') rfl hs' (by rw [usR_ot (by omega)]; exact hb.2.1) (w_ctB (tH_2 hg) rfl hs (w_crI (x := nI B.1) (tH_3 hg') rfl hs' (rd_ot (by omega) (by rw [usR_ot (by omega)]; exact hb.1)) (w_ctB (tH_3 hg) rfl hs (w_some ?_)))))
  rw [nar64 (show B.1 < 64 by omega), nar64 (show B.2.length < 64 by omega)]
  refine ⟨⟨po_usI_at, rd_ot (by omega) po_usI_at, fun i v hi => rd_ot (by omega) (rd_ot (by omega) ?_)⟩, fun t C ht oc hc => ⟨rd_ne ht (rd_ot (by omega) (by rw [usR_ot (by omega)]; exact hc.1)), rd_ot (by omega) (rd_ne ht (by rw [usR_ot (by omega)]; exact hc.2.1)), fun i v hi => rd_ot (by omega) (rd_ot (by omega) ?_)⟩, fun hb1 i => ?_, fr_I2 (fr_I2 (fr_R2 fr_rf (Or.inl rfl)) (Or.inr (Or.inl rfl))) (Or.inr (Or.inr rfl))⟩
  · have := (List.getElem?_eq_some_iff.mp hi).1
    rw [usR_at]
    unfold va_cpy
    rw [if_pos (by omega), show 30 * s' + (30 * s + i - 30 * s) = 30 * s' + i by omega]
    exact hb.2.2 i v hi
  · have h1 := (List.getElem?_eq_some_iff.mp hi).1
    have h2 := oc.2.1
    rw [usR_at]
    unfold va_cpy
    rw [if_neg (by omega)]
    exact hc.2.2 i v hi
  · rw [show (usI (usI (usR y (g + 1) (va_cpy (y.2.1 (g' + 1)) (y.2.1 (g + 1)) (30 * s') (30 * s) 30)) (g + 2) s (nI B.2.length)) (g + 3) s (nI B.1)).2.1 (g + 1) i = va_cpy (y.2.1 (g' + 1)) (y.2.1 (g + 1)) (30 * s') (30 * s) 30 i from rd_ot (by omega) (rd_ot (by omega) (by rw [usR_at]))]
    unfold va_cpy
    split
    · exact hy _
    · exact hb1 _
end CC2
theorem lexD_b : ∀ (A B : List Nat), A.length ≤ 30 → B.length ≤ 30 → (∀ a, a ∈ A → a < 64) → (∀ a, a ∈ B → a < 64) → -64 ≤ lexD A B ∧ lexD A B ≤ 64
  | [], B, _, h2, _, _ => by
    show -64 ≤ - (B.length : Int) ∧ - (B.length : Int) ≤ 64
    omega
  | a :: A, [], h1, _, _, _ => by
    show -64 ≤ (((a :: A).length : Nat) : Int) ∧ (((a :: A).length : Nat) : Int) ≤ 64
    omega
  | a :: A, b :: B, h1, h2, h3, h4 => by
    have ha := h3 a List.mem_cons_self
    have hb := h4 b List.mem_cons_self
    show -64 ≤ (if a = b then lexD A B else (a : Int) - b) ∧ (if a = b then lexD A B else (a : Int) - b) ≤ 64
    split
    · exact lexD_b A B (by rw [List.length_cons] at h1; omega) (by rw [List.length_cons] at h2; omega) (fun x hx => h3 x (List.mem_cons_of_mem _ hx)) (fun x hx => h4 x (List.mem_cons_of_mem _ hx))
    · omega
theorem cmpC_b {A B : cdT} (oa : cOK A) (ob : cOK B) : -64 ≤ cmpC A B ∧ cmpC A B ≤ 64 := by
  obtain ⟨a1, a2, a3⟩ := oa
  obtain ⟨b1, b2, b3⟩ := ob
  unfold cmpC
  split
  · exact lexD_b _ _ a2 b2 a3 b3
  · omega
theorem lexD_0 : ∀ (A B : List Nat), lexD A B = 0 → A = B
  | [], B, h => by
    have h : - (B.length : Int) = 0 := h
    cases B with
    | nil => rfl
    | cons b B =>
      rw [List.length_cons] at h
      omega
  | a :: A, [], h => by
    have h : (((a :: A).length : Nat) : Int) = 0 := h
    rw [List.length_cons] at h
    omega
  | a :: A, b :: B, h => by
    have h : (if a = b then lexD A B else (a : Int) - b) = 0 := h
    split at h
    · rename_i e
      rw [e, lexD_0 A B h]
    · omega
theorem cmpC_0 {A B : cdT} (h : cmpC A B = 0) : A = B := by
  unfold cmpC at h
  split at h
  · rename_i e
    exact Prod.ext e (lexD_0 _ _ h)
  · omega
theorem ushr1 {n : Nat} (h : n < 2 ^ 31) : ((nI n).toUInt32 >>> ((1 : Int32).toUInt32 &&& Int32.toUInt32 31)).toInt32 = nI (n / 2) := by
  apply Int32.toBitVec_inj.mp
  apply BitVec.eq_of_toNat_eq
  rw [pk_ushr (nI n) 1 1 (by decide), pk_tn (by omega), pk_tn (by omega)]
/-- table g holds the codes Cs, in the order os -/
def tabC (y : ow_MS) (g : Nat) (Cs : List cdT) (os : List Nat) : Prop := y.1 (g + 5) = nI os.length ∧ Cs.length = os.length ∧ (∀ s C, Cs[s]? = some C → slC y g s C ∧ cOK C) ∧ ∀ k s, os[k]? = some s → y.2.1 (g + 4) k = nI s ∧ s < Cs.length
def atC (Cs : List cdT) (os : List Nat) (k : Nat) : cdT := Cs.getD (os.getD k 0) (0, [])
/-- codes below B stand before those above it -/
def moC (Cs : List cdT) (os : List Nat) (B : cdT) : Prop := ∀ i j, i < j → j < os.length → (cmpC (atC Cs os j) B < 0 → cmpC (atC Cs os i) B < 0) ∧ (0 < cmpC (atC Cs os i) B → 0 < cmpC (atC Cs os j) B)
section CC3
variable {vl : Nat → Nat} {y : ow_MS} {g g' p p' s' : Nat} {B : cdT} {Cs : List cdT} {os : List Nat}
theorem tab_at {k : Nat} (h : tabC y g Cs os) (hk : k < os.length) : ∃ s, s < Cs.length ∧ y.2.1 (g + 4) k = nI s ∧ slC y g s (atC Cs os k) ∧ cOK (atC Cs os k) := by
  have e := List.getElem?_eq_getElem hk
  obtain ⟨h1, h2⟩ := h.2.2.2 k _ e
  have e2 := List.getElem?_eq_getElem h2
  have e3 : atC Cs os k = Cs[os[k]] := by
    unfold atC
    rw [List.getD_eq_getElem?_getD, List.getD_eq_getElem?_getD, e]
    show (Cs[os[k]]?).getD _ = _
    rw [e2]
    rfl
  rw [e3]
  exact ⟨os[k], h2, h1, (h.2.2.1 _ _ e2).1, (h.2.2.1 _ _ e2).2⟩
def fnd (Cs : List cdT) (os : List Nat) (B : cdT) (r : Int32) : Prop := (∃ k, k < os.length ∧ r = nI k ∧ atC Cs os k = B) ∨ ∃ k, k ≤ os.length ∧ r = iI (-1 - (k : Int)) ∧ (moC Cs os B → (∀ i, i < k → cmpC (atC Cs os i) B < 0) ∧ ∀ i, k ≤ i → i < os.length → 0 < cmpC (atC Cs os i) B)
theorem u_X3_find_1 {vl : Nat → Nat} {x2 : Int32} {x3 : Int32} {x4 : Int32} {x5 : Int32} {x6 : Int32} {x7 : Int32} {r0 : Nat} {r1 : Nat} {z : ow_MS} {Q : (Int32 × ow_MS) → Prop} (H : Tt (fun K k => cm_X3_find_1 vl K (c_X3_find vl K k) x2 x3 x4 x5 x6 x7 r0 r1 z) Q) : Tt (fun K k => c_X3_find vl K k 1 x2 x3 x4 x5 x6 x7 r0 r1 z) Q := w_un (fun _ _ => rfl) H
theorem u_X3_find_2 {vl : Nat → Nat} {x2 : Int32} {x3 : Int32} {x4 : Int32} {x5 : Int32} {x6 : Int32} {x7 : Int32} {r0 : Nat} {r1 : Nat} {z : ow_MS} {Q : (Int32 × ow_MS) → Prop} (H : Tt (fun K k => cm_X3_find_2 vl K (c_X3_find vl K k) x2 x3 x4 x5 x6 x7 r0 r1 z) Q) : Tt (fun K k => c_X3_find vl K k 2 x2 x3 x4 x5 x6 x7 r0 r1 z) Q := w_un (fun _ _ => rfl) H
theorem e_X3_find {vl : Nat → Nat} {r0 : Nat} {r1 : Nat} {x2 : Int32} {z : ow_MS} {Q : (Int32 × ow_MS) → Prop} (H : Tt (fun K k => c_X3_find vl K k 0 x2 0 0 0 0 0 r0 r1 z) Q) : Te (fun K => ce_X3_find vl K r0 r1 x2 z) Q := w_te H
theorem u_X3_find_0 {vl : Nat → Nat} {x2 : Int32} {x3 : Int32} {x4 : Int32} {x5 : Int32} {x6 : Int32} {x7 : Int32} {r0 : Nat} {r1 : Nat} {z : ow_MS} {Q : (Int32 × ow_MS) → Prop} (H : Tt (fun K k => cm_X3_find_0 vl K (c_X3_find vl K k) x2 x3 x4 x5 x6 x7 r0 r1 z) Q) : Tt (fun K k => c_X3_find vl K k 0 x2 x3 x4 x5 x6 x7 r0 r1 z) Q := w_un (fun _ _ => rfl) H
theorem tc_find (hg : tH g p) (hg' : tH g' p') (hs' : s' < p') (hT : tabC y g Cs os) (hp : os.length ≤ p) (hb : slC y g' s' B) (ob : cOK B) : Te (fun K => ce_X3_find vl K g g' (nI s') y) (fun r => fnd Cs os B r.1 ∧ r.2 = y) := by
  have hpp := tH_p hg
  let Q : Int32 × ow_MS → Prop := fun r => fnd Cs os B r.1 ∧ r.2 = y
  have c1 : ∀ (d i lo hi : Nat), i + d = 12 → lo ≤ hi → hi ≤ os.length → hi - lo < 2 ^ d → (moC Cs os B → (∀ k, k < lo → cmpC (atC Cs os k) B < 0) ∧ ∀ k, hi ≤ k → k < os.length → 0 < cmpC (atC Cs os k) B) → Tt (fun K t => c_X3_find vl K t 1 (nI s') (nI lo) (nI hi) (nI i) 0 0 g g' y) Q := by
    intro d
    have fin : ∀ lo hi, hi ≤ lo → lo ≤ hi → hi ≤ os.length → (moC Cs os B → (∀ k, k < lo → cmpC (atC Cs os k) B < 0) ∧ ∀ k, hi ≤ k → k < os.length → 0 < cmpC (atC Cs os k) B) → Tt (fun (K t : Nat) => some ((-1 : Int32) - nI lo, y)) Q := by
      intro lo hi h1 h2 h3 h4
      have e : lo = hi := by omega
      subst e
      refine w_some ⟨Or.inr ⟨lo, h3, ?_, h4⟩, rfl⟩
      show (-1 : Int32) - nI lo = _
      rw [nI_iI, show (-1 : Int32) = iI (-1) from rfl, iI_sub]
    induction d with
    | zero =>
      intro i lo hi hi0 h1 h2 h3 h4
      have h3 : hi - lo < 1 := h3
      refine u_X3_find_1 ?_; unfold cm_X3_find_1
      exact w_leF (a := 32) (by omega) (by omega) (w_leT (by omega) (by omega) (fin lo hi (by omega) h1 h2 h4))
    | succ d ih =>
      intro i lo hi hi0 h1 h2 h3 h4
      rw [Nat.pow_succ] at h3
      have k2 : ∀ (lo hi : Nat) (x6 x7 : Int32), lo ≤ hi → hi ≤ os.length → hi - lo < 2 ^ d → (moC Cs os B → (∀ k, k < lo → cmpC (atC Cs os k) B < 0) ∧ ∀ k, hi ≤ k → k < os.length → 0 < cmpC (atC Cs os k) B) → Tt (fun K t => c_X3_find vl K t 2 (nI s') (nI lo) (nI hi) (nI i) x6 x7 g g' y) Q := by
        intro lo hi x6 x7 h1 h2 h3 h4
        refine u_X3_find_2 ?_; unfold cm_X3_find_2
        rw [nI_1]
        exact ih (i + 1) lo hi (by omega) h1 h2 h3 h4
      refine u_X3_find_1 ?_; unfold cm_X3_find_1
      rw [nI_add, ushr1 (by omega)]
      refine w_leF (a := 32) (by omega) (by omega) (w_le (by omega) (by omega) (fun h9 => fin lo hi h9 h1 h2 h4) (fun h9 => ?_))
      generalize hm : (lo + hi) / 2 = m
      have hm1 : lo ≤ m := by omega
      have hm2 : m < hi := by omega
      obtain ⟨s, a1, a2, a3, a4⟩ := tab_at hT (show m < os.length by omega)
      have hcb := cmpC_b a4 ob
      refine w_crI (tH_4 hg) rfl (by omega) a2 (w_cs1 (tc_compare hg hg' (by have := hT.2.1; omega) hs' a3 hb a4 ob) ?_)
      rintro v y1 ⟨e1, e2⟩
      dsimp only at e1 e2
      subst e1
      subst e2
      refine w_if (fun e => ?_) (fun e => ?_)
      · have e0 := (iI_eq (by omega) (by omega) (by omega) (by omega)).mp (e.trans (show (0 : Int32) = iI 0 from rfl))
        exact w_some ⟨Or.inl ⟨m, by omega, rfl, cmpC_0 e0⟩, rfl⟩
      · have e0 : cmpC (atC Cs os m) B ≠ 0 := fun h8 => e (by rw [h8]; rfl)
        refine w_if (fun h8 => ?_) (fun h8 => ?_)
        · have h8 := (iI_le (a := 0) (by omega) (by omega) (by omega) (by omega)).mp h8
          refine k2 lo m _ _ hm1 (by omega) (by omega) (fun hmo => ⟨(h4 hmo).1, fun k hk1 hk2 => ?_⟩)
          by_cases ek : k = m
          · rw [ek]
            omega
          · exact (hmo m k (by omega) hk2).2 (by omega)
        · have h8 : ¬ 0 ≤ cmpC (atC Cs os m) B := fun h7 => h8 ((iI_le (a := 0) (by omega) (by omega) (by omega) (by omega)).mpr h7)
          rw [nI_1]
          refine k2 (m + 1) hi _ _ (by omega) h2 (by omega) (fun hmo => ⟨fun k hk => ?_, (h4 hmo).2⟩)
          by_cases ek : k = m
          · rw [ek]
            omega
          · exact (hmo k m (by omega) (by omega)).1 (by omega)
  refine e_X3_find ?_
  refine u_X3_find_0 ?_; unfold cm_X3_find_0
  exact w_rdF hT.1 (c1 12 0 0 os.length (by omega) (by omega) (by omega) (by show _ < 4096; omega) (fun _ => ⟨fun k hk => by omega, fun k hk h9 => by omega⟩))
end CC3
end
section
/-! 99zzzzr.codes3 -/
/-! the class's tables of codes: insert, addNew, meets -/
def insO (os : List Nat) (k n : Nat) : List Nat := os.take k ++ [n] ++ os.drop k
theorem insO_at {os : List Nat} {k n j : Nat} (hk : k ≤ os.length) : (insO os k n)[j]? = if j < k then os[j]? else if j = k then some n else os[j - 1]? := by
  have hl : (os.take k).length = k := by rw [List.length_take]; omega
  unfold insO
  by_cases h1 : j < k
  · rw [if_pos h1, List.getElem?_append_left (by rw [List.length_append, hl]; omega), List.getElem?_append_left (by omega), List.getElem?_take_of_lt h1]
  · rw [if_neg h1]
    by_cases h2 : j = k
    · rw [if_pos h2, List.getElem?_append_left (by rw [List.length_append, hl, List.length_singleton]; omega), List.getElem?_append_right (by omega), hl, h2, Nat.sub_self]
      rfl
    · rw [if_neg h2, List.getElem?_append_right (by rw [List.length_append, hl, List.length_singleton]; omega), List.length_append, hl, List.length_singleton, List.getElem?_drop]
      congr 1
      omega
theorem insO_len {os : List Nat} {k n : Nat} (hk : k ≤ os.length) : (insO os k n).length = os.length + 1 := by
  unfold insO
  rw [List.length_append, List.length_append, List.length_take, List.length_drop, List.length_singleton]
  omega
def cV (g q : Nat) : Prop := g + 1 ≤ q ∧ q ≤ g + 5
theorem tabC_fr {P : Nat → Prop} {y y1 : ow_MS} {g : Nat} {Cs : List cdT} {os : List Nat} (hf : fr P y y1) (hP : ∀ q, cV g q → ¬ P q) (h : tabC y g Cs os) : tabC y1 g Cs os := by
  obtain ⟨a, b, c, d⟩ := h
  refine ⟨by rw [(hf _ (hP _ (by unfold cV; omega))).1]; exact a, b, fun s C hC => ⟨slC_fr hf (fun q hq => hP q (by unfold cW at hq; unfold cV; omega)) (c s C hC).1, (c s C hC).2⟩, fun k s hs => ?_⟩
  rw [(hf _ (hP _ (by unfold cV; omega))).2.1]
  exact d k s hs
section CC4
variable {vl : Nat → Nat} {y : ow_MS} {g g' p p' s' k : Nat} {B : cdT} {Cs : List cdT} {os : List Nat}
theorem e_X3_insert {vl : Nat → Nat} {r0 : Nat} {x1 : Int32} {r2 : Nat} {x3 : Int32} {z : ow_MS} {Q : ow_MS → Prop} (H : Tt (fun K _ => cm_X3_insert_0 vl K x1 x3 r0 r2 z) Q) : Te (fun K => ce_X3_insert vl K r0 x1 r2 x3 z) Q := w_te0 H
theorem tc_insert (hg : tH g p) (hg' : tH g' p') (hd : g + 6 ≤ g' ∨ g' + 6 ≤ g) (hs' : s' < p') (hT : tabC y g Cs os) (hp : os.length ≤ p) (hk : k ≤ os.length) (hb : slC y g' s' B) (ob : cOK B) (hy : byR y (g' + 1)) : Te (fun K => ce_X3_insert vl K g (nI k) g' (nI s') y) (fun y1 => (if os.length < p then tabC y1 g (Cs ++ [B]) (insO os k os.length) else tabC y1 g Cs os) ∧ (byR y (g + 1) → byR y1 (g + 1)) ∧ fr (cV g) y y1) := by
  have hpp := tH_p hg
  obtain ⟨t1, t2, t3, t4⟩ := hT
  have fmn : ∀ {y1 : ow_MS}, fr (cW g) y y1 → fr (cV g) y y1 := fun hf => fr_mono (fun q hq => by unfold cW at hq; unfold cV; omega) hf
  refine e_X3_insert ?_; unfold cm_X3_insert_0
  unfold uw_len
  rw [tH_4 hg]
  refine w_rdF t1 (w_lt (by omega) (by omega) (fun hlt => w_rdF t1 (w_cs0 (tc_write hg hg' hd hlt hs' hb ob hy) ?_)) (fun hle => w_some ?_))
  · rintro y1 ⟨h1, h2, h3, f1⟩
    have e5 : y1.1 (g + 5) = nI os.length := by
      rw [(f1 _ (fun h => by unfold cW at h; omega)).1]
      exact t1
    have e4 : ∀ j, y1.2.1 (g + 4) j = y.2.1 (g + 4) j := fun j => congrFun (f1 _ (fun h => by unfold cW at h; omega)).2.1 j
    refine w_rdF e5 ?_
    rw [show nI os.length - nI k = nI (os.length - k) from pk_sub hk, nI_1]
    refine w_cpI (tH_4 hg) (tH_4 hg) rfl rfl rfl (by omega) (by omega) (w_rdF e5 (w_ctI (tH_4 hg) rfl (by omega) (w_rdF (x := nI os.length) e5 ?_)))
    rw [nI_1]
    refine w_wrF (w_some ⟨?_, fun hb9 i => ?_, fr_F2 (fr_I2 (fr_R2 (fmn f1) (by unfold cV; omega)) (by unfold cV; omega)) (by unfold cV; omega)⟩)
    · rw [if_pos hlt]
      have fE : ∀ s C, slC y1 g s C → slC (usF (usI (usR y1 (g + 4) (va_cpy (y1.2.1 (g + 4)) (y1.2.1 (g + 4)) k (k + 1) (os.length - k))) (g + 4) k (nI os.length)) (g + 5) (nI (os.length + 1))) g s C := fun s C h => slC_fr (P := fun q => q = g + 4 ∨ q = g + 5) (fr_F2 (fr_I2 (fr_R2 fr_rf (Or.inl rfl)) (Or.inl rfl)) (Or.inr rfl)) (fun q hq => by unfold cW at hq; omega) h
      refine ⟨?_, ?_, fun s C hC => ?_, fun j s hs => ?_⟩
      · rw [insO_len hk]
        exact po_usF_at
      · rw [insO_len hk, List.length_append, List.length_singleton, t2]
      · by_cases e : s < Cs.length
        · rw [List.getElem?_append_left e] at hC
          obtain ⟨c1, c2⟩ := t3 s C hC
          exact ⟨fE s C (h2 s C (by omega) c2 c1), c2⟩
        · have hl := (List.getElem?_eq_some_iff.mp hC).1
          rw [List.length_append, List.length_singleton] at hl
          rw [List.getElem?_append_right (by omega), show s - Cs.length = 0 by omega] at hC
          have eC : B = C := Option.some.inj hC
          rw [← eC, show s = os.length by omega]
          exact ⟨fE _ _ h1, ob⟩
      · rw [insO_at hk] at hs
        rw [List.length_append, List.length_singleton]
        show (usI (usR y1 (g + 4) _) (g + 4) k (nI os.length)).2.1 (g + 4) j = nI s ∧ s < Cs.length + 1
        by_cases h8 : j < k
        · rw [if_pos h8] at hs
          obtain ⟨q1, q2⟩ := t4 j s hs
          refine ⟨rd_ne (by omega) ?_, by omega⟩
          rw [usR_at]
          unfold va_cpy
          rw [if_neg (by omega), e4]
          exact q1
        · rw [if_neg h8] at hs
          by_cases h7 : j = k
          · rw [if_pos h7] at hs
            have es : os.length = s := Option.some.inj hs
            rw [h7, ← es]
            exact ⟨po_usI_at, by omega⟩
          · rw [if_neg h7] at hs
            have hl := (List.getElem?_eq_some_iff.mp hs).1
            obtain ⟨q1, q2⟩ := t4 (j - 1) s hs
            refine ⟨rd_ne h7 ?_, by omega⟩
            rw [usR_at]
            unfold va_cpy
            rw [if_pos (by omega), e4, show k + (j - (k + 1)) = j - 1 by omega]
            exact q1
    · have := h3 hb9 i
      show fits .byte (.int ((usI (usR y1 (g + 4) _) (g + 4) k (nI os.length)).2.1 (g + 1) i)) = true
      rw [show (usI (usR y1 (g + 4) (va_cpy (y1.2.1 (g + 4)) (y1.2.1 (g + 4)) k (k + 1) (os.length - k))) (g + 4) k (nI os.length)).2.1 (g + 1) i = y1.2.1 (g + 1) i from rd_ot (by omega) (by rw [usR_ot (by omega)])]
      exact this
  · rw [if_neg (by omega)]
    exact ⟨⟨t1, t2, t3, t4⟩, fun h => h, fr_rf⟩
theorem e_X3_addNew {vl : Nat → Nat} {r0 : Nat} {r1 : Nat} {x2 : Int32} {z : ow_MS} {Q : ow_MS → Prop} (H : Tt (fun K _ => cm_X3_addNew_0 vl K x2 r0 r1 z) Q) : Te (fun K => ce_X3_addNew vl K r0 r1 x2 z) Q := w_te0 H
theorem tc_addNew (hg : tH g p) (hg' : tH g' p') (hd : g + 6 ≤ g' ∨ g' + 6 ≤ g) (hs' : s' < p') (hT : tabC y g Cs os) (hp : os.length ≤ p) (hb : slC y g' s' B) (ob : cOK B) (hy : byR y (g' + 1)) : Te (fun K => ce_X3_addNew vl K g g' (nI s') y) (fun y1 => ((∃ k, k < os.length ∧ atC Cs os k = B) ∧ y1 = y ∨ ∃ k, k ≤ os.length ∧ (moC Cs os B → (∀ i, i < k → cmpC (atC Cs os i) B < 0) ∧ ∀ i, k ≤ i → i < os.length → 0 < cmpC (atC Cs os i) B) ∧ (if os.length < p then tabC y1 g (Cs ++ [B]) (insO os k os.length) else tabC y1 g Cs os)) ∧ (byR y (g + 1) → byR y1 (g + 1)) ∧ fr (cV g) y y1) := by
  have hpp := tH_p hg
  refine e_X3_addNew ?_; unfold cm_X3_addNew_0
  refine w_cs1 (tc_find hg hg' hs' hT hp hb ob) ?_
  rintro v y1 ⟨hv, e2⟩
  dsimp only at hv e2
  subst e2
  rcases hv with ⟨k, k1, k2, k3⟩ | ⟨k, k1, k2, k3⟩
  · rw [k2]
    exact w_leT (a := 0) (by omega) (by omega) (w_some ⟨Or.inl ⟨⟨k, k1, k3⟩, rfl⟩, fun h => h, fr_rf⟩)
  · rw [k2, show (-1 : Int32) - iI (-1 - (k : Int)) = nI k from by
      rw [show (-1 : Int32) = iI (-1) from rfl, iI_sub, nI_iI]
      congr 1
      omega]
    refine w_ifF (fun h9 => ?_) (w_cs0 (tc_insert hg hg' hd hs' hT hp k1 hb ob hy) ?_)
    · have := (iI_le (a := 0) (b := -1 - (k : Int)) (by omega) (by omega) (by omega) (by omega)).mp h9
      omega
    · rintro y2 ⟨h1, h2, f2⟩
      exact w_some ⟨Or.inr ⟨k, k1, k3, h1⟩, h2, f2⟩
end CC4
end
section
/-! 99zzzzs.cnet4 -/
/-! the class: meets; a net's writhe, alternates, append -/
def np_sum (G : Nat → Int32) : Nat → Int32
  | 0 => 0
  | n + 1 => np_sum G n + G n
def np_turn (t : Nat → Bool) (S : ow_NP) (G : Nat → Int32) : Nat → ow_NP × (Nat → Int32)
  | 0 => (S, G)
  | n + 1 => if t n then ((nu (np_turn t S G n).1.1 n ((np_turn t S G n).1.2 n), nu (np_turn t S G n).1.2 n ((np_turn t S G n).1.1 n)), su (np_turn t S G n).2 (n / 2) (-((np_turn t S G n).2 (n / 2)))) else np_turn t S G n
theorem shr1v : ∀ v : Fin 24, (nI v.val) >>> ((1 : Int32) &&& 31) = nI (v.val / 2) := by decide +kernel
section CN4
variable {vl : Nat → Nat} {y : ow_MS} {g g' p p' h : Nat} {Cs Ds : List cdT} {os qs : List Nat} {T : ow_NT}
theorem u_X3_meets_1 {vl : Nat → Nat} {x2 : Int32} {r0 : Nat} {r1 : Nat} {z : ow_MS} {Q : (Int32 × ow_MS) → Prop} (H : Tt (fun K k => cm_X3_meets_1 vl K (c_X3_meets vl K k) x2 r0 r1 z) Q) : Tt (fun K k => c_X3_meets vl K k 1 x2 r0 r1 z) Q := w_un (fun _ _ => rfl) H
theorem e_X3_meets {vl : Nat → Nat} {r0 : Nat} {r1 : Nat} {z : ow_MS} {Q : (Int32 × ow_MS) → Prop} (H : Tt (fun K k => c_X3_meets vl K k 0 0 r0 r1 z) Q) : Te (fun K => ce_X3_meets vl K r0 r1 z) Q := w_te H
theorem u_X3_meets_0 {vl : Nat → Nat} {x2 : Int32} {r0 : Nat} {r1 : Nat} {z : ow_MS} {Q : (Int32 × ow_MS) → Prop} (H : Tt (fun K k => cm_X3_meets_0 vl K (c_X3_meets vl K k) x2 r0 r1 z) Q) : Tt (fun K k => c_X3_meets vl K k 0 x2 r0 r1 z) Q := w_un (fun _ _ => rfl) H
theorem tc_meets (hg : tH g p) (hg' : tH g' p') (hT : tabC y g Cs os) (hp : os.length ≤ p) (hU : tabC y g' Ds qs) (hp' : qs.length ≤ p') : Te (fun K => ce_X3_meets vl K g g' y) (fun r => (r.1 = 1 ∧ (∃ i k, i < Cs.length ∧ k < qs.length ∧ Cs[i]? = some (atC Ds qs k)) ∨ r.1 = 0 ∧ ∀ B, B ∈ Cs → moC Ds qs B → ∀ k, k < qs.length → atC Ds qs k ≠ B) ∧ r.2 = y) := by
  have hpp := tH_p hg
  have hpq := tH_p hg'
  let Q : Int32 × ow_MS → Prop := fun r => (r.1 = 1 ∧ (∃ i k, i < Cs.length ∧ k < qs.length ∧ Cs[i]? = some (atC Ds qs k)) ∨ r.1 = 0 ∧ ∀ B, B ∈ Cs → moC Ds qs B → ∀ k, k < qs.length → atC Ds qs k ≠ B) ∧ r.2 = y
  have hl := hT.2.1
  have cself : ∀ B : cdT, cmpC B B = 0 := by
    intro B
    have aux : ∀ L : List Nat, lexD L L = 0 := by
      intro L
      induction L with
      | nil => rfl
      | cons a L ih =>
        show (if a = a then lexD L L else (a : Int) - a) = 0
        rw [if_pos rfl]
        exact ih
    unfold cmpC
    rw [if_pos rfl]
    exact aux _
  have c1 : ∀ (d i : Nat), i + d = os.length → (∀ j B, j < i → Cs[j]? = some B → moC Ds qs B → ∀ k, k < qs.length → atC Ds qs k ≠ B) → Tt (fun K t => c_X3_meets vl K t 1 (nI i) g g' y) Q := by
    intro d
    induction d with
    | zero =>
      intro i hi hn
      refine u_X3_meets_1 ?_; unfold cm_X3_meets_1
      refine w_rdF hT.1 (w_leT (by omega) (by omega) (w_okZ (Or.inl rfl) (w_some ⟨Or.inr ⟨rfl, fun B hB hm k hk => ?_⟩, rfl⟩)))
      obtain ⟨j, hj⟩ := List.getElem?_of_mem hB
      have := (List.getElem?_eq_some_iff.mp hj).1
      exact hn j B (by omega) hj hm k hk
    | succ d ih =>
      intro i hi hn
      obtain ⟨B, eB⟩ : ∃ B, Cs[i]? = some B := ⟨_, List.getElem?_eq_getElem (show i < Cs.length by omega)⟩
      obtain ⟨b1, b2⟩ := hT.2.2.1 i B eB
      refine u_X3_meets_1 ?_; unfold cm_X3_meets_1
      rw [nI_1]
      refine w_rdF hT.1 (w_leF (by omega) (by omega) (w_cs1 (tc_find hg' hg (show i < p by omega) hU hp' b1 b2) ?_))
      rintro v y1 ⟨hv, e2⟩
      dsimp only at hv e2
      subst e2
      rcases hv with ⟨k, k1, k2, k3⟩ | ⟨k, k1, k2, k3⟩
      · rw [k2]
        exact w_ltF (b := 0) (by omega) (by omega) (w_okZ (Or.inr rfl) (w_some ⟨Or.inl ⟨rfl, i, k, by omega, k1, by rw [k3]; exact eB⟩, rfl⟩))
      · rw [k2]
        refine w_ifT ((iI_lt (b := 0) (by omega) (by omega) (by omega) (by omega)).mpr (by omega)) (ih (i + 1) (by omega) (fun j B' hj hB' hm k' hk' => ?_))
        by_cases ej : j = i
        · rw [ej, eB] at hB'
          have e1 : B = B' := Option.some.inj hB'
          rw [← e1] at hm ⊢
          intro e9
          obtain ⟨m1, m2⟩ := k3 hm
          have c0 : cmpC (atC Ds qs k') B = 0 := by rw [e9]; exact cself B
          by_cases h8 : k' < k
          · have := m1 k' h8
            omega
          · have := m2 k' (by omega) hk'
            omega
        · exact hn j B' (by omega) hB' hm k' hk'
  refine e_X3_meets ?_
  refine u_X3_meets_0 ?_; unfold cm_X3_meets_0
  exact c1 os.length 0 (by omega) (fun j B hj => by omega)
theorem u_X7_writhe_1 {vl : Nat → Nat} {x1 : Int32} {x2 : Int32} {r0 : Nat} {z : ow_MS} {Q : (Int32 × ow_MS) → Prop} (H : Tt (fun K k => cm_X7_writhe_1 vl K (c_X7_writhe vl K k) x1 x2 r0 z) Q) : Tt (fun K k => c_X7_writhe vl K k 1 x1 x2 r0 z) Q := w_un (fun _ _ => rfl) H
theorem e_X7_writhe {vl : Nat → Nat} {r0 : Nat} {z : ow_MS} {Q : (Int32 × ow_MS) → Prop} (H : Tt (fun K k => c_X7_writhe vl K k 0 0 0 r0 z) Q) : Te (fun K => ce_X7_writhe vl K r0 z) Q := w_te H
theorem u_X7_writhe_0 {vl : Nat → Nat} {x1 : Int32} {x2 : Int32} {r0 : Nat} {z : ow_MS} {Q : (Int32 × ow_MS) → Prop} (H : Tt (fun K k => cm_X7_writhe_0 vl K (c_X7_writhe vl K k) x1 x2 r0 z) Q) : Tt (fun K k => c_X7_writhe vl K k 0 x1 x2 r0 z) Q := w_un (fun _ _ => rfl) H
theorem tc_writhe (hh : nH h) (hy : cAt y h T) (hT : T.1 ≤ 12) : Te (fun K => ce_X7_writhe vl K h y) (fun r => r.1 = np_sum T.2.2.2 T.1 ∧ r.2 = y) := by
  let Q : Int32 × ow_MS → Prop := fun r => r.1 = np_sum T.2.2.2 T.1 ∧ r.2 = y
  have c1 : ∀ (d i : Nat), i + d = T.1 → Tt (fun K t => c_X7_writhe vl K t 1 (np_sum T.2.2.2 i) (nI i) h y) Q := by
    intro d
    induction d with
    | zero =>
      intro i hi
      have e : i = T.1 := by omega
      subst e
      refine u_X7_writhe_1 ?_; unfold cm_X7_writhe_1
      exact w_rdF hy.1 (w_leT (by omega) (by omega) (w_some ⟨rfl, rfl⟩))
    | succ d ih =>
      intro i hi
      refine u_X7_writhe_1 ?_; unfold cm_X7_writhe_1
      rw [nI_1]
      exact w_rdF hy.1 (w_leF (by omega) (by omega) (w_crI (nH_3 hh) rfl (by omega) (hy.2.2.2.2 i) (ih (i + 1) (by omega))))
  refine e_X7_writhe ?_
  refine u_X7_writhe_0 ?_; unfold cm_X7_writhe_0
  exact c1 T.1 0 (by omega)
theorem u_X7_alternates_1 {vl : Nat → Nat} {x1 : Int32} {r0 : Nat} {z : ow_MS} {Q : (Int32 × ow_MS) → Prop} (H : Tt (fun K k => cm_X7_alternates_1 vl K (c_X7_alternates vl K k) x1 r0 z) Q) : Tt (fun K k => c_X7_alternates vl K k 1 x1 r0 z) Q := w_un (fun _ _ => rfl) H
theorem e_X7_alternates {vl : Nat → Nat} {r0 : Nat} {z : ow_MS} {Q : (Int32 × ow_MS) → Prop} (H : Tt (fun K k => c_X7_alternates vl K k 0 0 r0 z) Q) : Te (fun K => ce_X7_alternates vl K r0 z) Q := w_te H
theorem u_X7_alternates_0 {vl : Nat → Nat} {x1 : Int32} {r0 : Nat} {z : ow_MS} {Q : (Int32 × ow_MS) → Prop} (H : Tt (fun K k => cm_X7_alternates_0 vl K (c_X7_alternates vl K k) x1 r0 z) Q) : Tt (fun K k => c_X7_alternates vl K k 0 x1 r0 z) Q := w_un (fun _ _ => rfl) H
theorem tc_alternates (hh : nH h) (hy : cAt y h T) (hT : T.1 ≤ 12) : Te (fun K => ce_X7_alternates vl K h y) (fun r => (r.1 = 1 ∧ (∀ v, v < 2 * T.1 → (nI v &&& 1) ≠ (nI (T.2.2.1.1 v) &&& 1)) ∨ r.1 = 0 ∧ ∃ v, v < 2 * T.1 ∧ (nI v &&& 1) = (nI (T.2.2.1.1 v) &&& 1)) ∧ r.2 = y) := by
  let Q : Int32 × ow_MS → Prop := fun r => (r.1 = 1 ∧ (∀ v, v < 2 * T.1 → (nI v &&& 1) ≠ (nI (T.2.2.1.1 v) &&& 1)) ∨ r.1 = 0 ∧ ∃ v, v < 2 * T.1 ∧ (nI v &&& 1) = (nI (T.2.2.1.1 v) &&& 1)) ∧ r.2 = y
  have c1 : ∀ (d i : Nat), i + d = 2 * T.1 → (∀ v, v < i → (nI v &&& 1) ≠ (nI (T.2.2.1.1 v) &&& 1)) → Tt (fun K t => c_X7_alternates vl K t 1 (nI i) h y) Q := by
    intro d
    induction d with
    | zero =>
      intro i hi hn
      refine u_X7_alternates_1 ?_; unfold cm_X7_alternates_1
      refine w_rdF hy.1 ?_
      rw [show (2 : Int32) * nI T.1 = nI (2 * T.1) from pk_mul 2 _]
      exact w_leT (by omega) (by omega) (w_okZ (Or.inr rfl) (w_some ⟨Or.inl ⟨rfl, fun v hv => hn v (by omega)⟩, rfl⟩))
    | succ d ih =>
      intro i hi hn
      refine u_X7_alternates_1 ?_; unfold cm_X7_alternates_1
      refine w_rdF hy.1 ?_
      rw [show (2 : Int32) * nI T.1 = nI (2 * T.1) from pk_mul 2 _, nI_1]
      refine w_leF (by omega) (by omega) (w_crI (nH_1 hh) rfl (by omega) (hy.2.2.1 i) (w_if (fun e => w_okZ (Or.inl rfl) (w_some ⟨Or.inr ⟨rfl, i, by omega, e⟩, rfl⟩)) (fun e => ih (i + 1) (by omega) (fun v hv => ?_))))
      by_cases ev : v = i
      · rw [ev]
        exact e
      · exact hn v (by omega)
  refine e_X7_alternates ?_
  refine u_X7_alternates_0 ?_; unfold cm_X7_alternates_0
  exact c1 (2 * T.1) 0 (by omega) (fun v hv => by omega)
theorem u_X7_turn_1 {vl : Nat → Nat} {x1 : Int32} {x2 : Int32} {r0 : Nat} {z : ow_MS} {Q : ow_MS → Prop} (H : Tt (fun K k => cm_X7_turn_1 vl K (c_X7_turn vl K k) x1 x2 r0 z) Q) : Tt (fun K k => c_X7_turn vl K k 1 x1 x2 r0 z) Q := w_un (fun _ _ => rfl) H
theorem u_X7_turn_3 {vl : Nat → Nat} {x1 : Int32} {x2 : Int32} {r0 : Nat} {z : ow_MS} {Q : ow_MS → Prop} (H : Tt (fun K k => cm_X7_turn_3 vl K (c_X7_turn vl K k) x1 x2 r0 z) Q) : Tt (fun K k => c_X7_turn vl K k 3 x1 x2 r0 z) Q := w_un (fun _ _ => rfl) H
theorem u_X7_turn_2 {vl : Nat → Nat} {x1 : Int32} {x2 : Int32} {r0 : Nat} {z : ow_MS} {Q : ow_MS → Prop} (H : Tt (fun K k => cm_X7_turn_2 vl K (c_X7_turn vl K k) x1 x2 r0 z) Q) : Tt (fun K k => c_X7_turn vl K k 2 x1 x2 r0 z) Q := w_un (fun _ _ => rfl) H
theorem e_X7_turn {vl : Nat → Nat} {r0 : Nat} {x1 : Int32} {z : ow_MS} {Q : ow_MS → Prop} (H : Tt (fun K k => c_X7_turn vl K k 0 x1 0 r0 z) Q) : Te (fun K => ce_X7_turn vl K r0 x1 z) Q := w_te H
theorem u_X7_turn_0 {vl : Nat → Nat} {x1 : Int32} {x2 : Int32} {r0 : Nat} {z : ow_MS} {Q : ow_MS → Prop} (H : Tt (fun K k => cm_X7_turn_0 vl K (c_X7_turn vl K k) x1 x2 r0 z) Q) : Tt (fun K k => c_X7_turn vl K k 0 x1 x2 r0 z) Q := w_un (fun _ _ => rfl) H
theorem tc_turn {x : Int32} {F : Nat → Int32} (hh : nH h) (hy : cAt y h T) (hT : T.1 ≤ 12) (h5 : ∀ k, y.2.1 (h + 5) k = F k) : Te (fun K => ce_X7_turn vl K h x y) (fun y1 => cAt y1 h (T.1, T.2.1, (np_turn (fun v => decide (x = -1) || decide (F v = x)) T.2.2.1 T.2.2.2 (2 * T.1)).1, (np_turn (fun v => decide (x = -1) || decide (F v = x)) T.2.2.1 T.2.2.2 (2 * T.1)).2) ∧ fr (cP h) y y1) := by
  generalize ht : (fun v => decide (x = -1) || decide (F v = x)) = t
  have htv : ∀ v, t v = (decide (x = -1) || decide (F v = x)) := fun v => by rw [← ht]
  let Q : ow_MS → Prop := fun y1 => cAt y1 h (T.1, T.2.1, (np_turn t T.2.2.1 T.2.2.2 (2 * T.1)).1, (np_turn t T.2.2.1 T.2.2.2 (2 * T.1)).2) ∧ fr (cP h) y y1
  have c1 : ∀ (d i : Nat) (y1 : ow_MS), i + d = 2 * T.1 → cAt y1 h (T.1, T.2.1, (np_turn t T.2.2.1 T.2.2.2 i).1, (np_turn t T.2.2.1 T.2.2.2 i).2) → fr (cP h) y y1 → Tt (fun K k => c_X7_turn vl K k 1 x (nI i) h y1) Q := by
    intro d
    induction d with
    | zero =>
      intro i y1 hi h1 hf
      have e : i = 2 * T.1 := by omega
      rw [e] at h1
      refine u_X7_turn_1 ?_; unfold cm_X7_turn_1
      refine w_rdF (x := nI T.1) h1.1 ?_
      rw [show (2 : Int32) * nI T.1 = nI (2 * T.1) from pk_mul 2 _]
      exact w_leT (by omega) (by omega) (w_some ⟨h1, hf⟩)
    | succ d ih =>
      intro i y1 hi h1 hf
      have eo : np_turn t T.2.2.1 T.2.2.2 (i + 1) = if t i then ((nu (np_turn t T.2.2.1 T.2.2.2 i).1.1 i ((np_turn t T.2.2.1 T.2.2.2 i).1.2 i), nu (np_turn t T.2.2.1 T.2.2.2 i).1.2 i ((np_turn t T.2.2.1 T.2.2.2 i).1.1 i)), su (np_turn t T.2.2.1 T.2.2.2 i).2 (i / 2) (-((np_turn t T.2.2.1 T.2.2.2 i).2 (i / 2)))) else np_turn t T.2.2.1 T.2.2.2 i := rfl
      have k3 : ∀ y1 : ow_MS, cAt y1 h (T.1, T.2.1, (np_turn t T.2.2.1 T.2.2.2 (i + 1)).1, (np_turn t T.2.2.1 T.2.2.2 (i + 1)).2) → fr (cP h) y y1 → Tt (fun K k => c_X7_turn vl K k 3 x (nI i) h y1) Q := by
        intro y1 h1 hf
        refine u_X7_turn_3 ?_; unfold cm_X7_turn_3
        rw [nI_1]
        exact ih (i + 1) y1 (by omega) h1 hf
      have k2 : t i = true → Tt (fun K k => c_X7_turn vl K k 2 x (nI i) h y1) Q := by
        intro hti
        rw [if_pos hti] at eo
        rw [eo] at k3
        generalize np_turn t T.2.2.1 T.2.2.2 i = R at *
        obtain ⟨a, b, c, d, e⟩ := h1
        refine u_X7_turn_2 ?_; unfold cm_X7_turn_2
        rw [shr1v ⟨i, by omega⟩]
        refine w_crI (nH_1 hh) rfl (by omega) (c i) (w_crI (nH_2 hh) rfl (by omega) (d i) (w_ctI (nH_1 hh) rfl (by omega) (w_ctI (nH_2 hh) rfl (by omega) (w_crI (nH_3 hh) rfl (show i / 2 < 12 by omega) (rd_ot (by omega) (rd_ot (by omega) (e (i / 2)))) (w_ctI (nH_3 hh) rfl (show i / 2 < 12 by omega) (k3 _ ⟨a, b, fun k => rd_ot (by omega) (rd_ot (by omega) ?_), fun k => rd_ot (by omega) ?_, fun k => ?_⟩ (fr_I2 (fr_I2 (fr_I2 hf (Or.inl (by omega))) (Or.inl (by omega))) (Or.inl (by omega)))))))))
        · show _ = nI (if k = i then R.1.2 i else R.1.1 k)
          by_cases ek : k = i
          · rw [if_pos ek, ek]
            exact po_usI_at
          · rw [if_neg ek]
            exact rd_ne ek (c k)
        · show _ = nI (if k = i then R.1.1 i else R.1.2 k)
          by_cases ek : k = i
          · rw [if_pos ek, ek]
            exact po_usI_at
          · rw [if_neg ek]
            exact rd_ne ek (rd_ot (by omega) (d k))
        · show _ = if k = i / 2 then -(R.2 (i / 2)) else R.2 k
          by_cases ek : k = i / 2
          · rw [if_pos ek, ek]
            exact po_usI_at
          · rw [if_neg ek]
            exact rd_ne ek (rd_ot (by omega) (rd_ot (by omega) (e k)))
      refine u_X7_turn_1 ?_; unfold cm_X7_turn_1
      refine w_rdF (x := nI T.1) h1.1 ?_
      rw [show (2 : Int32) * nI T.1 = nI (2 * T.1) from pk_mul 2 _]
      refine w_leF (by omega) (by omega) (w_if (fun e => k2 ?_) (fun e => w_crI (x := F i) (nH_5 hh) rfl (by omega) ?_ (w_if (fun e1 => k2 ?_) (fun e1 => k3 y1 ?_ hf))))
      · rw [htv, decide_eq_true e]
        rfl
      · rw [(hf _ (fun h9 => by unfold cP at h9; omega)).2.1]
        exact h5 i
      · rw [htv, decide_eq_true e1, Bool.or_true]
      · rw [eo, htv, decide_eq_false e, decide_eq_false e1]
        exact h1
  refine e_X7_turn ?_
  refine u_X7_turn_0 ?_; unfold cm_X7_turn_0
  exact c1 (2 * T.1) 0 y (by omega) hy fr_rf
end CN4
end
