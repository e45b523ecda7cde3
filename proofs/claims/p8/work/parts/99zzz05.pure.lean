section
/-! 99zzzzm.cnet -/
/-! the class: rules for its rows, and what changes a net -/
section CW
variable {O : Type} {X : ow_Tb} {z : ow_MS} {h i len : Nat} {j x : Int32} {y : Int64} {Q : O → Prop}
theorem w_crI {E : Int32 → Nat → Nat → Option O} (hL : (X.2 h).2.1 = len) (hj : j = nI i) (hi : i < len) (he : z.2.1 h i = x) (H : Tt (E x) Q) (hb : len < 2 ^ 31 := by omega) : Tt (fun K k => crI X z h j (fun v => E v K k)) Q := w_rdI (E := E) hL hj hi he H hb
theorem w_ctI {E : ow_MS → Nat → Nat → Option O} (hL : (X.2 h).2.1 = len) (hj : j = nI i) (hi : i < len) (H : Tt (E (usI z h i x)) Q) (hb : len < 2 ^ 31 := by omega) : Tt (fun K k => ctI X z h j x (fun v => E v K k)) Q := w_wrI (E := E) hL hj hi H hb
theorem w_ctB {E : ow_MS → Nat → Nat → Option O} (hL : (X.2 h).2.1 = len) (hj : j = nI i) (hi : i < len) (H : Tt (E (usI z h i (vp_nar .byte x))) Q) (hb : len < 2 ^ 31 := by omega) : Tt (fun K k => ctB X z h j x (fun v => E v K k)) Q := w_wrI (E := E) hL hj hi H hb
theorem w_ctZ {E : ow_MS → Nat → Nat → Option O} (hL : (X.2 h).2.1 = len) (hj : j = nI i) (hi : i < len) (H : Tt (E (usI z h i (vp_nar .boolean x))) Q) (hb : len < 2 ^ 31 := by omega) : Tt (fun K k => ctZ X z h j x (fun v => E v K k)) Q := w_wrI (E := E) hL hj hi H hb
theorem w_crJ {E : Int64 → Nat → Nat → Option O} (hL : (X.2 h).2.1 = len) (hj : j = nI i) (hi : i < len) (he : z.2.2 h i = y) (H : Tt (E y) Q) (hb : len < 2 ^ 31 := by omega) : Tt (fun K k => crJ X z h j (fun v => E v K k)) Q := w_rdJ (E := E) hL hj hi he H hb
theorem w_ctJ {E : ow_MS → Nat → Nat → Option O} (hL : (X.2 h).2.1 = len) (hj : j = nI i) (hi : i < len) (H : Tt (E (usJ z h i y)) Q) (hb : len < 2 ^ 31 := by omega) : Tt (fun K k => ctJ X z h j y (fun v => E v K k)) Q := w_wrJ (E := E) hL hj hi H hb
theorem w_cpI {g a b n la lb : Nat} {sp dp m : Int32} {E : ow_MS → Nat → Nat → Option O} (hL : (X.2 h).2.1 = la) (hG : (X.2 g).2.1 = lb) (h1 : sp = nI a) (h2 : dp = nI b) (h3 : m = nI n) (ha : a + n ≤ la) (hb : b + n ≤ lb) (H : Tt (E (usR z g (va_cpy (z.2.1 h) (z.2.1 g) a b n))) Q) (hla : la < 2 ^ 31 := by omega) (hlb : lb < 2 ^ 31 := by omega) : Tt (fun K k => cpI X z h sp g dp m (fun v => E v K k)) Q := by
  have e : (fun K k => cpI X z h sp g dp m (fun v => E v K k)) = E (usR z g (va_cpy (z.2.1 h) (z.2.1 g) a b n)) := by
    funext K k
    unfold cpI uw_len
    rw [h1, h2, h3, nI_clamp (by omega), nI_clamp (by omega), nI_clamp (by omega), if_neg]
    rintro (h9 | h9 | h9 | h9 | h9)
    · exact nI_pos (by omega) h9
    · exact nI_pos (by omega) h9
    · exact nI_pos (by omega) h9
    · omega
    · omega
  rw [e]
  exact H
end CW
/-- the class's nets -/
def nHL : List Nat := [4000, 5000, 16000, 17000, 26000, 27000, 28000, 29000, 30000, 31000, 32000, 33000, 34000, 35000, 36000, 37000, 38000, 40000, 44000]
def nH (h : Nat) : Prop := h ∈ nHL
theorem nH_all {P : Nat → Prop} (h1 : P 4000 ∧ P 5000 ∧ P 16000 ∧ P 17000 ∧ P 26000 ∧ P 27000 ∧ P 28000 ∧ P 29000 ∧ P 30000 ∧ P 31000 ∧ P 32000 ∧ P 33000 ∧ P 34000 ∧ P 35000 ∧ P 36000 ∧ P 37000 ∧ P 38000 ∧ P 40000 ∧ P 44000) {h : Nat} (hh : nH h) : P h := by
  unfold nH nHL at hh
  simp only [List.mem_cons, List.not_mem_nil, or_false] at hh
  obtain ⟨a1, a2, a3, a4, a5, a6, a7, a8, a9, a10, a11, a12, a13, a14, a15, a16, a17, a18, a19⟩ := h1
  rcases hh with rfl | rfl | rfl | rfl | rfl | rfl | rfl | rfl | rfl | rfl | rfl | rfl | rfl | rfl | rfl | rfl | rfl | rfl | rfl <;> assumption
theorem nH_1 {vl : Nat → Nat} {h : Nat} (hh : nH h) : ((cX vl).2 (h + 1)).2.1 = 24 := nH_all (P := fun h => ((cX vl).2 (h + 1)).2.1 = 24) ⟨rfl, rfl, rfl, rfl, rfl, rfl, rfl, rfl, rfl, rfl, rfl, rfl, rfl, rfl, rfl, rfl, rfl, rfl, rfl⟩ hh
theorem nH_2 {vl : Nat → Nat} {h : Nat} (hh : nH h) : ((cX vl).2 (h + 2)).2.1 = 24 := nH_all (P := fun h => ((cX vl).2 (h + 2)).2.1 = 24) ⟨rfl, rfl, rfl, rfl, rfl, rfl, rfl, rfl, rfl, rfl, rfl, rfl, rfl, rfl, rfl, rfl, rfl, rfl, rfl⟩ hh
theorem nH_3 {vl : Nat → Nat} {h : Nat} (hh : nH h) : ((cX vl).2 (h + 3)).2.1 = 12 := nH_all (P := fun h => ((cX vl).2 (h + 3)).2.1 = 12) ⟨rfl, rfl, rfl, rfl, rfl, rfl, rfl, rfl, rfl, rfl, rfl, rfl, rfl, rfl, rfl, rfl, rfl, rfl, rfl⟩ hh
theorem nH_4 {vl : Nat → Nat} {h : Nat} (hh : nH h) : ((cX vl).2 (h + 4)).2.1 = 24 := nH_all (P := fun h => ((cX vl).2 (h + 4)).2.1 = 24) ⟨rfl, rfl, rfl, rfl, rfl, rfl, rfl, rfl, rfl, rfl, rfl, rfl, rfl, rfl, rfl, rfl, rfl, rfl, rfl⟩ hh
theorem nH_5 {vl : Nat → Nat} {h : Nat} (hh : nH h) : ((cX vl).2 (h + 5)).2.1 = 24 := nH_all (P := fun h => ((cX vl).2 (h + 5)).2.1 = 24) ⟨rfl, rfl, rfl, rfl, rfl, rfl, rfl, rfl, rfl, rfl, rfl, rfl, rfl, rfl, rfl, rfl, rfl, rfl, rfl⟩ hh
theorem nH_6 {vl : Nat → Nat} {h : Nat} (hh : nH h) : ((cX vl).2 (h + 6)).2.1 = 24 := nH_all (P := fun h => ((cX vl).2 (h + 6)).2.1 = 24) ⟨rfl, rfl, rfl, rfl, rfl, rfl, rfl, rfl, rfl, rfl, rfl, rfl, rfl, rfl, rfl, rfl, rfl, rfl, rfl⟩ hh
theorem nH_7 {vl : Nat → Nat} {h : Nat} (hh : nH h) : ((cX vl).2 (h + 7)).2.1 = 24 := nH_all (P := fun h => ((cX vl).2 (h + 7)).2.1 = 24) ⟨rfl, rfl, rfl, rfl, rfl, rfl, rfl, rfl, rfl, rfl, rfl, rfl, rfl, rfl, rfl, rfl, rfl, rfl, rfl⟩ hh
/-- a net of the class: crossings, circles, next and prev, signs -/
def cAt (y : ow_MS) (h : Nat) (T : ow_NT) : Prop := y.1 (h + 8) = nI T.1 ∧ y.1 (h + 9) = nI T.2.1 ∧ (∀ v, y.2.1 (h + 1) v = nI (T.2.2.1.1 v)) ∧ (∀ v, y.2.1 (h + 2) v = nI (T.2.2.1.2 v)) ∧ ∀ v, y.2.1 (h + 3) v = T.2.2.2 v
def cP (h g : Nat) : Prop := h + 1 ≤ g ∧ g ≤ h + 3 ∨ g = h + 8 ∨ g = h + 9
theorem cAt_fr {P : Nat → Prop} {y y1 : ow_MS} {h : Nat} {T : ow_NT} (hf : fr P y y1) (hP : ∀ g, cP h g → ¬ P g) (hy : cAt y h T) : cAt y1 h T := by
  obtain ⟨a, b, c, d, e⟩ := hy
  refine ⟨?_, ?_, fun v => ?_, fun v => ?_, fun v => ?_⟩
  · rw [(hf _ (hP _ (by unfold cP; omega))).1]
    exact a
  · rw [(hf _ (hP _ (by unfold cP; omega))).1]
    exact b
  · rw [(hf _ (hP _ (by unfold cP; omega))).2.1]
    exact c v
  · rw [(hf _ (hP _ (by unfold cP; omega))).2.1]
    exact d v
  · rw [(hf _ (hP _ (by unfold cP; omega))).2.1]
    exact e v
def ntS (T : ow_NT) (S : ow_NP) : ow_NT := (T.1, T.2.1, S, T.2.2.2)
section CN
variable {vl : Nat → Nat} {y : ow_MS} {h v w : Nat} {T : ow_NT}
theorem e_X7_link {vl : Nat → Nat} {r0 : Nat} {x1 : Int32} {x2 : Int32} {z : ow_MS} {Q : ow_MS → Prop} (H : Tt (fun K _ => cm_X7_link_0 vl K x1 x2 r0 z) Q) : Te (fun K => ce_X7_link vl K r0 x1 x2 z) Q := w_te0 H
theorem tc_link (hh : nH h) (hy : cAt y h T) (hv : v < 24) (hw : w < 24) : Te (fun K => ce_X7_link vl K h (nI v) (nI w) y) (fun y1 => cAt y1 h (ntS T (nl T.2.2.1 v w)) ∧ fr (cP h) y y1) := by
  obtain ⟨a, b, c, d, e⟩ := hy
  refine e_X7_link ?_; unfold cm_X7_link_0
  refine w_ctI (nH_1 hh) rfl hv (w_ctI (nH_2 hh) rfl hw (w_some ⟨⟨a, b, fun k => ?_, fun k => ?_, fun k => rd_ot (by omega) (rd_ot (by omega) (e k))⟩, fr_I2 (fr_I2 fr_rf (Or.inl (by omega))) (Or.inl (by omega))⟩))
  · refine rd_ot (by omega) ?_
    show _ = nI (if k = v then w else T.2.2.1.1 k)
    by_cases e1 : k = v
    · rw [if_pos e1, e1]
      exact po_usI_at
    · rw [if_neg e1]
      exact rd_ne e1 (c k)
  · show _ = nI (if k = w then v else T.2.2.1.2 k)
    by_cases e1 : k = w
    · rw [if_pos e1, e1]
      exact po_usI_at
    · rw [if_neg e1]
      exact rd_ne e1 (rd_ot (by omega) (d k))
theorem e_X7_exchange {vl : Nat → Nat} {r0 : Nat} {x1 : Int32} {x2 : Int32} {z : ow_MS} {Q : ow_MS → Prop} (H : Tt (fun K _ => cm_X7_exchange_0 vl K x1 x2 r0 z) Q) : Te (fun K => ce_X7_exchange vl K r0 x1 x2 z) Q := w_te0 H
theorem tc_exchange (hh : nH h) (hy : cAt y h T) (hb : ow_b24 T.2.2.1) (hv : v < 24) (hw : w < 24) : Te (fun K => ce_X7_exchange vl K h (nI v) (nI w) y) (fun y1 => cAt y1 h (ntS T (np_exchange T.2.2.1 v w)) ∧ fr (cP h) y y1) := by
  refine e_X7_exchange ?_; unfold cm_X7_exchange_0
  refine w_crI (nH_1 hh) rfl hv (hy.2.2.1 v) (w_crI (nH_1 hh) rfl hw (hy.2.2.1 w) (w_cs0 (tc_link hh hy hv (hb.1 w)) ?_))
  rintro y1 ⟨h1, f1⟩
  refine w_cs0 (tc_link hh h1 hw (hb.1 v)) ?_
  rintro y2 ⟨h2, f2⟩
  exact w_some ⟨h2, fr_tr f1 f2⟩
theorem e_X7_putBehind {vl : Nat → Nat} {r0 : Nat} {x1 : Int32} {x2 : Int32} {z : ow_MS} {Q : ow_MS → Prop} (H : Tt (fun K _ => cm_X7_putBehind_0 vl K x1 x2 r0 z) Q) : Te (fun K => ce_X7_putBehind vl K r0 x1 x2 z) Q := w_te0 H
theorem tc_putBehind (hh : nH h) (hy : cAt y h T) (hb : ow_b24 T.2.2.1) (hv : v < 24) (hw : w < 24) : Te (fun K => ce_X7_putBehind vl K h (nI v) (nI w) y) (fun y1 => cAt y1 h (ntS T (np_putBehind T.2.2.1 v w)) ∧ fr (cP h) y y1) := by
  refine e_X7_putBehind ?_; unfold cm_X7_putBehind_0
  refine w_crI (nH_1 hh) rfl hv (hy.2.2.1 v) (w_cs0 (tc_link hh hy hv hw) ?_)
  rintro y1 ⟨h1, f1⟩
  refine w_cs0 (tc_link hh h1 hw (hb.1 v)) ?_
  rintro y2 ⟨h2, f2⟩
  exact w_some ⟨h2, fr_tr f1 f2⟩
theorem cAt_o {o : Nat} (hy : cAt y h T) : cAt (usF y (h + 9) (nI o)) h (T.1, o, T.2.2) := by
  obtain ⟨a, b, c, d, e⟩ := hy
  exact ⟨rf_ot (by omega) a, po_usF_at, c, d, e⟩
theorem cAt_c {o : Nat} (hy : cAt y h T) : cAt (usF y (h + 8) (nI o)) h (o, T.2) := by
  obtain ⟨a, b, c, d, e⟩ := hy
  exact ⟨po_usF_at, rf_ot (by omega) b, c, d, e⟩
theorem e_X7_openCircle {vl : Nat → Nat} {r0 : Nat} {x1 : Int32} {z : ow_MS} {Q : ow_MS → Prop} (H : Tt (fun K _ => cm_X7_openCircle_0 vl K x1 r0 z) Q) : Te (fun K => ce_X7_openCircle vl K r0 x1 z) Q := w_te0 H
theorem tc_openCircle (hh : nH h) (hy : cAt y h T) (hv : v < 24) (ho : 1 ≤ T.2.1) : Te (fun K => ce_X7_openCircle vl K h (nI v) y) (fun y1 => cAt y1 h (T.1, T.2.1 - 1, nl T.2.2.1 v v, T.2.2.2) ∧ fr (cP h) y y1) := by
  refine e_X7_openCircle ?_; unfold cm_X7_openCircle_0
  refine w_rdF hy.2.1 ?_
  rw [show nI T.2.1 - 1 = nI (T.2.1 - 1) from pk_sub (b := 1) ho]
  refine w_wrF (w_cs0 (tc_link hh (cAt_o hy) hv hv) ?_)
  rintro y1 ⟨h1, f1⟩
  exact w_some ⟨h1, fr_tr (fr_F2 fr_rf (Or.inr (Or.inr rfl))) f1⟩
theorem e_X7_cut {vl : Nat → Nat} {r0 : Nat} {x1 : Int32} {z : ow_MS} {Q : ow_MS → Prop} (H : Tt (fun K _ => cm_X7_cut_0 vl K x1 r0 z) Q) : Te (fun K => ce_X7_cut vl K r0 x1 z) Q := w_te0 H
theorem tc_cut (hh : nH h) (hy : cAt y h T) (hb : ow_b24 T.2.2.1) (hv : v < 24) : Te (fun K => ce_X7_cut vl K h (nI v) y) (fun y1 => cAt y1 h (T.1, np_cutN T.2.2.1 v T.2.1, np_cut T.2.2.1 v, T.2.2.2) ∧ fr (cP h) y y1) := by
  have b1 := hb.1 v
  have b2 := hb.2 v
  refine e_X7_cut ?_; unfold cm_X7_cut_0
  refine w_crI (nH_1 hh) rfl hv (hy.2.2.1 v) (w_eqN (by omega) (by omega) (fun e => ?_) (fun e => ?_))
  · refine w_rdF hy.2.1 ?_
    rw [nI_1]
    refine w_wrF (w_some ⟨?_, fr_F2 fr_rf (Or.inr (Or.inr rfl))⟩)
    unfold np_cutN np_cut
    rw [if_pos e, if_pos e]
    exact cAt_o hy
  · refine w_crI (nH_2 hh) rfl hv (hy.2.2.2.1 v) (w_crI (nH_1 hh) rfl hv (hy.2.2.1 v) (w_cs0 (tc_link hh hy b2 b1) ?_))
    rintro y1 ⟨h1, f1⟩
    refine w_some ⟨?_, f1⟩
    unfold np_cutN np_cut
    rw [if_neg e, if_neg e]
    exact h1
theorem e_X7_rename {vl : Nat → Nat} {r0 : Nat} {x1 : Int32} {x2 : Int32} {z : ow_MS} {Q : ow_MS → Prop} (H : Tt (fun K _ => cm_X7_rename_0 vl K x1 x2 r0 z) Q) : Te (fun K => ce_X7_rename vl K r0 x1 x2 z) Q := w_te0 H
theorem tc_rename (hh : nH h) (hy : cAt y h T) (hb : ow_b24 T.2.2.1) (hv : v < 24) (hw : w < 24) : Te (fun K => ce_X7_rename vl K h (nI v) (nI w) y) (fun y1 => cAt y1 h (ntS T (np_rename T.2.2.1 v w)) ∧ fr (cP h) y y1) := by
  have b1 := hb.1 v
  have b2 := hb.2 v
  refine e_X7_rename ?_; unfold cm_X7_rename_0
  refine w_crI (nH_1 hh) rfl hv (hy.2.2.1 v) (w_eqN (by omega) (by omega) (fun e => ?_) (fun e => ?_))
  · refine w_cs0 (tc_link hh hy hw hw) ?_
    rintro y1 ⟨h1, f1⟩
    refine w_some ⟨?_, f1⟩
    unfold np_rename
    rw [if_pos e]
    exact h1
  · refine w_crI (nH_2 hh) rfl hv (hy.2.2.2.1 v) (w_cs0 (tc_link hh hy b2 hw) ?_)
    rintro y1 ⟨h1, f1⟩
    have b3 : (nl T.2.2.1 (T.2.2.1.2 v) w).1 v < 24 := by
      show (if v = T.2.2.1.2 v then w else T.2.2.1.1 v) < 24
      split
      · exact hw
      · exact b1
    refine w_crI (nH_1 hh) rfl hv (h1.2.2.1 v) (w_cs0 (tc_link hh h1 hw b3) ?_)
    rintro y2 ⟨h2, f2⟩
    refine w_some ⟨?_, fr_tr f1 f2⟩
    unfold np_rename
    rw [if_neg e]
    exact h2
theorem b24_nl {S : ow_NP} (hb : ow_b24 S) (hv : v < 24) (hw : w < 24) : ow_b24 (nl S v w) := by
  refine ⟨fun k => ?_, fun k => ?_⟩
  · show (if k = v then w else S.1 k) < 24
    split
    · exact hw
    · exact hb.1 k
  · show (if k = w then v else S.2 k) < 24
    split
    · exact hv
    · exact hb.2 k
theorem b24_cut {S : ow_NP} (hb : ow_b24 S) : ow_b24 (np_cut S v) := by
  unfold np_cut
  split
  · exact hb
  · exact b24_nl hb (hb.2 v) (hb.1 v)
theorem b24_rename {S : ow_NP} (hb : ow_b24 S) (hw : w < 24) : ow_b24 (np_rename S v w) := by
  unfold np_rename
  split
  · exact b24_nl hb hw hw
  · have := b24_nl hb (hb.2 v) hw
    exact b24_nl this hw (this.1 v)
theorem e_X7_removeCrossing {vl : Nat → Nat} {r0 : Nat} {x1 : Int32} {z : ow_MS} {Q : ow_MS → Prop} (H : Tt (fun K _ => cm_X7_removeCrossing_0 vl K x1 r0 z) Q) : Te (fun K => ce_X7_removeCrossing vl K r0 x1 z) Q := w_te0 H
theorem tc_removeCrossing {x : Nat} (hh : nH h) (hy : cAt y h T) (hb : ow_b24 T.2.2.1) (hx : x < T.1) (hT : T.1 ≤ 12) : Te (fun K => ce_X7_removeCrossing vl K h (nI x) y) (fun y1 => cAt y1 h (nt_rm T x) ∧ fr (cP h) y y1) := by
  refine e_X7_removeCrossing ?_; unfold cm_X7_removeCrossing_0
  rw [show (2 : Int32) * nI x = nI (2 * x) from pk_mul 2 x, nI_1]
  refine w_cs0 (tc_cut hh hy hb (show 2 * x < 24 by omega)) ?_
  rintro y1 ⟨h1, f1⟩
  refine w_cs0 (tc_cut hh h1 (b24_cut hb) (show 2 * x + 1 < 24 by omega)) ?_
  rintro y2 ⟨h2, f2⟩
  refine w_rdF h2.1 ?_
  rw [show nI T.1 - 1 = nI (T.1 - 1) from pk_sub (b := 1) (by omega)]
  refine w_wrF ?_
  have h3 := cAt_c (o := T.1 - 1) h2
  have f3 := fr_F2 (x := nI (T.1 - 1)) (fr_tr f1 f2) (Or.inr (Or.inl rfl))
  refine w_rdF h3.1 (w_eqN (by omega) (by omega) (fun e => ?_) (fun e => ?_))
  · refine w_some ⟨?_, f3⟩
    unfold nt_rm np_rmS np_rmG np_rmN
    rw [if_pos e, if_pos e]
    exact h3
  · refine w_rdF h3.1 ?_
    rw [show (2 : Int32) * nI (T.1 - 1) = nI (2 * (T.1 - 1)) from pk_mul 2 _]
    refine w_cs0 (tc_rename hh h3 (b24_cut (b24_cut hb)) (show 2 * (T.1 - 1) < 24 by omega) (show 2 * x < 24 by omega)) ?_
    rintro y4 ⟨h4, f4⟩
    refine w_rdF (x := nI (T.1 - 1)) h4.1 ?_
    rw [show (2 : Int32) * nI (T.1 - 1) = nI (2 * (T.1 - 1)) from pk_mul 2 _, nI_1]
    refine w_cs0 (tc_rename hh h4 (b24_rename (b24_cut (b24_cut hb)) (by omega)) (show 2 * (T.1 - 1) + 1 < 24 by omega) (show 2 * x + 1 < 24 by omega)) ?_
    rintro y5 ⟨h5, f5⟩
    refine w_rdF (x := nI (T.1 - 1)) h5.1 (w_crI (nH_3 hh) rfl (show T.1 - 1 < 12 by omega) (h5.2.2.2.2 _) (w_ctI (nH_3 hh) rfl (show x < 12 by omega) (w_some ⟨?_, fr_I2 (fr_tr (fr_tr f3 f4) f5) (Or.inl (by omega))⟩)))
    unfold nt_rm np_rmS np_rmG np_rmN
    rw [if_neg e, if_neg e]
    obtain ⟨a, b, c, d, e⟩ := h5
    refine ⟨a, b, fun k => rd_ot (by omega) (c k), fun k => rd_ot (by omega) (d k), fun k => ?_⟩
    show _ = if k = x then T.2.2.2 (T.1 - 1) else T.2.2.2 k
    by_cases e1 : k = x
    · rw [if_pos e1, e1]
      exact po_usI_at
    · rw [if_neg e1]
      exact rd_ne e1 (e k)
end CN
end
section
/-! 99zzzzn.cnet2 -/
/-! the class's nets: swaps, copies, marks -/
section CN2
variable {vl : Nat → Nat} {y : ow_MS} {h v w : Nat} {T : ow_NT}
theorem e_X7_swapped {vl : Nat → Nat} {x0 : Int32} {x1 : Int32} {x2 : Int32} {z : ow_MS} {Q : (Int32 × ow_MS) → Prop} (H : Tt (fun K _ => cm_X7_swapped_0 vl K x0 x1 x2 z) Q) : Te (fun K => ce_X7_swapped vl K x0 x1 x2 z) Q := w_te0 H
theorem tc_swapped {a : Nat} (ha : a < 24) (hv : v < 24) (hw : w < 24) : Te (fun K => ce_X7_swapped vl K (nI a) (nI v) (nI w) y) (fun r => r.1 = nI (np_sw a v w) ∧ r.2 = y) := by
  refine e_X7_swapped ?_; unfold cm_X7_swapped_0
  unfold np_sw
  refine w_eqN (by omega) (by omega) (fun e => w_some ⟨?_, rfl⟩) (fun e => w_eqN (by omega) (by omega) (fun e1 => w_some ⟨?_, rfl⟩) (fun e1 => w_some ⟨?_, rfl⟩))
  · rw [if_pos e]
  · rw [if_neg e, if_pos e1]
  · rw [if_neg e, if_neg e1]
theorem sw_lt {a : Nat} (ha : a < 24) (hv : v < 24) (hw : w < 24) : np_sw a v w < 24 := by
  unfold np_sw
  split
  · exact hw
  · split
    · exact hv
    · exact ha
theorem e_X7_swapPlaces {vl : Nat → Nat} {r0 : Nat} {x1 : Int32} {x2 : Int32} {z : ow_MS} {Q : ow_MS → Prop} (H : Tt (fun K _ => cm_X7_swapPlaces_0 vl K x1 x2 r0 z) Q) : Te (fun K => ce_X7_swapPlaces vl K r0 x1 x2 z) Q := w_te0 H
theorem tc_swapPlaces (hh : nH h) (hy : cAt y h T) (hb : ow_b24 T.2.2.1) (hv : v < 24) (hw : w < 24) : Te (fun K => ce_X7_swapPlaces vl K h (nI v) (nI w) y) (fun y1 => cAt y1 h (ntS T (np_swap T.2.2.1 v w)) ∧ fr (cP h) y y1) := by
  refine e_X7_swapPlaces ?_; unfold cm_X7_swapPlaces_0
  refine w_crI (nH_2 hh) rfl hv (hy.2.2.2.1 v) (w_cs1 (tc_swapped (hb.2 v) hv hw) ?_)
  rintro a1 y1 ⟨e1, e2⟩
  dsimp only at e1 e2
  subst e1
  subst e2
  refine w_crI (nH_1 hh) rfl hv (hy.2.2.1 v) (w_cs1 (tc_swapped (hb.1 v) hv hw) ?_)
  rintro a1 y1 ⟨e1, e2⟩
  dsimp only at e1 e2
  subst e1
  subst e2
  refine w_crI (nH_2 hh) rfl hw (hy.2.2.2.1 w) (w_cs1 (tc_swapped (hb.2 w) hv hw) ?_)
  rintro a1 y1 ⟨e1, e2⟩
  dsimp only at e1 e2
  subst e1
  subst e2
  refine w_crI (nH_1 hh) rfl hw (hy.2.2.1 w) (w_cs1 (tc_swapped (hb.1 w) hv hw) ?_)
  rintro a1 y1 ⟨e1, e2⟩
  dsimp only at e1 e2
  subst e1
  subst e2
  refine w_cs0 (tc_link hh hy (sw_lt (hb.2 v) hv hw) hw) ?_
  rintro y1 ⟨h1, f1⟩
  refine w_cs0 (tc_link hh h1 hw (sw_lt (hb.1 v) hv hw)) ?_
  rintro y2 ⟨h2, f2⟩
  refine w_cs0 (tc_link hh h2 (sw_lt (hb.2 w) hv hw) hv) ?_
  rintro y3 ⟨h3, f3⟩
  refine w_cs0 (tc_link hh h3 hv (sw_lt (hb.1 w) hv hw)) ?_
  rintro y4 ⟨h4, f4⟩
  exact w_some ⟨h4, fr_tr (fr_tr (fr_tr f1 f2) f3) f4⟩
theorem e_X7_flipCrossing {vl : Nat → Nat} {r0 : Nat} {x1 : Int32} {z : ow_MS} {Q : ow_MS → Prop} (H : Tt (fun K _ => cm_X7_flipCrossing_0 vl K x1 r0 z) Q) : Te (fun K => ce_X7_flipCrossing vl K r0 x1 z) Q := w_te0 H
theorem tc_flipCrossing {x : Nat} (hh : nH h) (hy : cAt y h T) (hb : ow_b24 T.2.2.1) (hx : x < 12) : Te (fun K => ce_X7_flipCrossing vl K h (nI x) y) (fun y1 => cAt y1 h (T.1, T.2.1, np_swap T.2.2.1 (2 * x) (2 * x + 1), su T.2.2.2 x (- T.2.2.2 x)) ∧ fr (cP h) y y1) := by
  refine e_X7_flipCrossing ?_; unfold cm_X7_flipCrossing_0
  rw [show (2 : Int32) * nI x = nI (2 * x) from pk_mul 2 x, nI_1]
  refine w_cs0 (tc_swapPlaces hh hy hb (show 2 * x < 24 by omega) (show 2 * x + 1 < 24 by omega)) ?_
  rintro y1 ⟨⟨a, b, c, d, e⟩, f1⟩
  refine w_crI (nH_3 hh) rfl hx (e x) (w_ctI (nH_3 hh) rfl hx (w_some ⟨⟨a, b, fun k => rd_ot (by omega) (c k), fun k => rd_ot (by omega) (d k), fun k => ?_⟩, fr_I2 f1 (Or.inl (by omega))⟩))
  show _ = if k = x then _ else T.2.2.2 k
  by_cases e1 : k = x
  · rw [if_pos e1, e1]
    exact po_usI_at
  · rw [if_neg e1]
    exact rd_ne e1 (e k)
theorem b24_exchange {S : ow_NP} (hb : ow_b24 S) (hv : v < 24) (hw : w < 24) : ow_b24 (np_exchange S v w) := b24_nl (b24_nl hb hv (hb.1 w)) hw (hb.1 v)
theorem e_X7_smoothCrossing {vl : Nat → Nat} {r0 : Nat} {x1 : Int32} {z : ow_MS} {Q : ow_MS → Prop} (H : Tt (fun K _ => cm_X7_smoothCrossing_0 vl K x1 r0 z) Q) : Te (fun K => ce_X7_smoothCrossing vl K r0 x1 z) Q := w_te0 H
theorem tc_smoothCrossing {x : Nat} (hh : nH h) (hy : cAt y h T) (hb : ow_b24 T.2.2.1) (hx : x < T.1) (hT : T.1 ≤ 12) : Te (fun K => ce_X7_smoothCrossing vl K h (nI x) y) (fun y1 => cAt y1 h (nt_rm (ntS T (np_exchange T.2.2.1 (2 * x) (2 * x + 1))) x) ∧ fr (cP h) y y1) := by
  refine e_X7_smoothCrossing ?_; unfold cm_X7_smoothCrossing_0
  rw [show (2 : Int32) * nI x = nI (2 * x) from pk_mul 2 x, nI_1]
  refine w_cs0 (tc_exchange hh hy hb (show 2 * x < 24 by omega) (show 2 * x + 1 < 24 by omega)) ?_
  rintro y1 ⟨h1, f1⟩
  refine w_cs0 (tc_removeCrossing hh h1 (b24_exchange hb (show 2 * x < 24 by omega) (show 2 * x + 1 < 24 by omega)) hx hT) ?_
  rintro y2 ⟨h2, f2⟩
  exact w_some ⟨h2, fr_tr f1 f2⟩
theorem e_X7_empty {vl : Nat → Nat} {r0 : Nat} {z : ow_MS} {Q : ow_MS → Prop} (H : Tt (fun K _ => cm_X7_empty_0 vl K r0 z) Q) : Te (fun K => ce_X7_empty vl K r0 z) Q := w_te0 H
theorem tc_empty (hy : cAt y h T) : Te (fun K => ce_X7_empty vl K h y) (fun y1 => cAt y1 h (0, 0, T.2.2) ∧ fr (cP h) y y1) := by
  refine e_X7_empty ?_; unfold cm_X7_empty_0
  exact w_wrF (w_wrF (w_some ⟨cAt_o (o := 0) (cAt_c (o := 0) hy), fr_F2 (fr_F2 fr_rf (Or.inr (Or.inl rfl))) (Or.inr (Or.inr rfl))⟩))
theorem cpy_nI {N M : Nat → Nat} {a b n k : Nat} {f g : Nat → Int32} (hf : ∀ k, f k = nI (N k)) (hg : ∀ k, g k = nI (M k)) : va_cpy f g a b n k = nI (va_cpy N M a b n k) := by
  unfold va_cpy
  split
  · exact hf _
  · exact hg _
theorem cpy_eq {N M : Nat → Int32} {a b n k : Nat} {f g : Nat → Int32} (hf : ∀ k, f k = N k) (hg : ∀ k, g k = M k) : va_cpy f g a b n k = va_cpy N M a b n k := by
  unfold va_cpy
  split
  · exact hf _
  · exact hg _
theorem usR_at {f : Nat → Int32} {g : Nat} : (usR y g f).2.1 g = f := if_pos rfl
theorem usR_ot {f : Nat → Int32} {g g' : Nat} (hg : g' ≠ g) : (usR y g f).2.1 g' = y.2.1 g' := if_neg hg
theorem fr_R2 {P : Nat → Prop} {z1 : ow_MS} {f : Nat → Int32} {g : Nat} (h1 : fr P y z1) (hg : P g) : fr P y (usR z1 g f) := by
  intro g' h9
  refine ⟨(h1 g' h9).1, ?_, (h1 g' h9).2.2⟩
  rw [usR_ot (fun e => h9 (by rw [e]; exact hg))]
  exact (h1 g' h9).2.1
/-- two nets that share no cell -/
def nDj (h g : Nat) : Prop := h + 12 ≤ g ∨ g + 12 ≤ h
theorem e_X7_copy {vl : Nat → Nat} {r0 : Nat} {r1 : Nat} {z : ow_MS} {Q : ow_MS → Prop} (H : Tt (fun K _ => cm_X7_copy_0 vl K r0 r1 z) Q) : Te (fun K => ce_X7_copy vl K r0 r1 z) Q := w_te0 H
theorem tc_copy {g : Nat} {R : ow_NT} (hh : nH h) (hg : nH g) (hd : nDj h g) (hy : cAt y h T) (hr : cAt y g R) (hR : R.1 ≤ 12) : Te (fun K => ce_X7_copy vl K h g y) (fun y1 => cAt y1 h (nt_copy T R) ∧ fr (cP h) y y1) := by
  unfold nDj at hd
  obtain ⟨a, b, c, d, e⟩ := hy
  obtain ⟨a', b', c', d', e'⟩ := hr
  refine e_X7_copy ?_; unfold cm_X7_copy_0
  refine w_rdF a' (w_wrF (w_rdF (x := nI R.2.1) (rf_ot (by omega) b') (w_wrF (w_rdF (x := nI R.1) (rf_ot (by omega) po_usF_at) ?_))))
  rw [show (2 : Int32) * nI R.1 = nI (2 * R.1) from pk_mul 2 _]
  refine w_cpI (a := 0) (b := 0) (nH_1 hg) (nH_1 hh) rfl rfl rfl (by omega) (by omega) (w_rdF (x := nI R.1) (rf_ot (by omega) po_usF_at) ?_)
  rw [show (2 : Int32) * nI R.1 = nI (2 * R.1) from pk_mul 2 _]
  refine w_cpI (a := 0) (b := 0) (nH_2 hg) (nH_2 hh) rfl rfl rfl (by omega) (by omega) (w_rdF (x := nI R.1) (rf_ot (by omega) po_usF_at) ?_)
  refine w_cpI (a := 0) (b := 0) (nH_3 hg) (nH_3 hh) rfl rfl rfl (by omega) (by omega) (w_some ⟨⟨rf_ot (by omega) po_usF_at, po_usF_at, fun k => ?_, fun k => ?_, fun k => ?_⟩, fr_R2 (fr_R2 (fr_R2 (fr_F2 (fr_F2 fr_rf (Or.inr (Or.inl rfl))) (Or.inr (Or.inr rfl))) (Or.inl (by omega))) (Or.inl (by omega))) (Or.inl (by omega))⟩)
  · rw [usR_ot (by omega), usR_ot (by omega), usR_at]
    exact cpy_nI c' c
  · rw [usR_ot (by omega), usR_at, usR_ot (by omega), usR_ot (by omega)]
    exact cpy_nI d' d
  · rw [usR_at, usR_ot (by omega), usR_ot (by omega), usR_ot (by omega), usR_ot (by omega)]
    exact cpy_eq e' e
theorem e_J7_rangeCheck_23922 {vl : Nat → Nat} {x0 : Int32} {x1 : Int32} {x2 : Int32} {z : ow_MS} {Q : ow_MS → Prop} (H : Tt (fun K _ => cm_J7_rangeCheck_23922_0 vl K x0 x1 x2 z) Q) : Te (fun K => ce_J7_rangeCheck_23922 vl K x0 x1 x2 z) Q := w_te0 H
theorem tc_range {l a b : Nat} (h1 : a ≤ b) (h2 : b ≤ l) (hl : l < 2 ^ 31) : Te (fun K => ce_J7_rangeCheck_23922 vl K (nI l) (nI a) (nI b) y) (fun y1 => y1 = y) := by
  refine e_J7_rangeCheck_23922 ?_; unfold cm_J7_rangeCheck_23922_0
  exact w_leT (by omega) h1 (w_leT (a := 0) (by omega) (by omega) (w_leT (by omega) h2 (w_some rfl)))
theorem u_J7_fill_fda19_1 {vl : Nat → Nat} {x1 : Int32} {x2 : Int32} {x3 : Int32} {x4 : Int32} {r0 : Nat} {z : ow_MS} {Q : ow_MS → Prop} (H : Tt (fun K k => cm_J7_fill_fda19_1 vl K (c_J7_fill_fda19 vl K k) x1 x2 x3 x4 r0 z) Q) : Tt (fun K k => c_J7_fill_fda19 vl K k 1 x1 x2 x3 x4 r0 z) Q := w_un (fun _ _ => rfl) H
theorem e_J7_fill_fda19 {vl : Nat → Nat} {r0 : Nat} {x1 : Int32} {x2 : Int32} {x3 : Int32} {z : ow_MS} {Q : ow_MS → Prop} (H : Tt (fun K k => c_J7_fill_fda19 vl K k 0 x1 x2 x3 0 r0 z) Q) : Te (fun K => ce_J7_fill_fda19 vl K r0 x1 x2 x3 z) Q := w_te H
theorem u_J7_fill_fda19_0 {vl : Nat → Nat} {x1 : Int32} {x2 : Int32} {x3 : Int32} {x4 : Int32} {r0 : Nat} {z : ow_MS} {Q : ow_MS → Prop} (H : Tt (fun K k => cm_J7_fill_fda19_0 vl K (c_J7_fill_fda19 vl K k) x1 x2 x3 x4 r0 z) Q) : Tt (fun K k => c_J7_fill_fda19 vl K k 0 x1 x2 x3 x4 r0 z) Q := w_un (fun _ _ => rfl) H
theorem tc_fill {g l a b : Nat} {x : Int32} (hL : ((cX vl).2 g).2.1 = l) (h1 : a ≤ b) (h2 : b ≤ l) (hl : l < 2 ^ 31) : Te (fun K => ce_J7_fill_fda19 vl K g (nI a) (nI b) x y) (fun y1 => (∀ k, y1.2.1 g k = if a ≤ k ∧ k < b then x else y.2.1 g k) ∧ fr (fun q => q = g) y y1) := by
  let Q : ow_MS → Prop := fun y1 => (∀ k, y1.2.1 g k = if a ≤ k ∧ k < b then x else y.2.1 g k) ∧ fr (fun q => q = g) y y1
  have c1 : ∀ (d i : Nat) (y1 : ow_MS), i + d = b → a ≤ i → (∀ k, y1.2.1 g k = if a ≤ k ∧ k < i then x else y.2.1 g k) → fr (fun q => q = g) y y1 → Tt (fun K t => c_J7_fill_fda19 vl K t 1 (nI a) (nI b) x (nI i) g y1) Q := by
    intro d
    induction d with
    | zero =>
      intro i y1 hi ha hk hf
      have e : i = b := by omega
      subst e
      refine u_J7_fill_fda19_1 ?_; unfold cm_J7_fill_fda19_1
      exact w_leT (by omega) (by omega) (w_some ⟨hk, hf⟩)
    | succ d ih =>
      intro i y1 hi ha hk hf
      refine u_J7_fill_fda19_1 ?_; unfold cm_J7_fill_fda19_1
      rw [nI_1]
      refine w_leF (by omega) (by omega) (w_ctI hL rfl (by omega) (ih (i + 1) _ (by omega) (by omega) (fun k => ?_) (fr_I2 hf rfl)))
      by_cases e : k = i
      · rw [e, if_pos (by omega)]
        exact po_usI_at
      · rw [show (usI y1 g i x).2.1 g k = y1.2.1 g k from po_usI_ne e, hk]
        by_cases e1 : a ≤ k ∧ k < i
        · rw [if_pos e1, if_pos (by omega)]
        · rw [if_neg e1, if_neg (by omega)]
  refine e_J7_fill_fda19 ?_
  refine u_J7_fill_fda19_0 ?_; unfold cm_J7_fill_fda19_0
  unfold uw_len
  rw [hL]
  refine w_cs0 (tc_range h1 h2 hl) ?_
  rintro y1 e
  subst e
  exact c1 (b - a) a _ (by omega) (by omega) (fun k => by rw [if_neg (by omega)]) fr_rf
end CN2
end
section
/-! 99zzzzo.cmark -/
/-! the class's nets: rings and parts marked -/
section CM
variable {vl : Nat → Nat} {y : ow_MS} {h : Nat} {T : ow_NT}
def rwC (y : ow_MS) (g : Nat) (F : Nat → Int32) : Prop := ∀ k, y.2.1 g k = F k
theorem rwC_su {y : ow_MS} {g i : Nat} {F : Nat → Int32} {x : Int32} (hy : rwC y g F) : rwC (usI y g i x) g (su F i x) := by
  intro k
  show _ = if k = i then x else F k
  by_cases e : k = i
  · rw [if_pos e, e]
    exact po_usI_at
  · rw [if_neg e]
    exact rd_ne e (hy k)
theorem rwC_ot {y : ow_MS} {g g' i : Nat} {F : Nat → Int32} {x : Int32} (hg : g ≠ g') (hy : rwC y g F) : rwC (usI y g' i x) g F := fun k => rd_ot hg (hy k)
theorem cAt_I {g i : Nat} {x : Int32} (hg : g = h + 4 ∨ g = h + 5 ∨ g = h + 6 ∨ g = h + 7) (hy : cAt y h T) : cAt (usI y g i x) h T := cAt_fr (P := fun q => q = g) (fr_I2 fr_rf rfl) (fun q hq => by unfold cP at hq; omega) hy
theorem cAt_F {g : Nat} {x : Int32} (hg : g = h + 10 ∨ g = h + 11) (hy : cAt y h T) : cAt (usF y g x) h T := cAt_fr (P := fun q => q = g) (fr_F2 fr_rf rfl) (fun q hq => by unfold cP at hq; omega) hy
def cR (h g : Nat) : Prop := g = h + 5 ∨ g = h + 10
theorem mr_out_le (N : Nat → Nat) (vs : Nat) (F : Nat → Int32) : ∀ n, (mr_out N vs F n).2 ≤ n := by
  intro n
  induction n with
  | zero => exact Nat.zero_le _
  | succ n ih =>
    show (if (mr_out N vs F n).1 n = -1 then (_, (mr_out N vs F n).2 + 1) else mr_out N vs F n).2 ≤ n + 1
    split
    · show (mr_out N vs F n).2 + 1 ≤ n + 1
      omega
    · omega
theorem u_X7_markRings_1 {vl : Nat → Nat} {x1 : Int32} {x2 : Int32} {x3 : Int32} {x4 : Int32} {r0 : Nat} {z : ow_MS} {Q : ow_MS → Prop} (H : Tt (fun K k => cm_X7_markRings_1 vl K (c_X7_markRings vl K k) x1 x2 x3 x4 r0 z) Q) : Tt (fun K k => c_X7_markRings vl K k 1 x1 x2 x3 x4 r0 z) Q := w_un (fun _ _ => rfl) H
theorem u_X7_markRings_4 {vl : Nat → Nat} {x1 : Int32} {x2 : Int32} {x3 : Int32} {x4 : Int32} {r0 : Nat} {z : ow_MS} {Q : ow_MS → Prop} (H : Tt (fun K k => cm_X7_markRings_4 vl K (c_X7_markRings vl K k) x1 x2 x3 x4 r0 z) Q) : Tt (fun K k => c_X7_markRings vl K k 4 x1 x2 x3 x4 r0 z) Q := w_un (fun _ _ => rfl) H
theorem u_X7_markRings_3 {vl : Nat → Nat} {x1 : Int32} {x2 : Int32} {x3 : Int32} {x4 : Int32} {r0 : Nat} {z : ow_MS} {Q : ow_MS → Prop} (H : Tt (fun K k => cm_X7_markRings_3 vl K (c_X7_markRings vl K k) x1 x2 x3 x4 r0 z) Q) : Tt (fun K k => c_X7_markRings vl K k 3 x1 x2 x3 x4 r0 z) Q := w_un (fun _ _ => rfl) H
theorem u_X7_markRings_2 {vl : Nat → Nat} {x1 : Int32} {x2 : Int32} {x3 : Int32} {x4 : Int32} {r0 : Nat} {z : ow_MS} {Q : ow_MS → Prop} (H : Tt (fun K k => cm_X7_markRings_2 vl K (c_X7_markRings vl K k) x1 x2 x3 x4 r0 z) Q) : Tt (fun K k => c_X7_markRings vl K k 2 x1 x2 x3 x4 r0 z) Q := w_un (fun _ _ => rfl) H
theorem e_X7_markRings {vl : Nat → Nat} {r0 : Nat} {z : ow_MS} {Q : ow_MS → Prop} (H : Tt (fun K k => c_X7_markRings vl K k 0 0 0 0 0 r0 z) Q) : Te (fun K => ce_X7_markRings vl K r0 z) Q := w_te H
theorem u_X7_markRings_0 {vl : Nat → Nat} {x1 : Int32} {x2 : Int32} {x3 : Int32} {x4 : Int32} {r0 : Nat} {z : ow_MS} {Q : ow_MS → Prop} (H : Tt (fun K k => cm_X7_markRings_0 vl K (c_X7_markRings vl K k) x1 x2 x3 x4 r0 z) Q) : Tt (fun K k => c_X7_markRings vl K k 0 x1 x2 x3 x4 r0 z) Q := w_un (fun _ _ => rfl) H
theorem tc_markRings (hh : nH h) (hy : cAt y h T) (hb : ow_b24 T.2.2.1) (hT : T.1 ≤ 12) : Te (fun K => ce_X7_markRings vl K h y) (fun y1 => rwC y1 (h + 5) (mr_out T.2.2.1.1 (2 * T.1) (np_fill (y.2.1 (h + 5)) 0 (2 * T.1) (-1)) (2 * T.1)).1 ∧ y1.1 (h + 10) = nI (mr_out T.2.2.1.1 (2 * T.1) (np_fill (y.2.1 (h + 5)) 0 (2 * T.1) (-1)) (2 * T.1)).2 ∧ fr (cR h) y y1) := by
  generalize hF0 : np_fill (y.2.1 (h + 5)) 0 (2 * T.1) (-1) = F0
  let N := T.2.2.1.1
  let vs := 2 * T.1
  let Q : ow_MS → Prop := fun y1 => rwC y1 (h + 5) (mr_out N vs F0 vs).1 ∧ y1.1 (h + 10) = nI (mr_out N vs F0 vs).2 ∧ fr (cR h) y y1
  have hvs : vs ≤ 24 := by show 2 * T.1 ≤ 24; omega
  have cAy : ∀ {y1 : ow_MS}, fr (cR h) y y1 → cAt y1 h T := fun hf => cAt_fr hf (fun q hq hr => by unfold cP at hq; unfold cR at hr; omega) hy
  have c1 : ∀ (d s : Nat) (y1 : ow_MS), s + d = vs → rwC y1 (h + 5) (mr_out N vs F0 s).1 → y1.1 (h + 10) = nI (mr_out N vs F0 s).2 → fr (cR h) y y1 → Tt (fun K t => c_X7_markRings vl K t 1 (nI vs) (nI s) 0 0 h y1) Q := by
    intro d
    induction d with
    | zero =>
      intro s y1 hs h1 h2 hf
      have e : s = vs := by omega
      rw [e] at h1 h2
      refine u_X7_markRings_1 ?_; unfold cm_X7_markRings_1
      exact w_leT (by omega) (by omega) (w_some ⟨h1, h2, hf⟩)
    | succ d ih =>
      intro s y1 hs h1 h2 hf
      have hle := mr_out_le N vs F0 s
      have eo : mr_out N vs F0 (s + 1) = if (mr_out N vs F0 s).1 s = -1 then (mr_in N (nI (mr_out N vs F0 s).2) vs (mr_out N vs F0 s).1 s, (mr_out N vs F0 s).2 + 1) else mr_out N vs F0 s := rfl
      have k4 : ∀ (y1 : ow_MS), rwC y1 (h + 5) (mr_out N vs F0 (s + 1)).1 → y1.1 (h + 10) = nI (mr_out N vs F0 (s + 1)).2 → fr (cR h) y y1 → Tt (fun K t => c_X7_markRings vl K t 4 (nI vs) (nI s) 0 0 h y1) Q := by
        intro y1 h1 h2 hf
        refine u_X7_markRings_4 ?_; unfold cm_X7_markRings_4
        rw [nI_1]
        exact ih (s + 1) y1 (by omega) h1 h2 hf
      refine u_X7_markRings_1 ?_; unfold cm_X7_markRings_1
      refine w_leF (by omega) (by omega) (w_crI (nH_5 hh) rfl (by omega) (h1 s) (w_if (fun e => ?_) (fun e => ?_)))
      · rw [if_pos e] at eo
        generalize (mr_out N vs F0 s).2 = q at *
        have k3 : ∀ (x3 x4 : Int32) (y1 : ow_MS), rwC y1 (h + 5) (mr_out N vs F0 (s + 1)).1 → y1.1 (h + 10) = nI q → fr (cR h) y y1 → Tt (fun K t => c_X7_markRings vl K t 3 (nI vs) (nI s) x3 x4 h y1) Q := by
          intro x3 x4 y1 h1 h2 hf
          refine u_X7_markRings_3 ?_; unfold cm_X7_markRings_3
          refine w_rdF h2 ?_
          rw [nI_1]
          refine w_wrF (k4 _ h1 ?_ (fr_F2 hf (Or.inr rfl)))
          rw [eo]
          exact po_usF_at
        have c2 : ∀ (e i v : Nat) (F : Nat → Int32) (y1 : ow_MS), i + e = vs → v < 24 → rwC y1 (h + 5) F → y1.1 (h + 10) = nI q → fr (cR h) y y1 → mr_in N (nI q) e F v = (mr_out N vs F0 (s + 1)).1 → Tt (fun K t => c_X7_markRings vl K t 2 (nI vs) (nI s) (nI v) (nI i) h y1) Q := by
          intro e
          induction e with
          | zero =>
            intro i v F y1 hi hv h1 h2 hf hm
            have hm : F = _ := hm
            refine u_X7_markRings_2 ?_; unfold cm_X7_markRings_2
            exact w_leT (by omega) (by omega) (k3 _ _ y1 (by rw [← hm]; exact h1) h2 hf)
          | succ e ihe =>
            intro i v F y1 hi hv h1 h2 hf hm
            have hm : (if F v = -1 then mr_in N (nI q) e (su F v (nI q)) (N v) else F) = _ := hm
            refine u_X7_markRings_2 ?_; unfold cm_X7_markRings_2
            refine w_leF (by omega) (by omega) (w_crI (nH_5 hh) rfl hv (h1 v) (w_if (fun e1 => ?_) (fun e1 => ?_)))
            · rw [if_pos e1] at hm
              rw [nI_1]
              refine w_rdF h2 (w_ctI (nH_5 hh) rfl hv (w_crI (nH_1 hh) rfl hv (rd_ot (by omega) ((cAy hf).2.2.1 v)) (ihe (i + 1) _ _ _ (by omega) (hb.1 v) (rwC_su h1) h2 (fr_I2 hf (Or.inl rfl)) hm)))
            · rw [if_neg e1] at hm
              exact k3 _ _ y1 (by rw [← hm]; exact h1) h2 hf
        exact c2 vs 0 s _ y1 (by omega) (by omega) h1 h2 hf (by rw [eo])
      · rw [if_neg e] at eo
        refine k4 y1 ?_ ?_ hf
        · rw [eo]
          exact h1
        · rw [eo]
          exact h2
  refine e_X7_markRings ?_
  refine u_X7_markRings_0 ?_; unfold cm_X7_markRings_0
  refine w_rdF hy.1 ?_
  rw [show (2 : Int32) * nI T.1 = nI (2 * T.1) from pk_mul 2 _]
  refine w_cs0 (tc_fill (a := 0) (nH_5 hh) (by omega) (show 2 * T.1 ≤ 24 by omega) (by omega)) ?_
  rintro y1 ⟨h1, f1⟩
  refine w_wrF (c1 vs 0 _ (by omega) (fun k => ?_) po_usF_at (fr_F2 (fr_mono (fun g hg => Or.inl hg) f1) (Or.inr rfl)))
  rw [← hF0]
  exact h1 k
theorem xor1 : ∀ q : Fin 24, nI q.val ^^^ 1 = nI (mt q.val) := by decide +kernel
def cQ (h g : Nat) : Prop := g = h + 6 ∨ g = h + 7 ∨ g = h + 11
theorem u_X7_markParts_1 {vl : Nat → Nat} {x1 : Int32} {x2 : Int32} {x3 : Int32} {x4 : Int32} {x5 : Int32} {x6 : Int32} {r0 : Nat} {z : ow_MS} {Q : ow_MS → Prop} (H : Tt (fun K k => cm_X7_markParts_1 vl K (c_X7_markParts vl K k) x1 x2 x3 x4 x5 x6 r0 z) Q) : Tt (fun K k => c_X7_markParts vl K k 1 x1 x2 x3 x4 x5 x6 r0 z) Q := w_un (fun _ _ => rfl) H
theorem u_X7_markParts_6 {vl : Nat → Nat} {x1 : Int32} {x2 : Int32} {x3 : Int32} {x4 : Int32} {x5 : Int32} {x6 : Int32} {r0 : Nat} {z : ow_MS} {Q : ow_MS → Prop} (H : Tt (fun K k => cm_X7_markParts_6 vl K (c_X7_markParts vl K k) x1 x2 x3 x4 x5 x6 r0 z) Q) : Tt (fun K k => c_X7_markParts vl K k 6 x1 x2 x3 x4 x5 x6 r0 z) Q := w_un (fun _ _ => rfl) H
theorem u_X7_markParts_5 {vl : Nat → Nat} {x1 : Int32} {x2 : Int32} {x3 : Int32} {x4 : Int32} {x5 : Int32} {x6 : Int32} {r0 : Nat} {z : ow_MS} {Q : ow_MS → Prop} (H : Tt (fun K k => cm_X7_markParts_5 vl K (c_X7_markParts vl K k) x1 x2 x3 x4 x5 x6 r0 z) Q) : Tt (fun K k => c_X7_markParts vl K k 5 x1 x2 x3 x4 x5 x6 r0 z) Q := w_un (fun _ _ => rfl) H
theorem u_X7_markParts_2 {vl : Nat → Nat} {x1 : Int32} {x2 : Int32} {x3 : Int32} {x4 : Int32} {x5 : Int32} {x6 : Int32} {r0 : Nat} {z : ow_MS} {Q : ow_MS → Prop} (H : Tt (fun K k => cm_X7_markParts_2 vl K (c_X7_markParts vl K k) x1 x2 x3 x4 x5 x6 r0 z) Q) : Tt (fun K k => c_X7_markParts vl K k 2 x1 x2 x3 x4 x5 x6 r0 z) Q := w_un (fun _ _ => rfl) H
theorem u_X7_markParts_4 {vl : Nat → Nat} {x1 : Int32} {x2 : Int32} {x3 : Int32} {x4 : Int32} {x5 : Int32} {x6 : Int32} {r0 : Nat} {z : ow_MS} {Q : ow_MS → Prop} (H : Tt (fun K k => cm_X7_markParts_4 vl K (c_X7_markParts vl K k) x1 x2 x3 x4 x5 x6 r0 z) Q) : Tt (fun K k => c_X7_markParts vl K k 4 x1 x2 x3 x4 x5 x6 r0 z) Q := w_un (fun _ _ => rfl) H
theorem u_X7_markParts_3 {vl : Nat → Nat} {x1 : Int32} {x2 : Int32} {x3 : Int32} {x4 : Int32} {x5 : Int32} {x6 : Int32} {r0 : Nat} {z : ow_MS} {Q : ow_MS → Prop} (H : Tt (fun K k => cm_X7_markParts_3 vl K (c_X7_markParts vl K k) x1 x2 x3 x4 x5 x6 r0 z) Q) : Tt (fun K k => c_X7_markParts vl K k 3 x1 x2 x3 x4 x5 x6 r0 z) Q := w_un (fun _ _ => rfl) H
theorem e_X7_markParts {vl : Nat → Nat} {r0 : Nat} {z : ow_MS} {Q : ow_MS → Prop} (H : Tt (fun K k => c_X7_markParts vl K k 0 0 0 0 0 0 0 r0 z) Q) : Te (fun K => ce_X7_markParts vl K r0 z) Q := w_te H
theorem u_X7_markParts_0 {vl : Nat → Nat} {x1 : Int32} {x2 : Int32} {x3 : Int32} {x4 : Int32} {x5 : Int32} {x6 : Int32} {r0 : Nat} {z : ow_MS} {Q : ow_MS → Prop} (H : Tt (fun K k => cm_X7_markParts_0 vl K (c_X7_markParts vl K k) x1 x2 x3 x4 x5 x6 r0 z) Q) : Tt (fun K k => c_X7_markParts vl K k 0 x1 x2 x3 x4 x5 x6 r0 z) Q := w_un (fun _ _ => rfl) H
theorem tc_markParts (hh : nH h) (hy : cAt y h T) (hN : ∀ k, k < 2 * T.1 → T.2.2.1.1 k < 2 * T.1) (hT : T.1 ≤ 12) : Te (fun K => ce_X7_markParts vl K h y) (fun y1 => rwC y1 (h + 6) (mp_out T.2.2.1.1 (2 * T.1) (np_fill (y.2.1 (h + 6)) 0 (2 * T.1) (-1)) (2 * T.1)).1 ∧ y1.1 (h + 11) = nI (mp_out T.2.2.1.1 (2 * T.1) (np_fill (y.2.1 (h + 6)) 0 (2 * T.1) (-1)) (2 * T.1)).2 ∧ fr (cQ h) y y1) := by
  generalize hF0 : np_fill (y.2.1 (h + 6)) 0 (2 * T.1) (-1) = F0
  let N := T.2.2.1.1
  generalize hvv : 2 * T.1 = vs at *
  let Q : ow_MS → Prop := fun y1 => rwC y1 (h + 6) (mp_out N vs F0 vs).1 ∧ y1.1 (h + 11) = nI (mp_out N vs F0 vs).2 ∧ fr (cQ h) y y1
  have hvs : vs ≤ 24 := by omega
  have cAy : ∀ {y1 : ow_MS}, fr (cQ h) y y1 → cAt y1 h T := fun hf => cAt_fr hf (fun q hq hr => by unfold cP at hq; unfold cQ at hr; omega) hy
  have c1 : ∀ (d s : Nat) (y1 : ow_MS), s + d = vs → rwC y1 (h + 6) (mp_out N vs F0 s).1 → y1.1 (h + 11) = nI (mp_out N vs F0 s).2 → fr (cQ h) y y1 → Tt (fun K t => c_X7_markParts vl K t 1 (nI vs) (nI s) 0 0 0 0 h y1) Q := by
    intro d
    induction d with
    | zero =>
      intro s y1 hs h1 h2 hf
      have e : s = vs := by omega
      rw [e] at h1 h2
      refine u_X7_markParts_1 ?_; unfold cm_X7_markParts_1
      exact w_leT (by omega) (by omega) (w_some ⟨h1, h2, hf⟩)
    | succ d ih =>
      intro s y1 hs h1 h2 hf
      have hle := mp_out_le N vs F0 s
      have eo : mp_out N vs F0 (s + 1) = if (mp_out N vs F0 s).1 s = -1 then ((mp_bfs N (nI (mp_out N vs F0 s).2) vs 0 (su (mp_out N vs F0 s).1 s (nI (mp_out N vs F0 s).2), (fun _ => s), 1)).1, (mp_out N vs F0 s).2 + 1) else mp_out N vs F0 s := rfl
      have k6 : ∀ (y1 : ow_MS), rwC y1 (h + 6) (mp_out N vs F0 (s + 1)).1 → y1.1 (h + 11) = nI (mp_out N vs F0 (s + 1)).2 → fr (cQ h) y y1 → Tt (fun K t => c_X7_markParts vl K t 6 (nI vs) (nI s) 0 0 0 0 h y1) Q := by
        intro y1 h1 h2 hf
        refine u_X7_markParts_6 ?_; unfold cm_X7_markParts_6
        rw [nI_1]
        exact ih (s + 1) y1 (by omega) h1 h2 hf
      refine u_X7_markParts_1 ?_; unfold cm_X7_markParts_1
      refine w_leF (by omega) (by omega) (w_crI (nH_6 hh) rfl (by omega) (h1 s) (w_if (fun e => ?_) (fun e => ?_)))
      · rw [if_pos e] at eo
        generalize (mp_out N vs F0 s).2 = q at *
        generalize (mp_out N vs F0 s).1 = F at *
        have addq : ∀ {y1 : ow_MS} {t : ow_PQ} {v : Nat}, mp_ok vs t → rwC y1 (h + 6) t.1 → (∀ j, j < t.2.2 → y1.2.1 (h + 7) j = nI (t.2.1 j)) → t.1 v = -1 → rwC (usI (usI y1 (h + 6) v (nI q)) (h + 7) t.2.2 (nI v)) (h + 6) (mp_add (nI q) t v).1 ∧ (∀ j, j < (mp_add (nI q) t v).2.2 → (usI (usI y1 (h + 6) v (nI q)) (h + 7) t.2.2 (nI v)).2.1 (h + 7) j = nI ((mp_add (nI q) t v).2.1 j)) ∧ (mp_add (nI q) t v).2.2 = t.2.2 + 1 := by
          intro y1 t v hok r1 r2 e1
          unfold mp_add
          rw [if_pos e1]
          refine ⟨rwC_ot (by omega) (rwC_su r1), fun j hj => ?_, rfl⟩
          show _ = nI (if j = t.2.2 then v else t.2.1 j)
          by_cases e2 : j = t.2.2
          · rw [if_pos e2, e2]
            exact po_usI_at
          · rw [if_neg e2]
            have hj : j < t.2.2 + 1 := hj
            exact rd_ne e2 (rd_ot (by omega) (r2 j (by omega)))
        have cnt : ∀ {t : ow_PQ} {v : Nat}, mp_ok vs t → v < vs → t.1 v = -1 → t.2.2 < vs := by
          intro t v hok hv e1
          have := (mp_add_ok (k := 0) (by omega) hok hv).2
          unfold mp_add at this
          rw [if_pos e1] at this
          have h9 : t.2.2 + 1 + cntU (su t.1 v (nI 0)) vs ≤ vs := this
          omega
        have c2 : ∀ (n i : Nat) (t : ow_PQ) (y1 : ow_MS), i + n = vs → mp_ok vs t → rwC y1 (h + 6) t.1 → (∀ j, j < t.2.2 → y1.2.1 (h + 7) j = nI (t.2.1 j)) → y1.1 (h + 11) = nI q → fr (cQ h) y y1 → (mp_bfs N (nI q) n i t).1 = (mp_out N vs F0 (s + 1)).1 → Tt (fun K t' => c_X7_markParts vl K t' 2 (nI vs) (nI s) (nI t.2.2) (nI i) 0 0 h y1) Q := by
          intro n
          have fin : ∀ (t : ow_PQ) (y1 : ow_MS) (x3 x4 : Int32), rwC y1 (h + 6) t.1 → y1.1 (h + 11) = nI q → fr (cQ h) y y1 → t.1 = (mp_out N vs F0 (s + 1)).1 → Tt (fun K t' => c_X7_markParts vl K t' 5 (nI vs) (nI s) x3 x4 0 0 h y1) Q := by
            intro t y1 x3 x4 r1 r2 hf em
            refine u_X7_markParts_5 ?_; unfold cm_X7_markParts_5
            refine w_rdF r2 ?_
            rw [nI_1]
            refine w_wrF (k6 _ (by rw [← em]; exact r1) ?_ (fr_F2 hf (Or.inr (Or.inr rfl))))
            rw [eo]
            exact po_usF_at
          induction n with
          | zero =>
            intro i t y1 hi hok r1 r3 r2 hf em
            have hc : t.2.2 ≤ vs := by have := hok.2; omega
            refine u_X7_markParts_2 ?_; unfold cm_X7_markParts_2
            exact w_leT (by omega) (by omega) (fin t y1 _ _ r1 r2 hf em)
          | succ n ihn =>
            intro i t y1 hi hok r1 r3 r2 hf em
            have hc : t.2.2 ≤ vs := by have := hok.2; omega
            have em : (if i < t.2.2 then mp_bfs N (nI q) n (i + 1) (mp_add (nI q) (mp_add (nI q) t (N (t.2.1 i))) (mt (t.2.1 i))) else t).1 = _ := em
            by_cases hit : i < t.2.2
            · rw [if_pos hit] at em
              have hqi := hok.1 i hit
              have hNv : N (t.2.1 i) < vs := hN _ hqi
              have hmt : mt (t.2.1 i) < vs := by
                rw [← hvv]
                exact mt_lt (by omega)
              have hok1 : mp_ok vs (mp_add (nI q) t (N (t.2.1 i))) := mp_add_ok (k := q) (by omega) hok hNv
              have hok2 := mp_add_ok (k := q) (by omega) hok1 hmt
              have hc1 : (mp_add (nI q) t (N (t.2.1 i))).2.2 ≤ vs := by have := hok1.2; omega
              have k4 : ∀ (x5 x6 : Int32) (y1 : ow_MS), rwC y1 (h + 6) (mp_add (nI q) (mp_add (nI q) t (N (t.2.1 i))) (mt (t.2.1 i))).1 → (∀ j, j < (mp_add (nI q) (mp_add (nI q) t (N (t.2.1 i))) (mt (t.2.1 i))).2.2 → y1.2.1 (h + 7) j = nI ((mp_add (nI q) (mp_add (nI q) t (N (t.2.1 i))) (mt (t.2.1 i))).2.1 j)) → y1.1 (h + 11) = nI q → fr (cQ h) y y1 → Tt (fun K t' => c_X7_markParts vl K t' 4 (nI vs) (nI s) (nI (mp_add (nI q) (mp_add (nI q) t (N (t.2.1 i))) (mt (t.2.1 i))).2.2) (nI i) x5 x6 h y1) Q := by
                intro x5 x6 y1 r1 r3 r2 hf
                refine u_X7_markParts_4 ?_; unfold cm_X7_markParts_4
                rw [nI_1]
                exact ihn (i + 1) _ y1 (by omega) hok2 r1 r3 r2 hf em
              have k3 : ∀ (x5 : Int32) (y1 : ow_MS), rwC y1 (h + 6) (mp_add (nI q) t (N (t.2.1 i))).1 → (∀ j, j < (mp_add (nI q) t (N (t.2.1 i))).2.2 → y1.2.1 (h + 7) j = nI ((mp_add (nI q) t (N (t.2.1 i))).2.1 j)) → y1.1 (h + 11) = nI q → fr (cQ h) y y1 → Tt (fun K t' => c_X7_markParts vl K t' 3 (nI vs) (nI s) (nI (mp_add (nI q) t (N (t.2.1 i))).2.2) (nI i) x5 (nI (mt (t.2.1 i))) h y1) Q := by
                intro x5 y1 r1 r3 r2 hf
                generalize mp_add (nI q) t (N (t.2.1 i)) = t1 at *
                refine u_X7_markParts_3 ?_; unfold cm_X7_markParts_3
                refine w_crI (nH_6 hh) rfl (by omega) (r1 _) (w_if (fun e1 => ?_) (fun e1 => ?_))
                · have hlt := cnt hok1 hmt e1
                  obtain ⟨a1, a2, a3⟩ := addq hok1 r1 r3 e1
                  have := k4 x5 (nI (mt (t.2.1 i))) _ a1 a2 r2 (fr_I2 (fr_I2 hf (Or.inl rfl)) (Or.inr (Or.inl rfl)))
                  rw [a3] at this
                  refine w_rdF r2 (w_ctI (nH_6 hh) rfl (by omega) (w_ctI (nH_7 hh) rfl (by omega) ?_))
                  rw [nI_1]
                  exact this
                · have e2 : mp_add (nI q) t1 (mt (t.2.1 i)) = t1 := by
                    unfold mp_add
                    rw [if_neg e1]
                  rw [e2] at k4
                  exact k4 _ _ y1 r1 r3 r2 hf
              refine u_X7_markParts_2 ?_; unfold cm_X7_markParts_2
              refine w_leF (by omega) (by omega) (w_leF (by omega) (by omega) (w_crI (nH_7 hh) rfl (by omega) (r3 i hit) (w_crI (nH_1 hh) rfl (by omega) ((cAy hf).2.2.1 _) (w_crI (nH_7 hh) rfl (by omega) (r3 i hit) (w_crI (nH_6 hh) rfl (by show N (t.2.1 i) < 24; omega) (r1 _) ?_)))))
              rw [xor1 ⟨t.2.1 i, by omega⟩]
              refine w_if (fun e1 => ?_) (fun e1 => ?_)
              · have hlt := cnt hok hNv e1
                obtain ⟨a1, a2, a3⟩ := addq hok r1 r3 e1
                have := k3 (nI (N (t.2.1 i))) _ a1 a2 r2 (fr_I2 (fr_I2 hf (Or.inl rfl)) (Or.inr (Or.inl rfl)))
                rw [a3] at this
                refine w_rdF r2 (w_ctI (nH_6 hh) rfl (by show N (t.2.1 i) < 24; omega) (w_ctI (nH_7 hh) rfl (by omega) ?_))
                rw [nI_1]
                exact this
              · have e2 : mp_add (nI q) t (N (t.2.1 i)) = t := by
                  unfold mp_add
                  rw [if_neg e1]
                rw [e2] at k3
                exact k3 _ y1 r1 r3 r2 hf
            · rw [if_neg hit] at em
              refine u_X7_markParts_2 ?_; unfold cm_X7_markParts_2
              exact w_leT (by omega) (by omega) (fin t y1 _ _ r1 r2 hf em)
        refine w_ctI (i := 0) (nH_7 hh) rfl (by omega) (w_rdF h2 (w_ctI (nH_6 hh) rfl (by omega) ?_))
        have hok0 : mp_ok vs (su F s (nI q), (fun _ => s), 1) := by
          refine ⟨fun j _ => by show s < vs; omega, ?_⟩
          have c8 := cntU_su e (rn_neg1 (v := q) (by omega)) vs (by omega)
          have c9 := cntU_le F vs
          show 1 + cntU (su F s (nI q)) vs ≤ vs
          omega
        exact c2 vs 0 (su F s (nI q), (fun _ => s), 1) _ (by omega) hok0 (rwC_su (rwC_ot (by omega) h1)) (fun j hj => by
          have hj : j < 1 := hj
          rw [show j = 0 by omega]
          exact rd_ot (by omega) po_usI_at) h2 (fr_I2 (fr_I2 hf (Or.inr (Or.inl rfl))) (Or.inl rfl)) (by rw [eo])
      · rw [if_neg e] at eo
        refine k6 y1 ?_ ?_ hf
        · rw [eo]
          exact h1
        · rw [eo]
          exact h2
  refine e_X7_markParts ?_
  refine u_X7_markParts_0 ?_; unfold cm_X7_markParts_0
  refine w_rdF hy.1 ?_
  rw [show (2 : Int32) * nI T.1 = nI (2 * T.1) from pk_mul 2 _, hvv]
  refine w_cs0 (tc_fill (a := 0) (nH_6 hh) (by omega) (show vs ≤ 24 by omega) (by omega)) ?_
  rintro y1 ⟨h1, f1⟩
  refine w_wrF (c1 vs 0 _ (by omega) (fun k => ?_) po_usF_at (fr_F2 (fr_mono (fun g hg => Or.inl hg) f1) (Or.inr (Or.inr rfl))))
  rw [← hF0]
  exact h1 k
end CM
end
section
/-! 99zzzzp.codes -/
/-! the class's tables of codes: compare, write -/
def tHL : List (Nat × Nat) := [(1000, 40), (2000, 1848), (3000, 12), (8000, 1), (9000, 1), (10000, 12), (13000, 301), (14000, 480), (15000, 480), (21000, 1), (22000, 1), (23000, 12), (25000, 2)]
/-- g is a table of codes with p places -/
def tH (g p : Nat) : Prop := (g, p) ∈ tHL
theorem tH_all {P : Nat → Nat → Prop} (h1 : P 1000 40 ∧ P 2000 1848 ∧ P 3000 12 ∧ P 8000 1 ∧ P 9000 1 ∧ P 10000 12 ∧ P 13000 301 ∧ P 14000 480 ∧ P 15000 480 ∧ P 21000 1 ∧ P 22000 1 ∧ P 23000 12 ∧ P 25000 2) {g p : Nat} (hh : tH g p) : P g p := by
  unfold tH tHL at hh
  simp only [List.mem_cons, List.not_mem_nil, or_false, Prod.mk.injEq] at hh
  obtain ⟨a1, a2, a3, a4, a5, a6, a7, a8, a9, a10, a11, a12, a13⟩ := h1
  rcases hh with ⟨rfl, rfl⟩ | ⟨rfl, rfl⟩ | ⟨rfl, rfl⟩ | ⟨rfl, rfl⟩ | ⟨rfl, rfl⟩ | ⟨rfl, rfl⟩ | ⟨rfl, rfl⟩ | ⟨rfl, rfl⟩ | ⟨rfl, rfl⟩ | ⟨rfl, rfl⟩ | ⟨rfl, rfl⟩ | ⟨rfl, rfl⟩ | ⟨rfl, rfl⟩ <;> assumption
theorem tH_p {g p : Nat} (hh : tH g p) : 1 ≤ p ∧ p ≤ 1848 := tH_all (P := fun _ p => 1 ≤ p ∧ p ≤ 1848) (by decide) hh
theorem tH_1 {vl : Nat → Nat} {g p : Nat} (hh : tH g p) : ((cX vl).2 (g + 1)).2.1 = 30 * p := tH_all (P := fun g p => ((cX vl).2 (g + 1)).2.1 = 30 * p) ⟨rfl, rfl, rfl, rfl, rfl, rfl, rfl, rfl, rfl, rfl, rfl, rfl, rfl⟩ hh
theorem tH_2 {vl : Nat → Nat} {g p : Nat} (hh : tH g p) : ((cX vl).2 (g + 2)).2.1 = p := tH_all (P := fun g p => ((cX vl).2 (g + 2)).2.1 = p) ⟨rfl, rfl, rfl, rfl, rfl, rfl, rfl, rfl, rfl, rfl, rfl, rfl, rfl⟩ hh
theorem tH_3 {vl : Nat → Nat} {g p : Nat} (hh : tH g p) : ((cX vl).2 (g + 3)).2.1 = p := tH_all (P := fun g p => ((cX vl).2 (g + 3)).2.1 = p) ⟨rfl, rfl, rfl, rfl, rfl, rfl, rfl, rfl, rfl, rfl, rfl, rfl, rfl⟩ hh
theorem tH_4 {vl : Nat → Nat} {g p : Nat} (hh : tH g p) : ((cX vl).2 (g + 4)).2.1 = p := tH_all (P := fun g p => ((cX vl).2 (g + 4)).2.1 = p) ⟨rfl, rfl, rfl, rfl, rfl, rfl, rfl, rfl, rfl, rfl, rfl, rfl, rfl⟩ hh
/-- a code: its crossings and its cells -/
abbrev cdT := Nat × List Nat
def cOK (C : cdT) : Prop := C.1 ≤ 12 ∧ C.2.length ≤ 30 ∧ ∀ a, a ∈ C.2 → a < 64
/-- place s of table g holds C -/
def slC (y : ow_MS) (g s : Nat) (C : cdT) : Prop := y.2.1 (g + 3) s = nI C.1 ∧ y.2.1 (g + 2) s = nI C.2.length ∧ ∀ i a, C.2[i]? = some a → y.2.1 (g + 1) (30 * s + i) = nI a
def lexD : List Nat → List Nat → Int
  | [], B => - (B.length : Int)
  | A, [] => (A.length : Int)
  | a :: A, b :: B => if a = b then lexD A B else (a : Int) - b
def cmpC (A B : cdT) : Int := if A.1 = B.1 then lexD A.2 B.2 else (A.1 : Int) - B.1
theorem mul30 {a : Nat} : nI a * 30 = nI (30 * a) := by
  rw [nI_iI, show (30 : Int32) = iI 30 from rfl, iI_mul, nI_iI]
  congr 1
  omega
theorem iI_eq {a b : Int} (h1 : -(2 ^ 31 : Int) ≤ a) (h2 : a < 2 ^ 31) (h3 : -(2 ^ 31 : Int) ≤ b) (h4 : b < 2 ^ 31) : iI a = iI b ↔ a = b := by
  refine ⟨fun e => ?_, fun e => by rw [e]⟩
  have := congrArg Int32.toInt e
  rw [iI_toInt h1 h2, iI_toInt h3 h4] at this
  exact this
section CC
variable {vl : Nat → Nat} {y : ow_MS} {g g' p p' s s' : Nat} {A B : cdT}
theorem u_X3_compare_1 {vl : Nat → Nat} {x1 : Int32} {x3 : Int32} {x4 : Int32} {x5 : Int32} {x6 : Int32} {x7 : Int32} {r0 : Nat} {r2 : Nat} {z : ow_MS} {Q : (Int32 × ow_MS) → Prop} (H : Tt (fun K k => cm_X3_compare_1 vl K (c_X3_compare vl K k) x1 x3 x4 x5 x6 x7 r0 r2 z) Q) : Tt (fun K k => c_X3_compare vl K k 1 x1 x3 x4 x5 x6 x7 r0 r2 z) Q := w_un (fun _ _ => rfl) H
theorem e_X3_compare {vl : Nat → Nat} {r0 : Nat} {x1 : Int32} {r2 : Nat} {x3 : Int32} {z : ow_MS} {Q : (Int32 × ow_MS) → Prop} (H : Tt (fun K k => c_X3_compare vl K k 0 x1 x3 0 0 0 0 r0 r2 z) Q) : Te (fun K => ce_X3_compare vl K r0 x1 r2 x3 z) Q := w_te H
theorem u_X3_compare_0 {vl : Nat → Nat} {x1 : Int32} {x3 : Int32} {x4 : Int32} {x5 : Int32} {x6 : Int32} {x7 : Int32} {r0 : Nat} {r2 : Nat} {z : ow_MS} {Q : (Int32 × ow_MS) → Prop} (H : Tt (fun K k => cm_X3_compare_0 vl K (c_X3_compare vl K k) x1 x3 x4 x5 x6 x7 r0 r2 z) Q) : Tt (fun K k => c_X3_compare vl K k 0 x1 x3 x4 x5 x6 x7 r0 r2 z) Q := w_un (fun _ _ => rfl) H
theorem tc_compare (hg : tH g p) (hg' : tH g' p') (hs : s < p) (hs' : s' < p') (ha : slC y g s A) (hb : slC y g' s' B) (oa : cOK A) (ob : cOK B) : Te (fun K => ce_X3_compare vl K g (nI s) g' (nI s') y) (fun r => r.1 = iI (cmpC A B) ∧ r.2 = y) := by
  have hp := tH_p hg
  have hp' := tH_p hg'
  obtain ⟨a1, a2, a3⟩ := oa
  obtain ⟨b1, b2, b3⟩ := ob
  let Q : Int32 × ow_MS → Prop := fun r => r.1 = iI (cmpC A B) ∧ r.2 = y
  let m := if B.2.length < A.2.length then B.2.length else A.2.length
  have hmA : m ≤ A.2.length := by show (if _ then _ else _) ≤ _; split <;> omega
  have hmB : m ≤ B.2.length := by show (if _ then _ else _) ≤ _; split <;> omega
  have hmm : m = A.2.length ∨ m = B.2.length := by show (if _ then _ else _) = _ ∨ (if _ then _ else _) = _; split <;> omega
  have c1 : A.1 = B.1 → ∀ (d i : Nat), i + d = m → lexD (A.2.drop i) (B.2.drop i) = lexD A.2 B.2 → Tt (fun K t => c_X3_compare vl K t 1 (nI s) (nI s') (nI (30 * s)) (nI (30 * s')) (nI m) (nI i) g g' y) Q := by
    intro e d
    have eC : cmpC A B = lexD A.2 B.2 := by unfold cmpC; rw [if_pos e]
    induction d with
    | zero =>
      intro i hi hl
      refine u_X3_compare_1 ?_; unfold cm_X3_compare_1
      refine w_leT (by omega) (by omega) (w_crI (tH_2 hg) rfl hs ha.2.1 (w_crI (tH_2 hg') rfl hs' hb.2.1 (w_some ⟨?_, rfl⟩)))
      show nI A.2.length - nI B.2.length = iI (cmpC A B)
      rw [eC, ← hl, nI_iI, nI_iI, iI_sub]
      congr 1
      rcases hmm with h9 | h9
      · rw [List.drop_of_length_le (show A.2.length ≤ i by omega)]
        show _ = - (((B.2.drop i).length : Nat) : Int)
        rw [List.length_drop]
        omega
      · rw [List.drop_of_length_le (show B.2.length ≤ i by omega)]
        have e9 : ∀ L : List Nat, lexD L [] = (L.length : Int) := by
          intro L
          cases L
          · rfl
          · rfl
        rw [e9, List.length_drop]
        omega
    | succ d ih =>
      intro i hi hl
      obtain ⟨a, ea⟩ : ∃ a, A.2[i]? = some a := ⟨_, List.getElem?_eq_getElem (show i < A.2.length by omega)⟩
      obtain ⟨b, eb⟩ : ∃ b, B.2[i]? = some b := ⟨_, List.getElem?_eq_getElem (show i < B.2.length by omega)⟩
      have la := a3 a (List.mem_of_getElem? ea)
      have lb := b3 b (List.mem_of_getElem? eb)
      have dA : A.2.drop i = a :: A.2.drop (i + 1) := by
        have := List.getElem?_eq_some_iff.mp ea
        obtain ⟨q, q2⟩ := this
        rw [List.drop_eq_getElem_cons q, q2]
      have dB : B.2.drop i = b :: B.2.drop (i + 1) := by
        have := List.getElem?_eq_some_iff.mp eb
        obtain ⟨q, q2⟩ := this
        rw [List.drop_eq_getElem_cons q, q2]
      rw [dA, dB] at hl
      have hl : (if a = b then lexD (A.2.drop (i + 1)) (B.2.drop (i + 1)) else (a : Int) - b) = _ := hl
      refine u_X3_compare_1 ?_; unfold cm_X3_compare_1
      rw [nI_add, nI_add, nI_1]
      refine w_leF (by omega) (by omega) (w_crI (tH_1 hg) rfl (by omega) (ha.2.2 i a ea) (w_crI (tH_1 hg') rfl (by omega) (hb.2.2 i b eb) (w_if (fun h9 => ?_) (fun h9 => w_some ⟨?_, rfl⟩))))
      · have e2 : a = b := by
          rw [nI_iI, nI_iI, iI_sub] at h9
          have := (iI_eq (by omega) (by omega) (by omega) (by omega)).mp (h9.trans (show (0 : Int32) = iI 0 from rfl))
          omega
        rw [if_pos e2] at hl
        exact ih (i + 1) (by omega) hl
      · have e2 : a ≠ b := by
          intro e2
          rw [e2] at h9
          refine h9 ?_
          rw [nI_iI, iI_sub, Int.sub_self]
          rfl
        rw [if_neg e2] at hl
        show nI a - nI b = iI (cmpC A B)
        rw [eC, ← hl, nI_iI, nI_iI, iI_sub]
  refine e_X3_compare ?_
  refine u_X3_compare_0 ?_; unfold cm_X3_compare_0
  rw [mul30, mul30]
  refine w_crI (tH_3 hg) rfl hs ha.1 (w_crI (tH_3 hg') rfl hs' hb.1 (w_eqN (by omega) (by omega) (fun e => ?_) (fun e => ?_)))
  · refine w_crI (tH_2 hg) rfl hs ha.2.1 (w_crI (tH_2 hg') rfl hs' hb.2.1 ?_)
    have em : (if nI B.2.length < nI A.2.length then nI B.2.length else nI A.2.length) = nI m := by
      show _ = nI (if B.2.length < A.2.length then B.2.length else A.2.length)
      by_cases h9 : B.2.length < A.2.length
      · rw [if_pos h9, if_pos (nI_lt h9 (by omega))]
      · rw [if_neg h9, if_neg (nI_nlt (by omega) (by omega))]
    rw [em]
    exact c1 e m 0 (by omega) rfl
  · refine w_crI (tH_3 hg) rfl hs ha.1 (w_crI (tH_3 hg') rfl hs' hb.1 (w_some ⟨?_, rfl⟩))
    show nI A.1 - nI B.1 = iI (cmpC A B)
    unfold cmpC
    rw [if_neg e, nI_iI, nI_iI, iI_sub]
end CC
end
section
/-! 99zzzzq.codes2 -/
/-! the class's tables of codes: write, find -/
def byR (y : ow_MS) (g : Nat) : Prop := ∀ i, fits .byte (.int (y.2.1 g i)) = true
theorem nar64 {a : Nat} (h : a < 64) : vp_nar .byte (nI a) = nI a := (byt ⟨a, h⟩).2
def cW (g q : Nat) : Prop := q = g + 1 ∨ q = g + 2 ∨ q = g + 3
theorem slC_fr {P : Nat → Prop} {y y1 : ow_MS} {g s : Nat} {C : cdT} (hf : fr P y y1) (hP : ∀ q, cW g q → ¬ P q) (h : slC y g s C) : slC y1 g s C := by
  obtain ⟨a, b, c⟩ := h
  refine ⟨?_, ?_, fun i v hi => ?_⟩
  · rw [(hf _ (hP _ (Or.inr (Or.inr rfl)))).2.1]
    exact a
  · rw [(hf _ (hP _ (Or.inr (Or.inl rfl)))).2.1]
    exact b
  · rw [(hf _ (hP _ (Or.inl rfl))).2.1]
    exact c i v hi
section CC2
variable {vl : Nat → Nat} {y : ow_MS} {g g' p p' s s' : Nat} {B : cdT}
theorem e_X3_write {vl : Nat → Nat} {r0 : Nat} {x1 : Int32} {r2 : Nat} {x3 : Int32} {z : ow_MS} {Q : ow_MS → Prop} (H : Tt (fun K _ => cm_X3_write_0 vl K x1 x3 r0 r2 z) Q) : Te (fun K => ce_X3_write vl K r0 x1 r2 x3 z) Q := w_te0 H
theorem tc_write (hg : tH g p) (hg' : tH g' p') (hd : g + 6 ≤ g' ∨ g' + 6 ≤ g) (hs : s < p) (hs' : s' < p') (hb : slC y g' s' B) (ob : cOK B) (hy : byR y (g' + 1)) : Te (fun K => ce_X3_write vl K g (nI s) g' (nI s') y) (fun y1 => slC y1 g s B ∧ (∀ t C, t ≠ s → cOK C → slC y g t C → slC y1 g t C) ∧ (byR y (g + 1) → byR y1 (g + 1)) ∧ fr (cW g) y y1) := by
  have hp := tH_p hg
  have hp' := tH_p hg'
  obtain ⟨b1, b2, b3⟩ := ob
  refine e_X3_write ?_; unfold cm_X3_write_0
  rw [mul30, mul30]
  have cpb : ∀ {E : ow_MS → Nat → Nat → Option ow_MS} {Q : ow_MS → Prop}, Tt (E (usR y (g + 1) (va_cpy (y.2.1 (g' + 1)) (y.2.1 (g + 1)) (30 * s') (30 * s) 30))) Q → Tt (fun K k => cpB (cX vl) y (g' + 1) (nI (30 * s')) (g + 1) (nI (30 * s)) 30 (fun v => E v K k)) Q := by
    intro E Q H
    unfold cpB
    exact w_ifT (fun i _ => hy _) (w_cpI (a := 30 * s') (b := 30 * s) (n := 30) (tH_1 hg') (tH_1 hg) rfl rfl rfl (by omega) (by omega) H)
  refine cpb (w_crI (x := nI B.2.length) (tH_2 hg') rfl hs' (by rw [usR_ot (by omega)]; exact hb.2.1) (w_ctB (tH_2 hg) rfl hs (w_crI (x := nI B.1) (tH_3 hg') rfl hs' (rd_ot (by omega) (by rw [usR_ot (by omega)]; exact hb.1)) (w_ctB (tH_3 hg) rfl hs (w_some ?_)))))
  rw [nar64 (show B.1 < 64 by omega), nar64 (show B.2.length < 64 by omega)]
  refine ⟨⟨po_usI_at, rd_ot (by omega) po_usI_at, fun i v hi => rd_ot (by omega) (rd_ot (by omega) ?_)⟩, fun t C ht oc hc => ⟨rd_ne ht (rd_ot (by omega) (by rw [usR_ot (by omega)]; exact hc.1)), rd_ot (by omega) (rd_ne ht (by rw [usR_ot (by omega)]; exact hc.2.1)), fun i v hi => rd_ot (by omega) (rd_ot (by omega) ?_)⟩, fun hb1 i => ?_, fr_I2 (fr_I2 (fr_R2 fr_rf (Or.inl rfl)) (Or.inr (Or.inl rfl))) (Or.inr (Or.inr rfl))⟩
  · have := (List.getElem?_eq_some_iff.mp hi).1
    rw [usR_at]
    unfold va_cpy
    rw [if_pos (by omega), show 30 * s' + (30 * s + i - 30 * s) = 30 * s' + i by omega]
    exact hb.2.2 i v hi
  · have h1 := (List.getElem?_eq_some_iff.mp hi).1
    have h2 := oc.2.1
    rw [usR_at]
    unfold va_cpy
    rw [if_neg (by omega)]
    exact hc.2.2 i v hi
  · rw [show (usI (usI (usR y (g + 1) (va_cpy (y.2.1 (g' + 1)) (y.2.1 (g + 1)) (30 * s') (30 * s) 30)) (g + 2) s (nI B.2.length)) (g + 3) s (nI B.1)).2.1 (g + 1) i = va_cpy (y.2.1 (g' + 1)) (y.2.1 (g + 1)) (30 * s') (30 * s) 30 i from rd_ot (by omega) (rd_ot (by omega) (by rw [usR_at]))]
    unfold va_cpy
    split
    · exact hy _
    · exact hb1 _
end CC2
theorem lexD_b : ∀ (A B : List Nat), A.length ≤ 30 → B.length ≤ 30 → (∀ a, a ∈ A → a < 64) → (∀ a, a ∈ B → a < 64) → -64 ≤ lexD A B ∧ lexD A B ≤ 64
  | [], B, _, h2, _, _ => by
    show -64 ≤ - (B.length : Int) ∧ - (B.length : Int) ≤ 64
    omega
  | a :: A, [], h1, _, _, _ => by
    show -64 ≤ (((a :: A).length : Nat) : Int) ∧ (((a :: A).length : Nat) : Int) ≤ 64
    omega
  | a :: A, b :: B, h1, h2, h3, h4 => by
    have ha := h3 a List.mem_cons_self
    have hb := h4 b List.mem_cons_self
    show -64 ≤ (if a = b then lexD A B else (a : Int) - b) ∧ (if a = b then lexD A B else (a : Int) - b) ≤ 64
    split
    · exact lexD_b A B (by rw [List.length_cons] at h1; omega) (by rw [List.length_cons] at h2; omega) (fun x hx => h3 x (List.mem_cons_of_mem _ hx)) (fun x hx => h4 x (List.mem_cons_of_mem _ hx))
    · omega
theorem cmpC_b {A B : cdT} (oa : cOK A) (ob : cOK B) : -64 ≤ cmpC A B ∧ cmpC A B ≤ 64 := by
  obtain ⟨a1, a2, a3⟩ := oa
  obtain ⟨b1, b2, b3⟩ := ob
  unfold cmpC
  split
  · exact lexD_b _ _ a2 b2 a3 b3
  · omega
theorem lexD_0 : ∀ (A B : List Nat), lexD A B = 0 → A = B
  | [], B, h => by
    have h : - (B.length : Int) = 0 := h
    cases B with
    | nil => rfl
    | cons b B =>
      rw [List.length_cons] at h
      omega
  | a :: A, [], h => by
    have h : (((a :: A).length : Nat) : Int) = 0 := h
    rw [List.length_cons] at h
    omega
  | a :: A, b :: B, h => by
    have h : (if a = b then lexD A B else (a : Int) - b) = 0 := h
    split at h
    · rename_i e
      rw [e, lexD_0 A B h]
    · omega
theorem cmpC_0 {A B : cdT} (h : cmpC A B = 0) : A = B := by
  unfold cmpC at h
  split at h
  · rename_i e
    exact Prod.ext e (lexD_0 _ _ h)
  · omega
theorem ushr1 {n : Nat} (h : n < 2 ^ 31) : ((nI n).toUInt32 >>> ((1 : Int32).toUInt32 &&& Int32.toUInt32 31)).toInt32 = nI (n / 2) := by
  apply Int32.toBitVec_inj.mp
  apply BitVec.eq_of_toNat_eq
  rw [pk_ushr (nI n) 1 1 (by decide), pk_tn (by omega), pk_tn (by omega)]
/-- table g holds the codes Cs, in the order os -/
def tabC (y : ow_MS) (g : Nat) (Cs : List cdT) (os : List Nat) : Prop := y.1 (g + 5) = nI os.length ∧ Cs.length = os.length ∧ (∀ s C, Cs[s]? = some C → slC y g s C ∧ cOK C) ∧ ∀ k s, os[k]? = some s → y.2.1 (g + 4) k = nI s ∧ s < Cs.length
def atC (Cs : List cdT) (os : List Nat) (k : Nat) : cdT := Cs.getD (os.getD k 0) (0, [])
/-- codes below B stand before those above it -/
def moC (Cs : List cdT) (os : List Nat) (B : cdT) : Prop := ∀ i j, i < j → j < os.length → (cmpC (atC Cs os j) B < 0 → cmpC (atC Cs os i) B < 0) ∧ (0 < cmpC (atC Cs os i) B → 0 < cmpC (atC Cs os j) B)
section CC3
variable {vl : Nat → Nat} {y : ow_MS} {g g' p p' s' : Nat} {B : cdT} {Cs : List cdT} {os : List Nat}
theorem tab_at {k : Nat} (h : tabC y g Cs os) (hk : k < os.length) : ∃ s, s < Cs.length ∧ y.2.1 (g + 4) k = nI s ∧ slC y g s (atC Cs os k) ∧ cOK (atC Cs os k) := by
  have e := List.getElem?_eq_getElem hk
  obtain ⟨h1, h2⟩ := h.2.2.2 k _ e
  have e2 := List.getElem?_eq_getElem h2
  have e3 : atC Cs os k = Cs[os[k]] := by
    unfold atC
    rw [List.getD_eq_getElem?_getD, List.getD_eq_getElem?_getD, e]
    show (Cs[os[k]]?).getD _ = _
    rw [e2]
    rfl
  rw [e3]
  exact ⟨os[k], h2, h1, (h.2.2.1 _ _ e2).1, (h.2.2.1 _ _ e2).2⟩
def fnd (Cs : List cdT) (os : List Nat) (B : cdT) (r : Int32) : Prop := (∃ k, k < os.length ∧ r = nI k ∧ atC Cs os k = B) ∨ ∃ k, k ≤ os.length ∧ r = iI (-1 - (k : Int)) ∧ (moC Cs os B → (∀ i, i < k → cmpC (atC Cs os i) B < 0) ∧ ∀ i, k ≤ i → i < os.length → 0 < cmpC (atC Cs os i) B)
theorem u_X3_find_1 {vl : Nat → Nat} {x2 : Int32} {x3 : Int32} {x4 : Int32} {x5 : Int32} {x6 : Int32} {x7 : Int32} {r0 : Nat} {r1 : Nat} {z : ow_MS} {Q : (Int32 × ow_MS) → Prop} (H : Tt (fun K k => cm_X3_find_1 vl K (c_X3_find vl K k) x2 x3 x4 x5 x6 x7 r0 r1 z) Q) : Tt (fun K k => c_X3_find vl K k 1 x2 x3 x4 x5 x6 x7 r0 r1 z) Q := w_un (fun _ _ => rfl) H
theorem u_X3_find_2 {vl : Nat → Nat} {x2 : Int32} {x3 : Int32} {x4 : Int32} {x5 : Int32} {x6 : Int32} {x7 : Int32} {r0 : Nat} {r1 : Nat} {z : ow_MS} {Q : (Int32 × ow_MS) → Prop} (H : Tt (fun K k => cm_X3_find_2 vl K (c_X3_find vl K k) x2 x3 x4 x5 x6 x7 r0 r1 z) Q) : Tt (fun K k => c_X3_find vl K k 2 x2 x3 x4 x5 x6 x7 r0 r1 z) Q := w_un (fun _ _ => rfl) H
theorem e_X3_find {vl : Nat → Nat} {r0 : Nat} {r1 : Nat} {x2 : Int32} {z : ow_MS} {Q : (Int32 × ow_MS) → Prop} (H : Tt (fun K k => c_X3_find vl K k 0 x2 0 0 0 0 0 r0 r1 z) Q) : Te (fun K => ce_X3_find vl K r0 r1 x2 z) Q := w_te H
theorem u_X3_find_0 {vl : Nat → Nat} {x2 : Int32} {x3 : Int32} {x4 : Int32} {x5 : Int32} {x6 : Int32} {x7 : Int32} {r0 : Nat} {r1 : Nat} {z : ow_MS} {Q : (Int32 × ow_MS) → Prop} (H : Tt (fun K k => cm_X3_find_0 vl K (c_X3_find vl K k) x2 x3 x4 x5 x6 x7 r0 r1 z) Q) : Tt (fun K k => c_X3_find vl K k 0 x2 x3 x4 x5 x6 x7 r0 r1 z) Q := w_un (fun _ _ => rfl) H
theorem tc_find (hg : tH g p) (hg' : tH g' p') (hs' : s' < p') (hT : tabC y g Cs os) (hp : os.length ≤ p) (hb : slC y g' s' B) (ob : cOK B) : Te (fun K => ce_X3_find vl K g g' (nI s') y) (fun r => fnd Cs os B r.1 ∧ r.2 = y) := by
  have hpp := tH_p hg
  let Q : Int32 × ow_MS → Prop := fun r => fnd Cs os B r.1 ∧ r.2 = y
  have c1 : ∀ (d i lo hi : Nat), i + d = 12 → lo ≤ hi → hi ≤ os.length → hi - lo < 2 ^ d → (moC Cs os B → (∀ k, k < lo → cmpC (atC Cs os k) B < 0) ∧ ∀ k, hi ≤ k → k < os.length → 0 < cmpC (atC Cs os k) B) → Tt (fun K t => c_X3_find vl K t 1 (nI s') (nI lo) (nI hi) (nI i) 0 0 g g' y) Q := by
    intro d
    have fin : ∀ lo hi, hi ≤ lo → lo ≤ hi → hi ≤ os.length → (moC Cs os B → (∀ k, k < lo → cmpC (atC Cs os k) B < 0) ∧ ∀ k, hi ≤ k → k < os.length → 0 < cmpC (atC Cs os k) B) → Tt (fun (K t : Nat) => some ((-1 : Int32) - nI lo, y)) Q := by
      intro lo hi h1 h2 h3 h4
      have e : lo = hi := by omega
      subst e
      refine w_some ⟨Or.inr ⟨lo, h3, ?_, h4⟩, rfl⟩
      show (-1 : Int32) - nI lo = _
      rw [nI_iI, show (-1 : Int32) = iI (-1) from rfl, iI_sub]
    induction d with
    | zero =>
      intro i lo hi hi0 h1 h2 h3 h4
      have h3 : hi - lo < 1 := h3
      refine u_X3_find_1 ?_; unfold cm_X3_find_1
      exact w_leF (a := 32) (by omega) (by omega) (w_leT (by omega) (by omega) (fin lo hi (by omega) h1 h2 h4))
    | succ d ih =>
      intro i lo hi hi0 h1 h2 h3 h4
      rw [Nat.pow_succ] at h3
      have k2 : ∀ (lo hi : Nat) (x6 x7 : Int32), lo ≤ hi → hi ≤ os.length → hi - lo < 2 ^ d → (moC Cs os B → (∀ k, k < lo → cmpC (atC Cs os k) B < 0) ∧ ∀ k, hi ≤ k → k < os.length → 0 < cmpC (atC Cs os k) B) → Tt (fun K t => c_X3_find vl K t 2 (nI s') (nI lo) (nI hi) (nI i) x6 x7 g g' y) Q := by
        intro lo hi x6 x7 h1 h2 h3 h4
        refine u_X3_find_2 ?_; unfold cm_X3_find_2
        rw [nI_1]
        exact ih (i + 1) lo hi (by omega) h1 h2 h3 h4
      refine u_X3_find_1 ?_; unfold cm_X3_find_1
      rw [nI_add, ushr1 (by omega)]
      refine w_leF (a := 32) (by omega) (by omega) (w_le (by omega) (by omega) (fun h9 => fin lo hi h9 h1 h2 h4) (fun h9 => ?_))
      generalize hm : (lo + hi) / 2 = m
      have hm1 : lo ≤ m := by omega
      have hm2 : m < hi := by omega
      obtain ⟨s, a1, a2, a3, a4⟩ := tab_at hT (show m < os.length by omega)
      have hcb := cmpC_b a4 ob
      refine w_crI (tH_4 hg) rfl (by omega) a2 (w_cs1 (tc_compare hg hg' (by have := hT.2.1; omega) hs' a3 hb a4 ob) ?_)
      rintro v y1 ⟨e1, e2⟩
      dsimp only at e1 e2
      subst e1
      subst e2
      refine w_if (fun e => ?_) (fun e => ?_)
      · have e0 := (iI_eq (by omega) (by omega) (by omega) (by omega)).mp (e.trans (show (0 : Int32) = iI 0 from rfl))
        exact w_some ⟨Or.inl ⟨m, by omega, rfl, cmpC_0 e0⟩, rfl⟩
      · have e0 : cmpC (atC Cs os m) B ≠ 0 := fun h8 => e (by rw [h8]; rfl)
        refine w_if (fun h8 => ?_) (fun h8 => ?_)
        · have h8 := (iI_le (a := 0) (by omega) (by omega) (by omega) (by omega)).mp h8
          refine k2 lo m _ _ hm1 (by omega) (by omega) (fun hmo => ⟨(h4 hmo).1, fun k hk1 hk2 => ?_⟩)
          by_cases ek : k = m
          · rw [ek]
            omega
          · exact (hmo m k (by omega) hk2).2 (by omega)
        · have h8 : ¬ 0 ≤ cmpC (atC Cs os m) B := fun h7 => h8 ((iI_le (a := 0) (by omega) (by omega) (by omega) (by omega)).mpr h7)
          rw [nI_1]
          refine k2 (m + 1) hi _ _ (by omega) h2 (by omega) (fun hmo => ⟨fun k hk => ?_, (h4 hmo).2⟩)
          by_cases ek : k = m
          · rw [ek]
            omega
          · exact (hmo k m (by omega) (by omega)).1 (by omega)
  refine e_X3_find ?_
  refine u_X3_find_0 ?_; unfold cm_X3_find_0
  exact w_rdF hT.1 (c1 12 0 0 os.length (by omega) (by omega) (by omega) (by show _ < 4096; omega) (fun _ => ⟨fun k hk => by omega, fun k hk h9 => by omega⟩))
end CC3
end
section
/-! 99zzzzr.codes3 -/
/-! the class's tables of codes: insert, addNew, meets -/
def insO (os : List Nat) (k n : Nat) : List Nat := os.take k ++ [n] ++ os.drop k
theorem insO_at {os : List Nat} {k n j : Nat} (hk : k ≤ os.length) : (insO os k n)[j]? = if j < k then os[j]? else if j = k then some n else os[j - 1]? := by
  have hl : (os.take k).length = k := by rw [List.length_take]; omega
  unfold insO
  by_cases h1 : j < k
  · rw [if_pos h1, List.getElem?_append_left (by rw [List.length_append, hl]; omega), List.getElem?_append_left (by omega), List.getElem?_take_of_lt h1]
  · rw [if_neg h1]
    by_cases h2 : j = k
    · rw [if_pos h2, List.getElem?_append_left (by rw [List.length_append, hl, List.length_singleton]; omega), List.getElem?_append_right (by omega), hl, h2, Nat.sub_self]
      rfl
    · rw [if_neg h2, List.getElem?_append_right (by rw [List.length_append, hl, List.length_singleton]; omega), List.length_append, hl, List.length_singleton, List.getElem?_drop]
      congr 1
      omega
theorem insO_len {os : List Nat} {k n : Nat} (hk : k ≤ os.length) : (insO os k n).length = os.length + 1 := by
  unfold insO
  rw [List.length_append, List.length_append, List.length_take, List.length_drop, List.length_singleton]
  omega
def cV (g q : Nat) : Prop := g + 1 ≤ q ∧ q ≤ g + 5
theorem tabC_fr {P : Nat → Prop} {y y1 : ow_MS} {g : Nat} {Cs : List cdT} {os : List Nat} (hf : fr P y y1) (hP : ∀ q, cV g q → ¬ P q) (h : tabC y g Cs os) : tabC y1 g Cs os := by
  obtain ⟨a, b, c, d⟩ := h
  refine ⟨by rw [(hf _ (hP _ (by unfold cV; omega))).1]; exact a, b, fun s C hC => ⟨slC_fr hf (fun q hq => hP q (by unfold cW at hq; unfold cV; omega)) (c s C hC).1, (c s C hC).2⟩, fun k s hs => ?_⟩
  rw [(hf _ (hP _ (by unfold cV; omega))).2.1]
  exact d k s hs
section CC4
variable {vl : Nat → Nat} {y : ow_MS} {g g' p p' s' k : Nat} {B : cdT} {Cs : List cdT} {os : List Nat}
theorem e_X3_insert {vl : Nat → Nat} {r0 : Nat} {x1 : Int32} {r2 : Nat} {x3 : Int32} {z : ow_MS} {Q : ow_MS → Prop} (H : Tt (fun K _ => cm_X3_insert_0 vl K x1 x3 r0 r2 z) Q) : Te (fun K => ce_X3_insert vl K r0 x1 r2 x3 z) Q := w_te0 H
theorem tc_insert (hg : tH g p) (hg' : tH g' p') (hd : g + 6 ≤ g' ∨ g' + 6 ≤ g) (hs' : s' < p') (hT : tabC y g Cs os) (hp : os.length ≤ p) (hk : k ≤ os.length) (hb : slC y g' s' B) (ob : cOK B) (hy : byR y (g' + 1)) : Te (fun K => ce_X3_insert vl K g (nI k) g' (nI s') y) (fun y1 => (if os.length < p then tabC y1 g (Cs ++ [B]) (insO os k os.length) else tabC y1 g Cs os) ∧ (byR y (g + 1) → byR y1 (g + 1)) ∧ fr (cV g) y y1) := by
  have hpp := tH_p hg
  obtain ⟨t1, t2, t3, t4⟩ := hT
  have fmn : ∀ {y1 : ow_MS}, fr (cW g) y y1 → fr (cV g) y y1 := fun hf => fr_mono (fun q hq => by unfold cW at hq; unfold cV; omega) hf
  refine e_X3_insert ?_; unfold cm_X3_insert_0
  unfold uw_len
  rw [tH_4 hg]
  refine w_rdF t1 (w_lt (by omega) (by omega) (fun hlt => w_rdF t1 (w_cs0 (tc_write hg hg' hd hlt hs' hb ob hy) ?_)) (fun hle => w_some ?_))
  · rintro y1 ⟨h1, h2, h3, f1⟩
    have e5 : y1.1 (g + 5) = nI os.length := by
      rw [(f1 _ (fun h => by unfold cW at h; omega)).1]
      exact t1
    have e4 : ∀ j, y1.2.1 (g + 4) j = y.2.1 (g + 4) j := fun j => congrFun (f1 _ (fun h => by unfold cW at h; omega)).2.1 j
    refine w_rdF e5 ?_
    rw [show nI os.length - nI k = nI (os.length - k) from pk_sub hk, nI_1]
    refine w_cpI (tH_4 hg) (tH_4 hg) rfl rfl rfl (by omega) (by omega) (w_rdF e5 (w_ctI (tH_4 hg) rfl (by omega) (w_rdF (x := nI os.length) e5 ?_)))
    rw [nI_1]
    refine w_wrF (w_some ⟨?_, fun hb9 i => ?_, fr_F2 (fr_I2 (fr_R2 (fmn f1) (by unfold cV; omega)) (by unfold cV; omega)) (by unfold cV; omega)⟩)
    · rw [if_pos hlt]
      have fE : ∀ s C, slC y1 g s C → slC (usF (usI (usR y1 (g + 4) (va_cpy (y1.2.1 (g + 4)) (y1.2.1 (g + 4)) k (k + 1) (os.length - k))) (g + 4) k (nI os.length)) (g + 5) (nI (os.length + 1))) g s C := fun s C h => slC_fr (P := fun q => q = g + 4 ∨ q = g + 5) (fr_F2 (fr_I2 (fr_R2 fr_rf (Or.inl rfl)) (Or.inl rfl)) (Or.inr rfl)) (fun q hq => by unfold cW at hq; omega) h
      refine ⟨?_, ?_, fun s C hC => ?_, fun j s hs => ?_⟩
      · rw [insO_len hk]
        exact po_usF_at
      · rw [insO_len hk, List.length_append, List.length_singleton, t2]
      · by_cases e : s < Cs.length
        · rw [List.getElem?_append_left e] at hC
          obtain ⟨c1, c2⟩ := t3 s C hC
          exact ⟨fE s C (h2 s C (by omega) c2 c1), c2⟩
        · have hl := (List.getElem?_eq_some_iff.mp hC).1
          rw [List.length_append, List.length_singleton] at hl
          rw [List.getElem?_append_right (by omega), show s - Cs.length = 0 by omega] at hC
          have eC : B = C := Option.some.inj hC
          rw [← eC, show s = os.length by omega]
          exact ⟨fE _ _ h1, ob⟩
      · rw [insO_at hk] at hs
        rw [List.length_append, List.length_singleton]
        show (usI (usR y1 (g + 4) _) (g + 4) k (nI os.length)).2.1 (g + 4) j = nI s ∧ s < Cs.length + 1
        by_cases h8 : j < k
        · rw [if_pos h8] at hs
          obtain ⟨q1, q2⟩ := t4 j s hs
          refine ⟨rd_ne (by omega) ?_, by omega⟩
          rw [usR_at]
          unfold va_cpy
          rw [if_neg (by omega), e4]
          exact q1
        · rw [if_neg h8] at hs
          by_cases h7 : j = k
          · rw [if_pos h7] at hs
            have es : os.length = s := Option.some.inj hs
            rw [h7, ← es]
            exact ⟨po_usI_at, by omega⟩
          · rw [if_neg h7] at hs
            have hl := (List.getElem?_eq_some_iff.mp hs).1
            obtain ⟨q1, q2⟩ := t4 (j - 1) s hs
            refine ⟨rd_ne h7 ?_, by omega⟩
            rw [usR_at]
            unfold va_cpy
            rw [if_pos (by omega), e4, show k + (j - (k + 1)) = j - 1 by omega]
            exact q1
    · have := h3 hb9 i
      show fits .byte (.int ((usI (usR y1 (g + 4) _) (g + 4) k (nI os.length)).2.1 (g + 1) i)) = true
      rw [show (usI (usR y1 (g + 4) (va_cpy (y1.2.1 (g + 4)) (y1.2.1 (g + 4)) k (k + 1) (os.length - k))) (g + 4) k (nI os.length)).2.1 (g + 1) i = y1.2.1 (g + 1) i from rd_ot (by omega) (by rw [usR_ot (by omega)])]
      exact this
  · rw [if_neg (by omega)]
    exact ⟨⟨t1, t2, t3, t4⟩, fun h => h, fr_rf⟩
theorem e_X3_addNew {vl : Nat → Nat} {r0 : Nat} {r1 : Nat} {x2 : Int32} {z : ow_MS} {Q : ow_MS → Prop} (H : Tt (fun K _ => cm_X3_addNew_0 vl K x2 r0 r1 z) Q) : Te (fun K => ce_X3_addNew vl K r0 r1 x2 z) Q := w_te0 H
theorem tc_addNew (hg : tH g p) (hg' : tH g' p') (hd : g + 6 ≤ g' ∨ g' + 6 ≤ g) (hs' : s' < p') (hT : tabC y g Cs os) (hp : os.length ≤ p) (hb : slC y g' s' B) (ob : cOK B) (hy : byR y (g' + 1)) : Te (fun K => ce_X3_addNew vl K g g' (nI s') y) (fun y1 => ((∃ k, k < os.length ∧ atC Cs os k = B) ∧ y1 = y ∨ ∃ k, k ≤ os.length ∧ (moC Cs os B → (∀ i, i < k → cmpC (atC Cs os i) B < 0) ∧ ∀ i, k ≤ i → i < os.length → 0 < cmpC (atC Cs os i) B) ∧ (if os.length < p then tabC y1 g (Cs ++ [B]) (insO os k os.length) else tabC y1 g Cs os)) ∧ (byR y (g + 1) → byR y1 (g + 1)) ∧ fr (cV g) y y1) := by
  have hpp := tH_p hg
  refine e_X3_addNew ?_; unfold cm_X3_addNew_0
  refine w_cs1 (tc_find hg hg' hs' hT hp hb ob) ?_
  rintro v y1 ⟨hv, e2⟩
  dsimp only at hv e2
  subst e2
  rcases hv with ⟨k, k1, k2, k3⟩ | ⟨k, k1, k2, k3⟩
  · rw [k2]
    exact w_leT (a := 0) (by omega) (by omega) (w_some ⟨Or.inl ⟨⟨k, k1, k3⟩, rfl⟩, fun h => h, fr_rf⟩)
  · rw [k2, show (-1 : Int32) - iI (-1 - (k : Int)) = nI k from by
      rw [show (-1 : Int32) = iI (-1) from rfl, iI_sub, nI_iI]
      congr 1
      omega]
    refine w_ifF (fun h9 => ?_) (w_cs0 (tc_insert hg hg' hd hs' hT hp k1 hb ob hy) ?_)
    · have := (iI_le (a := 0) (b := -1 - (k : Int)) (by omega) (by omega) (by omega) (by omega)).mp h9
      omega
    · rintro y2 ⟨h1, h2, f2⟩
      exact w_some ⟨Or.inr ⟨k, k1, k3, h1⟩, h2, f2⟩
end CC4
end
section
/-! 99zzzzs.cnet4 -/
/-! the class: meets; a net's writhe, alternates, append -/
def np_sum (G : Nat → Int32) : Nat → Int32
  | 0 => 0
  | n + 1 => np_sum G n + G n
def np_turn (t : Nat → Bool) (S : ow_NP) (G : Nat → Int32) : Nat → ow_NP × (Nat → Int32)
  | 0 => (S, G)
  | n + 1 => if t n then ((nu (np_turn t S G n).1.1 n ((np_turn t S G n).1.2 n), nu (np_turn t S G n).1.2 n ((np_turn t S G n).1.1 n)), su (np_turn t S G n).2 (n / 2) (-((np_turn t S G n).2 (n / 2)))) else np_turn t S G n
theorem shr1v : ∀ v : Fin 24, (nI v.val) >>> ((1 : Int32) &&& 31) = nI (v.val / 2) := by decide +kernel
section CN4
variable {vl : Nat → Nat} {y : ow_MS} {g g' p p' h : Nat} {Cs Ds : List cdT} {os qs : List Nat} {T : ow_NT}
theorem u_X3_meets_1 {vl : Nat → Nat} {x2 : Int32} {r0 : Nat} {r1 : Nat} {z : ow_MS} {Q : (Int32 × ow_MS) → Prop} (H : Tt (fun K k => cm_X3_meets_1 vl K (c_X3_meets vl K k) x2 r0 r1 z) Q) : Tt (fun K k => c_X3_meets vl K k 1 x2 r0 r1 z) Q := w_un (fun _ _ => rfl) H
theorem e_X3_meets {vl : Nat → Nat} {r0 : Nat} {r1 : Nat} {z : ow_MS} {Q : (Int32 × ow_MS) → Prop} (H : Tt (fun K k => c_X3_meets vl K k 0 0 r0 r1 z) Q) : Te (fun K => ce_X3_meets vl K r0 r1 z) Q := w_te H
theorem u_X3_meets_0 {vl : Nat → Nat} {x2 : Int32} {r0 : Nat} {r1 : Nat} {z : ow_MS} {Q : (Int32 × ow_MS) → Prop} (H : Tt (fun K k => cm_X3_meets_0 vl K (c_X3_meets vl K k) x2 r0 r1 z) Q) : Tt (fun K k => c_X3_meets vl K k 0 x2 r0 r1 z) Q := w_un (fun _ _ => rfl) H
theorem tc_meets (hg : tH g p) (hg' : tH g' p') (hT : tabC y g Cs os) (hp : os.length ≤ p) (hU : tabC y g' Ds qs) (hp' : qs.length ≤ p') : Te (fun K => ce_X3_meets vl K g g' y) (fun r => (r.1 = 1 ∧ (∃ i k, i < Cs.length ∧ k < qs.length ∧ Cs[i]? = some (atC Ds qs k)) ∨ r.1 = 0 ∧ ∀ B, B ∈ Cs → moC Ds qs B → ∀ k, k < qs.length → atC Ds qs k ≠ B) ∧ r.2 = y) := by
  have hpp := tH_p hg
  have hpq := tH_p hg'
  let Q : Int32 × ow_MS → Prop := fun r => (r.1 = 1 ∧ (∃ i k, i < Cs.length ∧ k < qs.length ∧ Cs[i]? = some (atC Ds qs k)) ∨ r.1 = 0 ∧ ∀ B, B ∈ Cs → moC Ds qs B → ∀ k, k < qs.length → atC Ds qs k ≠ B) ∧ r.2 = y
  have hl := hT.2.1
  have cself : ∀ B : cdT, cmpC B B = 0 := by
    intro B
    have aux : ∀ L : List Nat, lexD L L = 0 := by
      intro L
      induction L with
      | nil => rfl
      | cons a L ih =>
        show (if a = a then lexD L L else (a : Int) - a) = 0
        rw [if_pos rfl]
        exact ih
    unfold cmpC
    rw [if_pos rfl]
    exact aux _
  have c1 : ∀ (d i : Nat), i + d = os.length → (∀ j B, j < i → Cs[j]? = some B → moC Ds qs B → ∀ k, k < qs.length → atC Ds qs k ≠ B) → Tt (fun K t => c_X3_meets vl K t 1 (nI i) g g' y) Q := by
    intro d
    induction d with
    | zero =>
      intro i hi hn
      refine u_X3_meets_1 ?_; unfold cm_X3_meets_1
      refine w_rdF hT.1 (w_leT (by omega) (by omega) (w_okZ (Or.inl rfl) (w_some ⟨Or.inr ⟨rfl, fun B hB hm k hk => ?_⟩, rfl⟩)))
      obtain ⟨j, hj⟩ := List.getElem?_of_mem hB
      have := (List.getElem?_eq_some_iff.mp hj).1
      exact hn j B (by omega) hj hm k hk
    | succ d ih =>
      intro i hi hn
      obtain ⟨B, eB⟩ : ∃ B, Cs[i]? = some B := ⟨_, List.getElem?_eq_getElem (show i < Cs.length by omega)⟩
      obtain ⟨b1, b2⟩ := hT.2.2.1 i B eB
      refine u_X3_meets_1 ?_; unfold cm_X3_meets_1
      rw [nI_1]
      refine w_rdF hT.1 (w_leF (by omega) (by omega) (w_cs1 (tc_find hg' hg (show i < p by omega) hU hp' b1 b2) ?_))
      rintro v y1 ⟨hv, e2⟩
      dsimp only at hv e2
      subst e2
      rcases hv with ⟨k, k1, k2, k3⟩ | ⟨k, k1, k2, k3⟩
      · rw [k2]
        exact w_ltF (b := 0) (by omega) (by omega) (w_okZ (Or.inr rfl) (w_some ⟨Or.inl ⟨rfl, i, k, by omega, k1, by rw [k3]; exact eB⟩, rfl⟩))
      · rw [k2]
        refine w_ifT ((iI_lt (b := 0) (by omega) (by omega) (by omega) (by omega)).mpr (by omega)) (ih (i + 1) (by omega) (fun j B' hj hB' hm k' hk' => ?_))
        by_cases ej : j = i
        · rw [ej, eB] at hB'
          have e1 : B = B' := Option.some.inj hB'
          rw [← e1] at hm ⊢
          intro e9
          obtain ⟨m1, m2⟩ := k3 hm
          have c0 : cmpC (atC Ds qs k') B = 0 := by rw [e9]; exact cself B
          by_cases h8 : k' < k
          · have := m1 k' h8
            omega
          · have := m2 k' (by omega) hk'
            omega
        · exact hn j B' (by omega) hB' hm k' hk'
  refine e_X3_meets ?_
  refine u_X3_meets_0 ?_; unfold cm_X3_meets_0
  exact c1 os.length 0 (by omega) (fun j B hj => by omega)
theorem u_X7_writhe_1 {vl : Nat → Nat} {x1 : Int32} {x2 : Int32} {r0 : Nat} {z : ow_MS} {Q : (Int32 × ow_MS) → Prop} (H : Tt (fun K k => cm_X7_writhe_1 vl K (c_X7_writhe vl K k) x1 x2 r0 z) Q) : Tt (fun K k => c_X7_writhe vl K k 1 x1 x2 r0 z) Q := w_un (fun _ _ => rfl) H
theorem e_X7_writhe {vl : Nat → Nat} {r0 : Nat} {z : ow_MS} {Q : (Int32 × ow_MS) → Prop} (H : Tt (fun K k => c_X7_writhe vl K k 0 0 0 r0 z) Q) : Te (fun K => ce_X7_writhe vl K r0 z) Q := w_te H
theorem u_X7_writhe_0 {vl : Nat → Nat} {x1 : Int32} {x2 : Int32} {r0 : Nat} {z : ow_MS} {Q : (Int32 × ow_MS) → Prop} (H : Tt (fun K k => cm_X7_writhe_0 vl K (c_X7_writhe vl K k) x1 x2 r0 z) Q) : Tt (fun K k => c_X7_writhe vl K k 0 x1 x2 r0 z) Q := w_un (fun _ _ => rfl) H
theorem tc_writhe (hh : nH h) (hy : cAt y h T) (hT : T.1 ≤ 12) : Te (fun K => ce_X7_writhe vl K h y) (fun r => r.1 = np_sum T.2.2.2 T.1 ∧ r.2 = y) := by
  let Q : Int32 × ow_MS → Prop := fun r => r.1 = np_sum T.2.2.2 T.1 ∧ r.2 = y
  have c1 : ∀ (d i : Nat), i + d = T.1 → Tt (fun K t => c_X7_writhe vl K t 1 (np_sum T.2.2.2 i) (nI i) h y) Q := by
    intro d
    induction d with
    | zero =>
      intro i hi
      have e : i = T.1 := by omega
      subst e
      refine u_X7_writhe_1 ?_; unfold cm_X7_writhe_1
      exact w_rdF hy.1 (w_leT (by omega) (by omega) (w_some ⟨rfl, rfl⟩))
    | succ d ih =>
      intro i hi
      refine u_X7_writhe_1 ?_; unfold cm_X7_writhe_1
      rw [nI_1]
      exact w_rdF hy.1 (w_leF (by omega) (by omega) (w_crI (nH_3 hh) rfl (by omega) (hy.2.2.2.2 i) (ih (i + 1) (by omega))))
  refine e_X7_writhe ?_
  refine u_X7_writhe_0 ?_; unfold cm_X7_writhe_0
  exact c1 T.1 0 (by omega)
theorem u_X7_alternates_1 {vl : Nat → Nat} {x1 : Int32} {r0 : Nat} {z : ow_MS} {Q : (Int32 × ow_MS) → Prop} (H : Tt (fun K k => cm_X7_alternates_1 vl K (c_X7_alternates vl K k) x1 r0 z) Q) : Tt (fun K k => c_X7_alternates vl K k 1 x1 r0 z) Q := w_un (fun _ _ => rfl) H
theorem e_X7_alternates {vl : Nat → Nat} {r0 : Nat} {z : ow_MS} {Q : (Int32 × ow_MS) → Prop} (H : Tt (fun K k => c_X7_alternates vl K k 0 0 r0 z) Q) : Te (fun K => ce_X7_alternates vl K r0 z) Q := w_te H
theorem u_X7_alternates_0 {vl : Nat → Nat} {x1 : Int32} {r0 : Nat} {z : ow_MS} {Q : (Int32 × ow_MS) → Prop} (H : Tt (fun K k => cm_X7_alternates_0 vl K (c_X7_alternates vl K k) x1 r0 z) Q) : Tt (fun K k => c_X7_alternates vl K k 0 x1 r0 z) Q := w_un (fun _ _ => rfl) H
theorem tc_alternates (hh : nH h) (hy : cAt y h T) (hT : T.1 ≤ 12) : Te (fun K => ce_X7_alternates vl K h y) (fun r => (r.1 = 1 ∧ (∀ v, v < 2 * T.1 → (nI v &&& 1) ≠ (nI (T.2.2.1.1 v) &&& 1)) ∨ r.1 = 0 ∧ ∃ v, v < 2 * T.1 ∧ (nI v &&& 1) = (nI (T.2.2.1.1 v) &&& 1)) ∧ r.2 = y) := by
  let Q : Int32 × ow_MS → Prop := fun r => (r.1 = 1 ∧ (∀ v, v < 2 * T.1 → (nI v &&& 1) ≠ (nI (T.2.2.1.1 v) &&& 1)) ∨ r.1 = 0 ∧ ∃ v, v < 2 * T.1 ∧ (nI v &&& 1) = (nI (T.2.2.1.1 v) &&& 1)) ∧ r.2 = y
  have c1 : ∀ (d i : Nat), i + d = 2 * T.1 → (∀ v, v < i → (nI v &&& 1) ≠ (nI (T.2.2.1.1 v) &&& 1)) → Tt (fun K t => c_X7_alternates vl K t 1 (nI i) h y) Q := by
    intro d
    induction d with
    | zero =>
      intro i hi hn
      refine u_X7_alternates_1 ?_; unfold cm_X7_alternates_1
      refine w_rdF hy.1 ?_
      rw [show (2 : Int32) * nI T.1 = nI (2 * T.1) from pk_mul 2 _]
      exact w_leT (by omega) (by omega) (w_okZ (Or.inr rfl) (w_some ⟨Or.inl ⟨rfl, fun v hv => hn v (by omega)⟩, rfl⟩))
    | succ d ih =>
      intro i hi hn
      refine u_X7_alternates_1 ?_; unfold cm_X7_alternates_1
      refine w_rdF hy.1 ?_
      rw [show (2 : Int32) * nI T.1 = nI (2 * T.1) from pk_mul 2 _, nI_1]
      refine w_leF (by omega) (by omega) (w_crI (nH_1 hh) rfl (by omega) (hy.2.2.1 i) (w_if (fun e => w_okZ (Or.inl rfl) (w_some ⟨Or.inr ⟨rfl, i, by omega, e⟩, rfl⟩)) (fun e => ih (i + 1) (by omega) (fun v hv => ?_))))
      by_cases ev : v = i
      · rw [ev]
        exact e
      · exact hn v (by omega)
  refine e_X7_alternates ?_
  refine u_X7_alternates_0 ?_; unfold cm_X7_alternates_0
  exact c1 (2 * T.1) 0 (by omega) (fun v hv => by omega)
theorem u_X7_turn_1 {vl : Nat → Nat} {x1 : Int32} {x2 : Int32} {r0 : Nat} {z : ow_MS} {Q : ow_MS → Prop} (H : Tt (fun K k => cm_X7_turn_1 vl K (c_X7_turn vl K k) x1 x2 r0 z) Q) : Tt (fun K k => c_X7_turn vl K k 1 x1 x2 r0 z) Q := w_un (fun _ _ => rfl) H
theorem u_X7_turn_3 {vl : Nat → Nat} {x1 : Int32} {x2 : Int32} {r0 : Nat} {z : ow_MS} {Q : ow_MS → Prop} (H : Tt (fun K k => cm_X7_turn_3 vl K (c_X7_turn vl K k) x1 x2 r0 z) Q) : Tt (fun K k => c_X7_turn vl K k 3 x1 x2 r0 z) Q := w_un (fun _ _ => rfl) H
theorem u_X7_turn_2 {vl : Nat → Nat} {x1 : Int32} {x2 : Int32} {r0 : Nat} {z : ow_MS} {Q : ow_MS → Prop} (H : Tt (fun K k => cm_X7_turn_2 vl K (c_X7_turn vl K k) x1 x2 r0 z) Q) : Tt (fun K k => c_X7_turn vl K k 2 x1 x2 r0 z) Q := w_un (fun _ _ => rfl) H
theorem e_X7_turn {vl : Nat → Nat} {r0 : Nat} {x1 : Int32} {z : ow_MS} {Q : ow_MS → Prop} (H : Tt (fun K k => c_X7_turn vl K k 0 x1 0 r0 z) Q) : Te (fun K => ce_X7_turn vl K r0 x1 z) Q := w_te H
theorem u_X7_turn_0 {vl : Nat → Nat} {x1 : Int32} {x2 : Int32} {r0 : Nat} {z : ow_MS} {Q : ow_MS → Prop} (H : Tt (fun K k => cm_X7_turn_0 vl K (c_X7_turn vl K k) x1 x2 r0 z) Q) : Tt (fun K k => c_X7_turn vl K k 0 x1 x2 r0 z) Q := w_un (fun _ _ => rfl) H
theorem tc_turn {x : Int32} {F : Nat → Int32} (hh : nH h) (hy : cAt y h T) (hT : T.1 ≤ 12) (h5 : ∀ k, y.2.1 (h + 5) k = F k) : Te (fun K => ce_X7_turn vl K h x y) (fun y1 => cAt y1 h (T.1, T.2.1, (np_turn (fun v => decide (x = -1) || decide (F v = x)) T.2.2.1 T.2.2.2 (2 * T.1)).1, (np_turn (fun v => decide (x = -1) || decide (F v = x)) T.2.2.1 T.2.2.2 (2 * T.1)).2) ∧ fr (cP h) y y1) := by
  generalize ht : (fun v => decide (x = -1) || decide (F v = x)) = t
  have htv : ∀ v, t v = (decide (x = -1) || decide (F v = x)) := fun v => by rw [← ht]
  let Q : ow_MS → Prop := fun y1 => cAt y1 h (T.1, T.2.1, (np_turn t T.2.2.1 T.2.2.2 (2 * T.1)).1, (np_turn t T.2.2.1 T.2.2.2 (2 * T.1)).2) ∧ fr (cP h) y y1
  have c1 : ∀ (d i : Nat) (y1 : ow_MS), i + d = 2 * T.1 → cAt y1 h (T.1, T.2.1, (np_turn t T.2.2.1 T.2.2.2 i).1, (np_turn t T.2.2.1 T.2.2.2 i).2) → fr (cP h) y y1 → Tt (fun K k => c_X7_turn vl K k 1 x (nI i) h y1) Q := by
    intro d
    induction d with
    | zero =>
      intro i y1 hi h1 hf
      have e : i = 2 * T.1 := by omega
      rw [e] at h1
      refine u_X7_turn_1 ?_; unfold cm_X7_turn_1
      refine w_rdF (x := nI T.1) h1.1 ?_
      rw [show (2 : Int32) * nI T.1 = nI (2 * T.1) from pk_mul 2 _]
      exact w_leT (by omega) (by omega) (w_some ⟨h1, hf⟩)
    | succ d ih =>
      intro i y1 hi h1 hf
      have eo : np_turn t T.2.2.1 T.2.2.2 (i + 1) = if t i then ((nu (np_turn t T.2.2.1 T.2.2.2 i).1.1 i ((np_turn t T.2.2.1 T.2.2.2 i).1.2 i), nu (np_turn t T.2.2.1 T.2.2.2 i).1.2 i ((np_turn t T.2.2.1 T.2.2.2 i).1.1 i)), su (np_turn t T.2.2.1 T.2.2.2 i).2 (i / 2) (-((np_turn t T.2.2.1 T.2.2.2 i).2 (i / 2)))) else np_turn t T.2.2.1 T.2.2.2 i := rfl
      have k3 : ∀ y1 : ow_MS, cAt y1 h (T.1, T.2.1, (np_turn t T.2.2.1 T.2.2.2 (i + 1)).1, (np_turn t T.2.2.1 T.2.2.2 (i + 1)).2) → fr (cP h) y y1 → Tt (fun K k => c_X7_turn vl K k 3 x (nI i) h y1) Q := by
        intro y1 h1 hf
        refine u_X7_turn_3 ?_; unfold cm_X7_turn_3
        rw [nI_1]
        exact ih (i + 1) y1 (by omega) h1 hf
      have k2 : t i = true → Tt (fun K k => c_X7_turn vl K k 2 x (nI i) h y1) Q := by
        intro hti
        rw [if_pos hti] at eo
        rw [eo] at k3
        generalize np_turn t T.2.2.1 T.2.2.2 i = R at *
        obtain ⟨a, b, c, d, e⟩ := h1
        refine u_X7_turn_2 ?_; unfold cm_X7_turn_2
        rw [shr1v ⟨i, by omega⟩]
        refine w_crI (nH_1 hh) rfl (by omega) (c i) (w_crI (nH_2 hh) rfl (by omega) (d i) (w_ctI (nH_1 hh) rfl (by omega) (w_ctI (nH_2 hh) rfl (by omega) (w_crI (nH_3 hh) rfl (show i / 2 < 12 by omega) (rd_ot (by omega) (rd_ot (by omega) (e (i / 2)))) (w_ctI (nH_3 hh) rfl (show i / 2 < 12 by omega) (k3 _ ⟨a, b, fun k => rd_ot (by omega) (rd_ot (by omega) ?_), fun k => rd_ot (by omega) ?_, fun k => ?_⟩ (fr_I2 (fr_I2 (fr_I2 hf (Or.inl (by omega))) (Or.inl (by omega))) (Or.inl (by omega)))))))))
        · show _ = nI (if k = i then R.1.2 i else R.1.1 k)
          by_cases ek : k = i
          · rw [if_pos ek, ek]
            exact po_usI_at
          · rw [if_neg ek]
            exact rd_ne ek (c k)
        · show _ = nI (if k = i then R.1.1 i else R.1.2 k)
          by_cases ek : k = i
          · rw [if_pos ek, ek]
            exact po_usI_at
          · rw [if_neg ek]
            exact rd_ne ek (rd_ot (by omega) (d k))
        · show _ = if k = i / 2 then -(R.2 (i / 2)) else R.2 k
          by_cases ek : k = i / 2
          · rw [if_pos ek, ek]
            exact po_usI_at
          · rw [if_neg ek]
            exact rd_ne ek (rd_ot (by omega) (rd_ot (by omega) (e k)))
      refine u_X7_turn_1 ?_; unfold cm_X7_turn_1
      refine w_rdF (x := nI T.1) h1.1 ?_
      rw [show (2 : Int32) * nI T.1 = nI (2 * T.1) from pk_mul 2 _]
      refine w_leF (by omega) (by omega) (w_if (fun e => k2 ?_) (fun e => w_crI (x := F i) (nH_5 hh) rfl (by omega) ?_ (w_if (fun e1 => k2 ?_) (fun e1 => k3 y1 ?_ hf))))
      · rw [htv, decide_eq_true e]
        rfl
      · rw [(hf _ (fun h9 => by unfold cP at h9; omega)).2.1]
        exact h5 i
      · rw [htv, decide_eq_true e1, Bool.or_true]
      · rw [eo, htv, decide_eq_false e, decide_eq_false e1]
        exact h1
  refine e_X7_turn ?_
  refine u_X7_turn_0 ?_; unfold cm_X7_turn_0
  exact c1 (2 * T.1) 0 y (by omega) hy fr_rf
end CN4
end
section
/-! 99zzzzt.load -/
/-! the class: a code read into a net -/
abbrev ow_LD := (ow_NP × (Nat → Int32) × (Nat → Int32) × (Nat → Int32)) × (Nat × Nat × Nat × Nat × Nat × Nat) × (Option Nat × Option Nat)
def ld_zero (S : ow_NP) (G Fo Fc : Nat → Int32) (ci co ba na lo cn : Nat) (fi la : Option Nat) : ow_LD := (((match fi with | none => S | some f => nl S (la.getD 0) f), G, Fo, Fc), ((match fi with | none => ci + 1 | some _ => ci), co + 1, (if lo = 0 then na else ba), na, lo, cn), (none, la))
def ld_visit (S : ow_NP) (G Fo Fc : Nat → Int32) (ci co ba na lo cn : Nat) (fi la : Option Nat) (x v : Nat) (g : Int32) : ow_LD := (((match fi with | none => S | some _ => nl S (la.getD 0) v), (if x < na then G else su G x g), su Fo cn (nI v), su Fc v (nI co)), (ci, co, ba, (if x < na then na else x + 1), (if x < na then lo - 1 else lo + 1), cn + 1), (some (fi.getD v), some v))
def ld_cell (t : ow_LD) (c : Nat) : Option ow_LD := match t with
  | ((S, G, Fo, Fc), (ci, co, ba, na, lo, cn), (fi, la)) =>
    if c = 0 then some (ld_zero S G Fo Fc ci co ba na lo cn fi la)
    else if 4 ≤ c ∧ ba + c / 4 - 1 < 12 ∧ cn < 24 ∧ (ba + c / 4 - 1 < na → 0 < lo) then some (ld_visit S G Fo Fc ci co ba na lo cn fi la (ba + c / 4 - 1) (2 * (ba + c / 4 - 1) + c / 2 % 2) (if c % 2 = 0 then 1 else -1))
    else none
theorem ld_cell_eq {S : ow_NP} {G Fo Fc : Nat → Int32} {ci co ba na lo cn c : Nat} {fi la : Option Nat} : ld_cell ((S, G, Fo, Fc), (ci, co, ba, na, lo, cn), (fi, la)) c = if c = 0 then some (ld_zero S G Fo Fc ci co ba na lo cn fi la) else if 4 ≤ c ∧ ba + c / 4 - 1 < 12 ∧ cn < 24 ∧ (ba + c / 4 - 1 < na → 0 < lo) then some (ld_visit S G Fo Fc ci co ba na lo cn fi la (ba + c / 4 - 1) (2 * (ba + c / 4 - 1) + c / 2 % 2) (if c % 2 = 0 then 1 else -1)) else none := rfl
theorem ld_zero_ci {S : ow_NP} {G Fo Fc : Nat → Int32} {ci co ba na lo cn : Nat} {fi la : Option Nat} : (ld_zero S G Fo Fc ci co ba na lo cn fi la).2.1.1 ≤ ci + 1 := by
  cases fi
  · exact Nat.le_refl _
  · exact Nat.le_succ _
def ldR : List Nat → ow_LD → Option ow_LD
  | [], t => some t
  | c :: L, t => (ld_cell t c).bind (ldR L)
def ld_init (S : ow_NP) (G Fo Fc : Nat → Int32) : ow_LD := ((S, G, Fo, Fc), (0, 0, 0, 0, 0, 0), (none, none))
def oI (o : Option Nat) : Int32 := match o with
  | none => -1
  | some a => nI a
theorem ld_c : ∀ c : Fin 64, nI c.val >>> ((2 : Int32) &&& 31) = nI (c.val / 4) ∧ ((nI c.val &&& 1) = 0 ↔ c.val % 2 = 0) ∧ ((nI c.val >>> ((1 : Int32) &&& 31)) &&& 1) = nI (c.val / 2 % 2) := by decide +kernel
/-- what a net's cells and the walk's numbers are while a code is read -/
def lds (y : ow_MS) (h c0 : Nat) (t : ow_LD) : Prop := cAt y h (c0, t.2.1.1, t.1.1, t.1.2.1) ∧ (∀ k, y.2.1 (h + 4) k = t.1.2.2.1 k) ∧ (∀ k, y.2.1 (h + 5) k = t.1.2.2.2 k) ∧ y.1 (h + 10) = nI t.2.1.2.1
def ldb (i : Nat) (t : ow_LD) : Prop := t.2.1.1 ≤ i ∧ t.2.1.2.1 ≤ i ∧ t.2.1.2.2.1 ≤ 12 ∧ t.2.1.2.2.2.1 ≤ 12 ∧ t.2.1.2.2.2.2.1 ≤ i ∧ t.2.1.2.2.2.2.2 ≤ 24 ∧ (∀ f, t.2.2.1 = some f → f < 24 ∧ ∃ l, t.2.2.2 = some l) ∧ ∀ l, t.2.2.2 = some l → l < 24
theorem nI_m {a : Nat} (h : 1 ≤ a) : nI a + -1 = nI (a - 1) := by
  rw [nI_iI, show (-1 : Int32) = iI (-1) from rfl, iI_add, nI_iI]
  congr 1
  omega
def cL (h q : Nat) : Prop := h + 1 ≤ q ∧ q ≤ h + 5 ∨ h + 8 ≤ q ∧ q ≤ h + 10
section CL
variable {vl : Nat → Nat} {y : ow_MS} {h g p s : Nat} {C : cdT} {T : ow_NT}
theorem u_X7_load_1 {vl : Nat → Nat} {x2 : Int32} {x3 : Int32} {x4 : Int32} {x5 : Int32} {x6 : Int32} {x7 : Int32} {x8 : Int32} {x9 : Int32} {x10 : Int32} {x11 : Int32} {x12 : Int32} {x13 : Int32} {r0 : Nat} {r1 : Nat} {t0 : Int32} {t1 : Int32} {z : ow_MS} {Q : ow_MS → Prop} (H : Tt (fun K k => cm_X7_load_1 vl K (c_X7_load vl K k) x2 x3 x4 x5 x6 x7 x8 x9 x10 x11 x12 x13 r0 r1 t0 t1 z) Q) : Tt (fun K k => c_X7_load vl K k 1 x2 x3 x4 x5 x6 x7 x8 x9 x10 x11 x12 x13 r0 r1 t0 t1 z) Q := w_un (fun _ _ => rfl) H
theorem u_X7_load_7 {vl : Nat → Nat} {x2 : Int32} {x3 : Int32} {x4 : Int32} {x5 : Int32} {x6 : Int32} {x7 : Int32} {x8 : Int32} {x9 : Int32} {x10 : Int32} {x11 : Int32} {x12 : Int32} {x13 : Int32} {r0 : Nat} {r1 : Nat} {t0 : Int32} {t1 : Int32} {z : ow_MS} {Q : ow_MS → Prop} (H : Tt (fun K k => cm_X7_load_7 vl K (c_X7_load vl K k) x2 x3 x4 x5 x6 x7 x8 x9 x10 x11 x12 x13 r0 r1 t0 t1 z) Q) : Tt (fun K k => c_X7_load vl K k 7 x2 x3 x4 x5 x6 x7 x8 x9 x10 x11 x12 x13 r0 r1 t0 t1 z) Q := w_un (fun _ _ => rfl) H
theorem u_X7_load_3 {vl : Nat → Nat} {x2 : Int32} {x3 : Int32} {x4 : Int32} {x5 : Int32} {x6 : Int32} {x7 : Int32} {x8 : Int32} {x9 : Int32} {x10 : Int32} {x11 : Int32} {x12 : Int32} {x13 : Int32} {r0 : Nat} {r1 : Nat} {t0 : Int32} {t1 : Int32} {z : ow_MS} {Q : ow_MS → Prop} (H : Tt (fun K k => cm_X7_load_3 vl K (c_X7_load vl K k) x2 x3 x4 x5 x6 x7 x8 x9 x10 x11 x12 x13 r0 r1 t0 t1 z) Q) : Tt (fun K k => c_X7_load vl K k 3 x2 x3 x4 x5 x6 x7 x8 x9 x10 x11 x12 x13 r0 r1 t0 t1 z) Q := w_un (fun _ _ => rfl) H
theorem u_X7_load_2 {vl : Nat → Nat} {x2 : Int32} {x3 : Int32} {x4 : Int32} {x5 : Int32} {x6 : Int32} {x7 : Int32} {x8 : Int32} {x9 : Int32} {x10 : Int32} {x11 : Int32} {x12 : Int32} {x13 : Int32} {r0 : Nat} {r1 : Nat} {t0 : Int32} {t1 : Int32} {z : ow_MS} {Q : ow_MS → Prop} (H : Tt (fun K k => cm_X7_load_2 vl K (c_X7_load vl K k) x2 x3 x4 x5 x6 x7 x8 x9 x10 x11 x12 x13 r0 r1 t0 t1 z) Q) : Tt (fun K k => c_X7_load vl K k 2 x2 x3 x4 x5 x6 x7 x8 x9 x10 x11 x12 x13 r0 r1 t0 t1 z) Q := w_un (fun _ _ => rfl) H
theorem u_X7_load_6 {vl : Nat → Nat} {x2 : Int32} {x3 : Int32} {x4 : Int32} {x5 : Int32} {x6 : Int32} {x7 : Int32} {x8 : Int32} {x9 : Int32} {x10 : Int32} {x11 : Int32} {x12 : Int32} {x13 : Int32} {r0 : Nat} {r1 : Nat} {t0 : Int32} {t1 : Int32} {z : ow_MS} {Q : ow_MS → Prop} (H : Tt (fun K k => cm_X7_load_6 vl K (c_X7_load vl K k) x2 x3 x4 x5 x6 x7 x8 x9 x10 x11 x12 x13 r0 r1 t0 t1 z) Q) : Tt (fun K k => c_X7_load vl K k 6 x2 x3 x4 x5 x6 x7 x8 x9 x10 x11 x12 x13 r0 r1 t0 t1 z) Q := w_un (fun _ _ => rfl) H
theorem u_X7_load_5 {vl : Nat → Nat} {x2 : Int32} {x3 : Int32} {x4 : Int32} {x5 : Int32} {x6 : Int32} {x7 : Int32} {x8 : Int32} {x9 : Int32} {x10 : Int32} {x11 : Int32} {x12 : Int32} {x13 : Int32} {r0 : Nat} {r1 : Nat} {t0 : Int32} {t1 : Int32} {z : ow_MS} {Q : ow_MS → Prop} (H : Tt (fun K k => cm_X7_load_5 vl K (c_X7_load vl K k) x2 x3 x4 x5 x6 x7 x8 x9 x10 x11 x12 x13 r0 r1 t0 t1 z) Q) : Tt (fun K k => c_X7_load vl K k 5 x2 x3 x4 x5 x6 x7 x8 x9 x10 x11 x12 x13 r0 r1 t0 t1 z) Q := w_un (fun _ _ => rfl) H
theorem u_X7_load_4 {vl : Nat → Nat} {x2 : Int32} {x3 : Int32} {x4 : Int32} {x5 : Int32} {x6 : Int32} {x7 : Int32} {x8 : Int32} {x9 : Int32} {x10 : Int32} {x11 : Int32} {x12 : Int32} {x13 : Int32} {r0 : Nat} {r1 : Nat} {t0 : Int32} {t1 : Int32} {z : ow_MS} {Q : ow_MS → Prop} (H : Tt (fun K k => cm_X7_load_4 vl K (c_X7_load vl K k) x2 x3 x4 x5 x6 x7 x8 x9 x10 x11 x12 x13 r0 r1 t0 t1 z) Q) : Tt (fun K k => c_X7_load vl K k 4 x2 x3 x4 x5 x6 x7 x8 x9 x10 x11 x12 x13 r0 r1 t0 t1 z) Q := w_un (fun _ _ => rfl) H
theorem e_X7_load {vl : Nat → Nat} {r0 : Nat} {r1 : Nat} {x2 : Int32} {z : ow_MS} {Q : ow_MS → Prop} (H : Tt (fun K k => c_X7_load vl K k 0 x2 0 0 0 0 0 0 0 0 0 0 0 r0 r1 0 0 z) Q) : Te (fun K => ce_X7_load vl K r0 r1 x2 z) Q := w_te H
theorem u_X7_load_0 {vl : Nat → Nat} {x2 : Int32} {x3 : Int32} {x4 : Int32} {x5 : Int32} {x6 : Int32} {x7 : Int32} {x8 : Int32} {x9 : Int32} {x10 : Int32} {x11 : Int32} {x12 : Int32} {x13 : Int32} {r0 : Nat} {r1 : Nat} {t0 : Int32} {t1 : Int32} {z : ow_MS} {Q : ow_MS → Prop} (H : Tt (fun K k => cm_X7_load_0 vl K (c_X7_load vl K k) x2 x3 x4 x5 x6 x7 x8 x9 x10 x11 x12 x13 r0 r1 t0 t1 z) Q) : Tt (fun K k => c_X7_load vl K k 0 x2 x3 x4 x5 x6 x7 x8 x9 x10 x11 x12 x13 r0 r1 t0 t1 z) Q := w_un (fun _ _ => rfl) H
theorem tc_load {Fo Fc : Nat → Int32} {t : ow_LD} (hh : nH h) (hg : tH g p) (hd : h + 12 ≤ g ∨ g + 6 ≤ h) (hs : s < p) (hC : slC y g s C) (oC : cOK C) (hy : cAt y h T) (h4 : ∀ k, y.2.1 (h + 4) k = Fo k) (h5 : ∀ k, y.2.1 (h + 5) k = Fc k) (ht : ldR C.2 (ld_init T.2.2.1 T.2.2.2 Fo Fc) = some t) : Te (fun K => ce_X7_load vl K h g (nI s) y) (fun y1 => lds y1 h C.1 t ∧ fr (cL h) y y1) := by
  have hp := tH_p hg
  obtain ⟨o1, o2, o3⟩ := oC
  let Q : ow_MS → Prop := fun y1 => lds y1 h C.1 t ∧ fr (cL h) y y1
  have slf : ∀ {y1 : ow_MS}, fr (cL h) y y1 → slC y1 g s C := fun hf => slC_fr hf (fun q hq hl => by unfold cW at hq; unfold cL at hl; omega) hC
  have c1 : ∀ (L : List Nat) (i : Nat) (u : ow_LD) (y1 : ow_MS), C.2.drop i = L → i ≤ C.2.length → ldR L u = some t → lds y1 h C.1 u → ldb i u → fr (cL h) y y1 → Tt (fun K k => c_X7_load vl K k 1 (nI s) (nI (30 * s)) (nI u.2.1.2.2.1) (nI u.2.1.2.2.2.1) (nI u.2.1.2.2.2.2.1) (nI u.2.1.2.2.2.2.2) (oI u.2.2.1) (oI u.2.2.2) (nI i) 0 0 0 h g 0 0 y1) Q := by
    intro L
    induction L with
    | nil =>
      intro i u y1 hL hi hr hl hb hf
      have e : i = C.2.length := by
        have := List.drop_eq_nil_iff.mp hL
        omega
      have hu : u = t := Option.some.inj hr
      subst hu
      refine u_X7_load_1 ?_; unfold cm_X7_load_1
      exact w_crI (tH_2 hg) rfl hs (slf hf).2.1 (w_leT (by omega) (by omega) (w_some ⟨hl, hf⟩))
    | cons c L ih =>
      intro i u y1 hL hi hr hl hb hf
      have hil : i < C.2.length := by
        refine Nat.lt_of_le_of_ne hi (fun e => ?_)
        rw [List.drop_of_length_le (by omega)] at hL
        cases hL
      have dc := List.drop_eq_getElem_cons hil
      rw [hL] at dc
      have ec : C.2[i]? = some c := by
        rw [List.getElem?_eq_getElem hil]
        injection dc with d1 d2
        rw [d1]
      have hL2 : C.2.drop (i + 1) = L := by
        injection dc with d1 d2
        exact d2.symm
      have hc64 := o3 c (List.mem_of_getElem? ec)
      obtain ⟨l1, l2, l3⟩ := ld_c ⟨c, hc64⟩
      obtain ⟨⟨S, G, Fo', Fc'⟩, ⟨ci, co, ba, na, lo, cn⟩, fi, la⟩ := u
      obtain ⟨g1, g2, g3, g4⟩ := hl
      obtain ⟨b1, b2, b3, b4, b5, b6, b7, b8⟩ := hb
      dsimp only at g1 g2 g3 g4 b1 b2 b3 b4 b5 b6 b7 b8 ⊢
      have hr : (ld_cell ((S, G, Fo', Fc'), (ci, co, ba, na, lo, cn), (fi, la)) c).bind (ldR L) = some t := hr
      have k7 : ∀ (u : ow_LD) (y1 : ow_MS) (x11 : Int32), ldR L u = some t → lds y1 h C.1 u → ldb (i + 1) u → fr (cL h) y y1 → Tt (fun K k => c_X7_load vl K k 7 (nI s) (nI (30 * s)) (nI u.2.1.2.2.1) (nI u.2.1.2.2.2.1) (nI u.2.1.2.2.2.2.1) (nI u.2.1.2.2.2.2.2) (oI u.2.2.1) (oI u.2.2.2) (nI i) x11 0 0 h g 0 0 y1) Q := by
        intro u y1 x11 h1 h2 h3 h9
        refine u_X7_load_7 ?_; unfold cm_X7_load_7
        rw [nI_1]
        exact ih (i + 1) u y1 hL2 (by omega) h1 h2 h3 h9
      refine u_X7_load_1 ?_; unfold cm_X7_load_1
      rw [nI_add]
      refine w_crI (tH_2 hg) rfl hs (slf hf).2.1 (w_leF (by omega) (by omega) (w_crI (tH_1 hg) rfl (by omega) ((slf hf).2.2 i c ec) (w_eqN (b := 0) (by omega) (by omega) (fun e0 => ?_) (fun e0 => ?_))))
      · have hr : ldR L (ld_zero S G Fo' Fc' ci co ba na lo cn fi la) = some t := by
          rw [ld_cell_eq, if_pos e0] at hr
          exact hr
        have k2 : ∀ (y1 : ow_MS) (x8 : Int32), cAt y1 h (C.1, (ld_zero S G Fo' Fc' ci co ba na lo cn fi la).2.1.1, (ld_zero S G Fo' Fc' ci co ba na lo cn fi la).1.1, G) → (∀ k, y1.2.1 (h + 4) k = Fo' k) → (∀ k, y1.2.1 (h + 5) k = Fc' k) → y1.1 (h + 10) = nI co → fr (cL h) y y1 → Tt (fun K k => c_X7_load vl K k 2 (nI s) (nI (30 * s)) (nI ba) (nI na) (nI lo) (nI cn) x8 (oI la) (nI i) (nI c) 0 0 h g 0 0 y1) Q := by
          intro y1 x8 g1 g2 g3 g4 hf
          have h7 := k7 (ld_zero S G Fo' Fc' ci co ba na lo cn fi la) (usF y1 (h + 10) (nI (co + 1))) (nI c) hr ⟨cAt_F (Or.inl rfl) g1, g2, g3, po_usF_at⟩ (by
            refine ⟨?_, ?_, ?_, b4, ?_, b6, (fun f hf => by cases hf), b8⟩
            · exact Nat.le_trans ld_zero_ci (by omega)
            · show co + 1 ≤ i + 1
              omega
            · show (if lo = 0 then na else ba) ≤ 12
              split
              · exact b4
              · exact b3
            · show lo ≤ i + 1
              omega) (fr_F2 hf (Or.inr (by omega)))
          have h3 : ∀ t0 : Int32, t0 = nI (if lo = 0 then na else ba) → Tt (fun K k => c_X7_load vl K k 3 (nI s) (nI (30 * s)) (nI ba) (nI na) (nI lo) (nI cn) (-1) (oI la) (nI i) (nI c) 0 0 h g t0 0 (usF y1 (h + 10) (nI (co + 1)))) Q := by
            intro t0 e9
            subst e9
            refine u_X7_load_3 ?_; unfold cm_X7_load_3
            exact h7
          refine u_X7_load_2 ?_; unfold cm_X7_load_2
          refine w_rdF g4 ?_
          rw [nI_1]
          refine w_wrF (w_eqN (b := 0) (by omega) (by omega) (fun e => h3 _ ?_) (fun e => h3 _ ?_))
          · rw [if_pos e]
          · rw [if_neg e]
        cases fi with
        | none =>
          refine w_ifT rfl (w_rdF g1.2.1 ?_)
          rw [nI_1]
          exact w_wrF (k2 _ _ (cAt_o g1) g2 g3 (rf_ot (by omega) g4) (fr_F2 hf (Or.inr (by omega))))
        | some f =>
          obtain ⟨f1, l, hl⟩ := b7 f rfl
          have hl24 := b8 l hl
          subst hl
          refine w_ifF (rn_neg1 (v := f) (by omega)) (w_cs0 (tc_link hh g1 hl24 f1) ?_)
          rintro y2 ⟨q1, q2⟩
          have q3 : ∀ q, q = h + 4 ∨ q = h + 5 ∨ q = h + 10 → ¬ cP h q := fun q hq h9 => by unfold cP at h9; omega
          exact k2 y2 _ q1 (fun k => by rw [(q2 _ (q3 _ (by omega))).2.1]; exact g2 k) (fun k => by rw [(q2 _ (q3 _ (by omega))).2.1]; exact g3 k) (by rw [(q2 _ (q3 _ (by omega))).1]; exact g4) (fr_tr hf (fr_mono (fun q hq => by unfold cP at hq; unfold cL; omega) q2))
      · rw [ld_cell_eq, if_neg e0] at hr
        by_cases hcd : 4 ≤ c ∧ ba + c / 4 - 1 < 12 ∧ cn < 24 ∧ (ba + c / 4 - 1 < na → 0 < lo)
        · rw [if_pos hcd] at hr
          obtain ⟨d1, d2, d3, d4⟩ := hcd
          dsimp only at l1 l2 l3
          rw [l1, nI_add, show nI (ba + c / 4) - 1 = nI (ba + c / 4 - 1) from pk_sub (b := 1) (by omega), nI_1 (ba + c / 4 - 1), nI_1 lo]
          generalize hx : ba + c / 4 - 1 = x at *
          have hr : ldR L (ld_visit S G Fo' Fc' ci co ba na lo cn fi la x (2 * x + c / 2 % 2) (if c % 2 = 0 then 1 else -1)) = some t := hr
          have hv24 : 2 * x + c / 2 % 2 < 24 := by omega
          have k5 : ∀ (y1 : ow_MS) (na' lo' : Nat), na' = (if x < na then na else x + 1) → lo' = (if x < na then lo - 1 else lo + 1) → cAt y1 h (C.1, ci, S, (if x < na then G else su G x (if c % 2 = 0 then 1 else -1))) → (∀ k, y1.2.1 (h + 4) k = Fo' k) → (∀ k, y1.2.1 (h + 5) k = Fc' k) → y1.1 (h + 10) = nI co → fr (cL h) y y1 → Tt (fun K k => c_X7_load vl K k 5 (nI s) (nI (30 * s)) (nI ba) (nI na') (nI lo') (nI cn) (oI fi) (oI la) (nI i) (nI c) (nI x) 0 h g 0 0 y1) Q := by
            intro y1 na' lo' ena elo g1 g2 g3 g4 hf
            have hbv : ldb (i + 1) (ld_visit S G Fo' Fc' ci co ba na lo cn fi la x (2 * x + c / 2 % 2) (if c % 2 = 0 then 1 else -1)) := by
              refine ⟨?_, ?_, b3, ?_, ?_, ?_, (fun f hf => ⟨?_, _, rfl⟩), (fun l hl => ?_)⟩
              · show ci ≤ i + 1
                omega
              · show co ≤ i + 1
                omega
              · show (if x < na then na else x + 1) ≤ 12
                split <;> omega
              · show (if x < na then lo - 1 else lo + 1) ≤ i + 1
                split <;> omega
              · show cn + 1 ≤ 24
                omega
              · have hf : some (fi.getD (2 * x + c / 2 % 2)) = some f := hf
                injection hf with hf
                rw [← hf]
                cases fi with
                | none => exact hv24
                | some f' => exact (b7 f' rfl).1
              · have hl : some (2 * x + c / 2 % 2) = some l := hl
                injection hl with hl
                omega
            generalize hv : 2 * x + c / 2 % 2 = v at *
            have k6 : ∀ (y1 : ow_MS), lds y1 h C.1 (ld_visit S G Fo' Fc' ci co ba na lo cn fi la x v (if c % 2 = 0 then 1 else -1)) → fr (cL h) y y1 → Tt (fun K k => c_X7_load vl K k 6 (nI s) (nI (30 * s)) (nI ba) (nI na') (nI lo') (nI (cn + 1)) (nI (fi.getD v)) (oI la) (nI i) (nI c) (nI x) (nI v) h g 0 0 y1) Q := by
              intro y1 h1 hf
              rw [ena, elo]
              refine u_X7_load_6 ?_; unfold cm_X7_load_6
              exact k7 (ld_visit S G Fo' Fc' ci co ba na lo cn fi la x v (if c % 2 = 0 then 1 else -1)) y1 _ hr h1 hbv hf
            refine u_X7_load_5 ?_; unfold cm_X7_load_5
            rw [l3, show (2 : Int32) * nI x = nI (2 * x) from pk_mul 2 x, nI_add, hv, nI_1 cn]
            have y2c : cAt (usI (usI y1 (h + 4) cn (nI v)) (h + 5) v (nI co)) h (C.1, ci, S, (if x < na then G else su G x (if c % 2 = 0 then 1 else -1))) := cAt_I (Or.inr (Or.inl rfl)) (cAt_I (Or.inl rfl) g1)
            have y24 : ∀ k, (usI (usI y1 (h + 4) cn (nI v)) (h + 5) v (nI co)).2.1 (h + 4) k = su Fo' cn (nI v) k := fun k => rd_ot (by omega) (rwC_su (F := Fo') g2 k)
            have y25 : ∀ k, (usI (usI y1 (h + 4) cn (nI v)) (h + 5) v (nI co)).2.1 (h + 5) k = su Fc' v (nI co) k := fun k => rwC_su (F := Fc') (y := usI y1 (h + 4) cn (nI v)) (fun k => rd_ot (by omega) (g3 k)) k
            have y2f : fr (cL h) y (usI (usI y1 (h + 4) cn (nI v)) (h + 5) v (nI co)) := fr_I2 (fr_I2 hf (Or.inl (by omega))) (Or.inl (by omega))
            refine w_ctI (nH_4 hh) rfl (by omega) (w_rdF (x := nI co) g4 (w_ctI (nH_5 hh) rfl hv24 ?_))
            cases fi with
            | none => exact w_ifT rfl (k6 _ ⟨y2c, y24, y25, g4⟩ y2f)
            | some f =>
              obtain ⟨f1, l, hl⟩ := b7 f rfl
              have hl24 := b8 l hl
              subst hl
              refine w_ifF (rn_neg1 (v := f) (by omega)) (w_cs0 (tc_link hh y2c hl24 hv24) ?_)
              rintro y3 ⟨q1, q2⟩
              have q3 : ∀ q, q = h + 4 ∨ q = h + 5 ∨ q = h + 10 → ¬ cP h q := fun q hq h9 => by unfold cP at h9; omega
              exact k6 y3 ⟨q1, fun k => by rw [(q2 _ (q3 _ (by omega))).2.1]; exact y24 k, fun k => by rw [(q2 _ (q3 _ (by omega))).2.1]; exact y25 k, by rw [(q2 _ (q3 _ (by omega))).1]; exact g4⟩ (fr_tr y2f (fr_mono (fun q hq => by unfold cP at hq; unfold cL; omega) q2))
          refine w_lt (by omega) (by omega) (fun hxn => ?_) (fun hxn => ?_)
          · rw [nI_m (d4 hxn)]
            exact k5 y1 na (lo - 1) (by rw [if_pos hxn]) (by rw [if_pos hxn]) (by rw [if_pos hxn]; exact g1) g2 g3 g4 hf
          · have k4 : ∀ w : Int32, w = (if c % 2 = 0 then 1 else -1) → Tt (fun K k => c_X7_load vl K k 4 (nI s) (nI (30 * s)) (nI ba) (nI (x + 1)) (nI (lo + 1)) (nI cn) (oI fi) (oI la) (nI i) (nI c) (nI x) 0 h g w (nI x) y1) Q := by
              intro w ew
              subst ew
              refine u_X7_load_4 ?_; unfold cm_X7_load_4
              refine w_ctI (nH_3 hh) rfl d2 (k5 _ (x + 1) (lo + 1) (by rw [if_neg (by omega)]) (by rw [if_neg (by omega)]) ?_ (fun k => rd_ot (by omega) (g2 k)) (fun k => rd_ot (by omega) (g3 k)) g4 (fr_I2 hf (Or.inl (by omega))))
              rw [if_neg (show ¬ x < na by omega)]
              obtain ⟨a, b, c', d, e⟩ := g1
              exact ⟨a, b, fun k => rd_ot (by omega) (c' k), fun k => rd_ot (by omega) (d k), fun k => rwC_su (F := G) e k⟩
            refine w_if (fun e1 => k4 _ ?_) (fun e1 => k4 _ ?_)
            · rw [if_pos (l2.mp e1)]
            · rw [if_neg (fun h9 => e1 (l2.mpr h9))]
        · rw [if_neg hcd] at hr
          cases hr
  refine e_X7_load ?_
  refine u_X7_load_0 ?_; unfold cm_X7_load_0
  rw [mul30]
  refine w_crI (tH_3 hg) rfl hs hC.1 (w_wrF (w_wrF (w_wrF ?_)))
  refine c1 C.2 0 (ld_init T.2.2.1 T.2.2.2 Fo Fc) _ (List.drop_zero) (by omega) ht ⟨cAt_F (Or.inl rfl) (cAt_o (o := 0) (cAt_c (o := C.1) hy)), h4, h5, po_usF_at⟩ ⟨Nat.le_refl _, Nat.le_refl _, by show 0 ≤ 12; omega, by show 0 ≤ 12; omega, Nat.le_refl _, by show 0 ≤ 24; omega, (fun f hf => by cases hf), (fun l hl => by cases hl)⟩ (fr_F2 (fr_F2 (fr_F2 fr_rf (Or.inr (by omega))) (Or.inr (by omega))) (Or.inr (by omega)))
end CL
end
section
/-! 99zzzzu.cface -/
/-! the class: sides and faces -/
def fH (f : Nat) : Prop := f = 6000 ∨ f = 18000 ∨ f = 19000
theorem fH_1 {vl : Nat → Nat} {f : Nat} (h : fH f) : ((cX vl).2 (f + 1)).2.1 = 48 := by
  rcases h with rfl | rfl | rfl <;> rfl
theorem sd_c : ∀ s : Fin 48, ((nI s.val &&& 1) = 0 ↔ s.val % 2 = 0) ∧ nI s.val >>> ((1 : Int32) &&& 31) = nI (s.val / 2) := by decide +kernel
section CF
variable {vl : Nat → Nat} {y : ow_MS} {h f : Nat} {T : ow_NT}
theorem e_X4_endOf {vl : Nat → Nat} {r0 : Nat} {x1 : Int32} {z : ow_MS} {Q : (Int32 × ow_MS) → Prop} (H : Tt (fun K _ => cm_X4_endOf_0 vl K x1 r0 z) Q) : Te (fun K => ce_X4_endOf vl K r0 x1 z) Q := w_te0 H
theorem tc_endOf {s : Nat} (hh : nH h) (hy : cAt y h T) (hs : s < 48) : Te (fun K => ce_X4_endOf vl K h (nI s) y) (fun r => r.1 = nI (fc_end T.2.2.1.1 s) ∧ r.2 = y) := by
  obtain ⟨l1, l2⟩ := sd_c ⟨s, hs⟩
  dsimp only at l1 l2
  refine e_X4_endOf ?_; unfold cm_X4_endOf_0
  rw [l2]
  unfold fc_end
  refine w_if (fun e => w_crI (nH_1 hh) rfl (by omega) (hy.2.2.1 _) (w_some ⟨?_, rfl⟩)) (fun e => w_some ⟨?_, rfl⟩)
  · rw [if_pos (l1.mp e)]
  · rw [if_neg (fun h9 => e (l1.mpr h9))]
theorem bd_eq {a b : Bool} : ((if a then (1 : Int32) else 0) = (if b then 1 else 0)) ↔ (a == b) = true := by
  cases a <;> cases b <;> decide
theorem u_X4_onward_5 {vl : Nat → Nat} {x1 : Int32} {x2 : Int32} {x3 : Int32} {x4 : Int32} {r0 : Nat} {t0 : Int32} {t1 : Int32} {z : ow_MS} {Q : (Int32 × ow_MS) → Prop} (H : Tt (fun K k => cm_X4_onward_5 vl K (c_X4_onward vl K k) x1 x2 x3 x4 r0 t0 t1 z) Q) : Tt (fun K k => c_X4_onward vl K k 5 x1 x2 x3 x4 r0 t0 t1 z) Q := w_un (fun _ _ => rfl) H
theorem u_X4_onward_4 {vl : Nat → Nat} {x1 : Int32} {x2 : Int32} {x3 : Int32} {x4 : Int32} {r0 : Nat} {t0 : Int32} {t1 : Int32} {z : ow_MS} {Q : (Int32 × ow_MS) → Prop} (H : Tt (fun K k => cm_X4_onward_4 vl K (c_X4_onward vl K k) x1 x2 x3 x4 r0 t0 t1 z) Q) : Tt (fun K k => c_X4_onward vl K k 4 x1 x2 x3 x4 r0 t0 t1 z) Q := w_un (fun _ _ => rfl) H
theorem u_X4_onward_3 {vl : Nat → Nat} {x1 : Int32} {x2 : Int32} {x3 : Int32} {x4 : Int32} {r0 : Nat} {t0 : Int32} {t1 : Int32} {z : ow_MS} {Q : (Int32 × ow_MS) → Prop} (H : Tt (fun K k => cm_X4_onward_3 vl K (c_X4_onward vl K k) x1 x2 x3 x4 r0 t0 t1 z) Q) : Tt (fun K k => c_X4_onward vl K k 3 x1 x2 x3 x4 r0 t0 t1 z) Q := w_un (fun _ _ => rfl) H
theorem u_X4_onward_2 {vl : Nat → Nat} {x1 : Int32} {x2 : Int32} {x3 : Int32} {x4 : Int32} {r0 : Nat} {t0 : Int32} {t1 : Int32} {z : ow_MS} {Q : (Int32 × ow_MS) → Prop} (H : Tt (fun K k => cm_X4_onward_2 vl K (c_X4_onward vl K k) x1 x2 x3 x4 r0 t0 t1 z) Q) : Tt (fun K k => c_X4_onward vl K k 2 x1 x2 x3 x4 r0 t0 t1 z) Q := w_un (fun _ _ => rfl) H
theorem e_X4_onward {vl : Nat → Nat} {r0 : Nat} {x1 : Int32} {z : ow_MS} {Q : (Int32 × ow_MS) → Prop} (H : Tt (fun K k => c_X4_onward vl K k 0 x1 0 0 0 r0 0 0 z) Q) : Te (fun K => ce_X4_onward vl K r0 x1 z) Q := w_te H
theorem u_X4_onward_0 {vl : Nat → Nat} {x1 : Int32} {x2 : Int32} {x3 : Int32} {x4 : Int32} {r0 : Nat} {t0 : Int32} {t1 : Int32} {z : ow_MS} {Q : (Int32 × ow_MS) → Prop} (H : Tt (fun K k => cm_X4_onward_0 vl K (c_X4_onward vl K k) x1 x2 x3 x4 r0 t0 t1 z) Q) : Tt (fun K k => c_X4_onward vl K k 0 x1 x2 x3 x4 r0 t0 t1 z) Q := w_un (fun _ _ => rfl) H
theorem u_X4_onward_1 {vl : Nat → Nat} {x1 : Int32} {x2 : Int32} {x3 : Int32} {x4 : Int32} {r0 : Nat} {t0 : Int32} {t1 : Int32} {z : ow_MS} {Q : (Int32 × ow_MS) → Prop} (H : Tt (fun K k => cm_X4_onward_1 vl K (c_X4_onward vl K k) x1 x2 x3 x4 r0 t0 t1 z) Q) : Tt (fun K k => c_X4_onward vl K k 1 x1 x2 x3 x4 r0 t0 t1 z) Q := w_un (fun _ _ => rfl) H
theorem tc_onward {s : Nat} (hh : nH h) (hy : cAt y h T) (hb : ow_b24 T.2.2.1) (hs : s < 48) : Te (fun K => ce_X4_onward vl K h (nI s) y) (fun r => r.1 = nI (fc_on T.2.2.1 T.2.2.2 s) ∧ r.2 = y) := by
  obtain ⟨l1, l2⟩ := sd_c ⟨s, hs⟩
  dsimp only at l1 l2
  let Q : Int32 × ow_MS → Prop := fun r => r.1 = nI (fc_on T.2.2.1 T.2.2.2 s) ∧ r.2 = y
  have hv24 : fc_end T.2.2.1.1 s < 24 := by
    unfold fc_end
    split
    · exact hb.1 _
    · omega
  have efc : fc_on T.2.2.1 T.2.2.2 s = if (decide (fc_end T.2.2.1.1 s % 2 = 0) == decide (0 < T.2.2.2 (fc_end T.2.2.1.1 s / 2))) == decide (s % 2 = 0) then 2 * mt (fc_end T.2.2.1.1 s) else 2 * T.2.2.1.2 (mt (fc_end T.2.2.1.1 s)) + 1 := rfl
  obtain ⟨m1, m2⟩ := sd_c ⟨fc_end T.2.2.1.1 s, by omega⟩
  have hx := xor1 ⟨fc_end T.2.2.1.1 s, hv24⟩
  have hm24 : mt (fc_end T.2.2.1.1 s) < 24 := mt_lt (c := 12) (by omega)
  dsimp only at m1 m2 hx
  generalize hve : fc_end T.2.2.1.1 s = v at *
  have k5 : ∀ t0 x2 : Int32, t0 = (if (decide (v % 2 = 0) == decide (0 < T.2.2.2 (v / 2))) then 1 else 0) → x2 = (if decide (s % 2 = 0) then 1 else 0) → Tt (fun K k => c_X4_onward vl K k 5 (nI s) x2 (nI v) (nI (mt v)) h t0 0 y) Q := by
    intro t0 x2 e1 e2
    subst e1
    subst e2
    refine u_X4_onward_5 ?_; unfold cm_X4_onward_5
    refine w_if (fun e => ?_) (fun e => w_crI (nH_2 hh) rfl hm24 (hy.2.2.2.1 _) ?_)
    · refine w_some ⟨?_, rfl⟩
      show (2 : Int32) * nI (mt v) = _
      rw [efc, if_pos (bd_eq.mp e), show (2 : Int32) * nI (mt v) = nI (2 * mt v) from pk_mul 2 _]
    · refine w_some ⟨?_, rfl⟩
      show (2 : Int32) * nI (T.2.2.1.2 (mt v)) + 1 = _
      rw [efc, if_neg (fun h9 => e (bd_eq.mpr h9)), show (2 : Int32) * nI (T.2.2.1.2 (mt v)) = nI (2 * T.2.2.1.2 (mt v)) from pk_mul 2 _, nI_1]
  have k4 : ∀ t0 t1 x2 : Int32, t1 = (if decide (v % 2 = 0) then 1 else 0) → t0 = (if decide (0 < T.2.2.2 (v / 2)) then 1 else 0) → x2 = (if decide (s % 2 = 0) then 1 else 0) → Tt (fun K k => c_X4_onward vl K k 4 (nI s) x2 (nI v) (nI (mt v)) h t0 t1 y) Q := by
    intro t0 t1 x2 e1 e0 e2
    subst e1
    subst e0
    refine u_X4_onward_4 ?_; unfold cm_X4_onward_4
    refine w_if (fun e => k5 _ _ ?_ e2) (fun e => k5 _ _ ?_ e2)
    · rw [if_pos (bd_eq.mp e)]
    · rw [if_neg (fun h9 => e (bd_eq.mpr h9))]
  have k3 : ∀ t0 x2 : Int32, t0 = (if decide (v % 2 = 0) then 1 else 0) → x2 = (if decide (s % 2 = 0) then 1 else 0) → Tt (fun K k => c_X4_onward vl K k 3 (nI s) x2 (nI v) (nI (mt v)) h t0 0 y) Q := by
    intro t0 x2 e1 e2
    refine u_X4_onward_3 ?_; unfold cm_X4_onward_3
    rw [m2]
    refine w_crI (nH_3 hh) rfl (by omega) (hy.2.2.2.2 _) (w_if (fun e => k4 _ _ _ e1 ?_ e2) (fun e => k4 _ _ _ e1 ?_ e2))
    · rw [decide_eq_false (Int32.not_lt.mpr e)]
      rfl
    · rw [decide_eq_true (Int32.not_le.mp e)]
      rfl
  have k2 : ∀ x2 : Int32, x2 = (if decide (s % 2 = 0) then 1 else 0) → Tt (fun K k => c_X4_onward vl K k 2 (nI s) x2 0 0 h (nI v) 0 y) Q := by
    intro x2 e2
    refine u_X4_onward_2 ?_; unfold cm_X4_onward_2
    rw [hx]
    refine w_if (fun e => k3 _ _ ?_ e2) (fun e => k3 _ _ ?_ e2)
    · rw [decide_eq_true (m1.mp e)]
      rfl
    · rw [decide_eq_false (fun h9 => e (m1.mpr h9))]
      rfl
  refine e_X4_onward ?_
  refine u_X4_onward_0 ?_; unfold cm_X4_onward_0
  refine w_if (fun e => ?_) (fun e => ?_)
  · refine u_X4_onward_1 ?_; unfold cm_X4_onward_1
    rw [l2]
    have hse := l1.mp e
    have : T.2.2.1.1 (s / 2) = v := by
      rw [← hve]
      unfold fc_end
      rw [if_pos hse]
    refine w_ifF (by decide) (w_crI (nH_1 hh) rfl (by omega) (hy.2.2.1 _) ?_)
    rw [this]
    exact k2 _ (by rw [decide_eq_true hse]; rfl)
  · refine u_X4_onward_1 ?_; unfold cm_X4_onward_1
    rw [l2]
    have hse : ¬ s % 2 = 0 := fun h9 => e (l1.mpr h9)
    have : s / 2 = v := by
      rw [← hve]
      unfold fc_end
      rw [if_neg hse]
    refine w_ifT rfl ?_
    rw [this]
    exact k2 _ (by rw [decide_eq_false hse]; rfl)
end CF
end
section
/-! 99zzzzv.cplane -/
/-! the class: faces marked, isPlane -/
def cF (f q : Nat) : Prop := q = f + 1 ∨ q = f + 2
section CP
variable {vl : Nat → Nat} {y : ow_MS} {h f : Nat} {T : ow_NT}
theorem u_X4_mark_1 {vl : Nat → Nat} {x2 : Int32} {x3 : Int32} {x4 : Int32} {x5 : Int32} {r0 : Nat} {r1 : Nat} {z : ow_MS} {Q : ow_MS → Prop} (H : Tt (fun K k => cm_X4_mark_1 vl K (c_X4_mark vl K k) x2 x3 x4 x5 r0 r1 z) Q) : Tt (fun K k => c_X4_mark vl K k 1 x2 x3 x4 x5 r0 r1 z) Q := w_un (fun _ _ => rfl) H
theorem u_X4_mark_4 {vl : Nat → Nat} {x2 : Int32} {x3 : Int32} {x4 : Int32} {x5 : Int32} {r0 : Nat} {r1 : Nat} {z : ow_MS} {Q : ow_MS → Prop} (H : Tt (fun K k => cm_X4_mark_4 vl K (c_X4_mark vl K k) x2 x3 x4 x5 r0 r1 z) Q) : Tt (fun K k => c_X4_mark vl K k 4 x2 x3 x4 x5 r0 r1 z) Q := w_un (fun _ _ => rfl) H
theorem u_X4_mark_3 {vl : Nat → Nat} {x2 : Int32} {x3 : Int32} {x4 : Int32} {x5 : Int32} {r0 : Nat} {r1 : Nat} {z : ow_MS} {Q : ow_MS → Prop} (H : Tt (fun K k => cm_X4_mark_3 vl K (c_X4_mark vl K k) x2 x3 x4 x5 r0 r1 z) Q) : Tt (fun K k => c_X4_mark vl K k 3 x2 x3 x4 x5 r0 r1 z) Q := w_un (fun _ _ => rfl) H
theorem u_X4_mark_2 {vl : Nat → Nat} {x2 : Int32} {x3 : Int32} {x4 : Int32} {x5 : Int32} {r0 : Nat} {r1 : Nat} {z : ow_MS} {Q : ow_MS → Prop} (H : Tt (fun K k => cm_X4_mark_2 vl K (c_X4_mark vl K k) x2 x3 x4 x5 r0 r1 z) Q) : Tt (fun K k => c_X4_mark vl K k 2 x2 x3 x4 x5 r0 r1 z) Q := w_un (fun _ _ => rfl) H
theorem e_X4_mark {vl : Nat → Nat} {r0 : Nat} {r1 : Nat} {z : ow_MS} {Q : ow_MS → Prop} (H : Tt (fun K k => c_X4_mark vl K k 0 0 0 0 0 r0 r1 z) Q) : Te (fun K => ce_X4_mark vl K r0 r1 z) Q := w_te H
theorem u_X4_mark_0 {vl : Nat → Nat} {x2 : Int32} {x3 : Int32} {x4 : Int32} {x5 : Int32} {r0 : Nat} {r1 : Nat} {z : ow_MS} {Q : ow_MS → Prop} (H : Tt (fun K k => cm_X4_mark_0 vl K (c_X4_mark vl K k) x2 x3 x4 x5 r0 r1 z) Q) : Tt (fun K k => c_X4_mark vl K k 0 x2 x3 x4 x5 r0 r1 z) Q := w_un (fun _ _ => rfl) H
theorem tc_faces (hh : nH h) (hF : fH f) (hd : h + 12 ≤ f ∨ f + 9 ≤ h) (hy : cAt y h T) (hb : ow_b24 T.2.2.1) (hv : vn T.1 T.2.2.1) (hT : T.1 ≤ 12) : Te (fun K => ce_X4_mark vl K f h y) (fun y1 => rwC y1 (f + 1) (mr_out (fc_on T.2.2.1 T.2.2.2) (4 * T.1) (np_fill (y.2.1 (f + 1)) 0 (4 * T.1) (-1)) (4 * T.1)).1 ∧ y1.1 (f + 2) = nI (mr_out (fc_on T.2.2.1 T.2.2.2) (4 * T.1) (np_fill (y.2.1 (f + 1)) 0 (4 * T.1) (-1)) (4 * T.1)).2 ∧ fr (cF f) y y1) := by
  generalize hF0 : np_fill (y.2.1 (f + 1)) 0 (4 * T.1) (-1) = F0
  let N := fc_on T.2.2.1 T.2.2.2
  generalize hvv : 4 * T.1 = vs at *
  let Q : ow_MS → Prop := fun y1 => rwC y1 (f + 1) (mr_out N vs F0 vs).1 ∧ y1.1 (f + 2) = nI (mr_out N vs F0 vs).2 ∧ fr (cF f) y y1
  have hvs : vs ≤ 48 := by omega
  have hNv : ∀ k, k < vs → N k < vs := fun k hk => by rw [← hvv]; exact fc_on_vn hv _ (by omega)
  have cAy : ∀ {y1 : ow_MS}, fr (cF f) y y1 → cAt y1 h T := fun hf => cAt_fr hf (fun q hq hr => by unfold cP at hq; unfold cF at hr; omega) hy
  have c1 : ∀ (d s : Nat) (y1 : ow_MS), s + d = vs → rwC y1 (f + 1) (mr_out N vs F0 s).1 → y1.1 (f + 2) = nI (mr_out N vs F0 s).2 → fr (cF f) y y1 → Tt (fun K t => c_X4_mark vl K t 1 (nI vs) (nI s) 0 0 f h y1) Q := by
    intro d
    induction d with
    | zero =>
      intro s y1 hs h1 h2 hf
      have e : s = vs := by omega
      rw [e] at h1 h2
      refine u_X4_mark_1 ?_; unfold cm_X4_mark_1
      exact w_leT (by omega) (by omega) (w_some ⟨h1, h2, hf⟩)
    | succ d ih =>
      intro s y1 hs h1 h2 hf
      have hle := mr_out_le N vs F0 s
      have eo : mr_out N vs F0 (s + 1) = if (mr_out N vs F0 s).1 s = -1 then (mr_in N (nI (mr_out N vs F0 s).2) vs (mr_out N vs F0 s).1 s, (mr_out N vs F0 s).2 + 1) else mr_out N vs F0 s := rfl
      have k4 : ∀ (y1 : ow_MS), rwC y1 (f + 1) (mr_out N vs F0 (s + 1)).1 → y1.1 (f + 2) = nI (mr_out N vs F0 (s + 1)).2 → fr (cF f) y y1 → Tt (fun K t => c_X4_mark vl K t 4 (nI vs) (nI s) 0 0 f h y1) Q := by
        intro y1 h1 h2 hf
        refine u_X4_mark_4 ?_; unfold cm_X4_mark_4
        rw [nI_1]
        exact ih (s + 1) y1 (by omega) h1 h2 hf
      refine u_X4_mark_1 ?_; unfold cm_X4_mark_1
      refine w_leF (by omega) (by omega) (w_crI (fH_1 hF) rfl (by omega) (h1 s) (w_if (fun e => ?_) (fun e => ?_)))
      · rw [if_pos e] at eo
        generalize (mr_out N vs F0 s).2 = q at *
        have k3 : ∀ (x3 x4 : Int32) (y1 : ow_MS), rwC y1 (f + 1) (mr_out N vs F0 (s + 1)).1 → y1.1 (f + 2) = nI q → fr (cF f) y y1 → Tt (fun K t => c_X4_mark vl K t 3 (nI vs) (nI s) x3 x4 f h y1) Q := by
          intro x3 x4 y1 h1 h2 hf
          refine u_X4_mark_3 ?_; unfold cm_X4_mark_3
          refine w_rdF h2 ?_
          rw [nI_1]
          refine w_wrF (k4 _ h1 ?_ (fr_F2 hf (Or.inr rfl)))
          rw [eo]
          exact po_usF_at
        have c2 : ∀ (e i v : Nat) (F : Nat → Int32) (y1 : ow_MS), i + e = vs → v < vs → rwC y1 (f + 1) F → y1.1 (f + 2) = nI q → fr (cF f) y y1 → mr_in N (nI q) e F v = (mr_out N vs F0 (s + 1)).1 → Tt (fun K t => c_X4_mark vl K t 2 (nI vs) (nI s) (nI v) (nI i) f h y1) Q := by
          intro e
          induction e with
          | zero =>
            intro i v F y1 hi hv h1 h2 hf hm
            have hm : F = _ := hm
            refine u_X4_mark_2 ?_; unfold cm_X4_mark_2
            exact w_leT (by omega) (by omega) (k3 _ _ y1 (by rw [← hm]; exact h1) h2 hf)
          | succ e ihe =>
            intro i v F y1 hi hv h1 h2 hf hm
            have hm : (if F v = -1 then mr_in N (nI q) e (su F v (nI q)) (N v) else F) = _ := hm
            refine u_X4_mark_2 ?_; unfold cm_X4_mark_2
            refine w_leF (by omega) (by omega) (w_crI (fH_1 hF) rfl (by omega) (h1 v) (w_if (fun e1 => ?_) (fun e1 => ?_)))
            · rw [if_pos e1] at hm
              have hf2 : fr (cF f) y (usI y1 (f + 1) v (nI q)) := fr_I2 hf (Or.inl rfl)
              refine w_rdF h2 (w_ctI (fH_1 hF) rfl (by omega) (w_cs1 (tc_onward hh (cAy hf2) hb (show v < 48 by omega)) ?_))
              rintro a y2 ⟨r1, r2⟩
              dsimp only at r1 r2
              subst r1
              subst r2
              rw [nI_1]
              exact ihe (i + 1) _ _ _ (by omega) (hNv v hv) (rwC_su h1) h2 hf2 hm
            · rw [if_neg e1] at hm
              exact k3 _ _ y1 (by rw [← hm]; exact h1) h2 hf
        exact c2 vs 0 s _ y1 (by omega) (by omega) h1 h2 hf (by rw [eo])
      · rw [if_neg e] at eo
        refine k4 y1 ?_ ?_ hf
        · rw [eo]
          exact h1
        · rw [eo]
          exact h2
  refine e_X4_mark ?_
  refine u_X4_mark_0 ?_; unfold cm_X4_mark_0
  refine w_rdF hy.1 ?_
  rw [show (4 : Int32) * nI T.1 = nI (4 * T.1) from pk_mul 4 _, hvv]
  refine w_cs0 (tc_fill (a := 0) (fH_1 hF) (by omega) hvs (by omega)) ?_
  rintro y1 ⟨h1, f1⟩
  refine w_wrF (c1 vs 0 _ (by omega) (fun k => ?_) po_usF_at (fr_F2 (fr_mono (fun g hg => Or.inl hg) f1) (Or.inr rfl)))
  rw [← hF0]
  exact h1 k
theorem e_X4_isPlane {vl : Nat → Nat} {r0 : Nat} {r1 : Nat} {z : ow_MS} {Q : (Int32 × ow_MS) → Prop} (H : Tt (fun K _ => cm_X4_isPlane_0 vl K r0 r1 z) Q) : Te (fun K => ce_X4_isPlane vl K r0 r1 z) Q := w_te0 H
theorem tc_isPlane (hh : nH h) (hF : fH f) (hd : h + 12 ≤ f ∨ f + 9 ≤ h) (hy : cAt y h T) (hb : ow_b24 T.2.2.1) (hv : vn T.1 T.2.2.1) (hT : T.1 ≤ 12) : Te (fun K => ce_X4_isPlane vl K f h y) (fun r => (∃ a b : Nat, a ≤ 48 ∧ b ≤ 24 ∧ a = (mr_out (fc_on T.2.2.1 T.2.2.2) (4 * T.1) (np_fill (y.2.1 (f + 1)) 0 (4 * T.1) (-1)) (4 * T.1)).2 ∧ b = (mp_out T.2.2.1.1 (2 * T.1) (np_fill (y.2.1 (h + 6)) 0 (2 * T.1) (-1)) (2 * T.1)).2 ∧ r.1 = (if a = T.1 + 2 * b then 1 else 0)) ∧ fr (fun q => cQ h q ∨ cF f q) y r.2) := by
  refine e_X4_isPlane ?_; unfold cm_X4_isPlane_0
  refine w_cs0 (tc_markParts hh hy (fun k hk => (hv k hk).1) hT) ?_
  rintro y1 ⟨p1, p2, p3⟩
  have hy1 : cAt y1 h T := cAt_fr p3 (fun q hq hr => by unfold cP at hq; unfold cQ at hr; omega) hy
  have e1 : y1.2.1 (f + 1) = y.2.1 (f + 1) := (p3 _ (fun h9 => by unfold cQ at h9; omega)).2.1
  refine w_cs0 (tc_faces hh hF hd hy1 hb hv hT) ?_
  rintro y2 ⟨q1, q2, q3⟩
  rw [e1] at q2
  have hb1 := mr_out_le (fc_on T.2.2.1 T.2.2.2) (4 * T.1) (np_fill (y.2.1 (f + 1)) 0 (4 * T.1) (-1)) (4 * T.1)
  have hb2 := mp_out_le T.2.2.1.1 (2 * T.1) (np_fill (y.2.1 (h + 6)) 0 (2 * T.1) (-1)) (2 * T.1)
  have hy2 : cAt y2 h T := cAt_fr q3 (fun q hq hr => by unfold cP at hq; unfold cF at hr; omega) hy1
  have e11 : y2.1 (h + 11) = nI (mp_out T.2.2.1.1 (2 * T.1) (np_fill (y.2.1 (h + 6)) 0 (2 * T.1) (-1)) (2 * T.1)).2 := by
    rw [(q3 _ (fun h9 => by unfold cF at h9; omega)).1]
    exact p2
  have hf : fr (fun q => cQ h q ∨ cF f q) y y2 := fr_tr (fr_mono (fun q hq => Or.inl hq) p3) (fr_mono (fun q hq => Or.inr hq) q3)
  generalize ea : (mr_out (fc_on T.2.2.1 T.2.2.2) (4 * T.1) (np_fill (y.2.1 (f + 1)) 0 (4 * T.1) (-1)) (4 * T.1)).2 = a at *
  generalize eb : (mp_out T.2.2.1.1 (2 * T.1) (np_fill (y.2.1 (h + 6)) 0 (2 * T.1) (-1)) (2 * T.1)).2 = b at *
  refine w_rdF q2 (w_rdF hy2.1 (w_rdF e11 ?_))
  rw [show (2 : Int32) * nI b = nI (2 * b) from pk_mul 2 _, nI_add]
  refine w_eqN (by omega) (by omega) (fun e => w_okZ (Or.inr rfl) (w_some ⟨⟨a, b, by omega, by omega, rfl, rfl, ?_⟩, hf⟩)) (fun e => w_okZ (Or.inl rfl) (w_some ⟨⟨a, b, by omega, by omega, rfl, rfl, ?_⟩, hf⟩))
  · rw [if_pos e]
  · rw [if_neg e]
end CP
end
section
/-! 99zzzzw.cpart -/
/-! the class: append, partOnce, partAll -/
def np_app (N M : Nat → Nat) (o n : Nat) : Nat → Nat := fun k => if o ≤ k ∧ k < o + n then o + M (k - o) else N k
theorem app_0 {N M : Nat → Nat} {o k : Nat} : np_app N M o 0 k = N k := by
  unfold np_app
  rw [if_neg (by omega)]
section CA
variable {vl : Nat → Nat} {y : ow_MS} {h g : Nat} {T R : ow_NT}
theorem app_st {F : Nat → Int32} {N M : Nat → Nat} {o n : Nat} {y : ow_MS} {q : Nat} (hF : ∀ k, y.2.1 q k = nI (np_app N M o n k)) : ∀ k, (usI y q (o + n) (nI (o + M n))).2.1 q k = nI (np_app N M o (n + 1) k) := by
  intro k
  by_cases e : k = o + n
  · rw [e]
    unfold np_app
    rw [if_pos (by omega), show o + n - o = n by omega]
    exact po_usI_at
  · refine rd_ne e ((hF k).trans ?_)
    unfold np_app
    by_cases h1 : o ≤ k ∧ k < o + n
    · rw [if_pos h1, if_pos (by omega)]
    · rw [if_neg h1, if_neg (by omega)]
theorem u_X7_append_1 {vl : Nat → Nat} {x2 : Int32} {x3 : Int32} {r0 : Nat} {r1 : Nat} {z : ow_MS} {Q : ow_MS → Prop} (H : Tt (fun K k => cm_X7_append_1 vl K (c_X7_append vl K k) x2 x3 r0 r1 z) Q) : Tt (fun K k => c_X7_append vl K k 1 x2 x3 r0 r1 z) Q := w_un (fun _ _ => rfl) H
theorem e_X7_append {vl : Nat → Nat} {r0 : Nat} {r1 : Nat} {z : ow_MS} {Q : ow_MS → Prop} (H : Tt (fun K k => c_X7_append vl K k 0 0 0 r0 r1 z) Q) : Te (fun K => ce_X7_append vl K r0 r1 z) Q := w_te H
theorem u_X7_append_0 {vl : Nat → Nat} {x2 : Int32} {x3 : Int32} {r0 : Nat} {r1 : Nat} {z : ow_MS} {Q : ow_MS → Prop} (H : Tt (fun K k => cm_X7_append_0 vl K (c_X7_append vl K k) x2 x3 r0 r1 z) Q) : Tt (fun K k => c_X7_append vl K k 0 x2 x3 r0 r1 z) Q := w_un (fun _ _ => rfl) H
theorem tc_append (hh : nH h) (hg : nH g) (hd : nDj h g) (hy : cAt y h T) (hr : cAt y g R) (hT : T.1 + R.1 ≤ 12) : Te (fun K => ce_X7_append vl K h g y) (fun y1 => cAt y1 h (T.1 + R.1, T.2.1 + R.2.1, (np_app T.2.2.1.1 R.2.2.1.1 (2 * T.1) (2 * R.1), np_app T.2.2.1.2 R.2.2.1.2 (2 * T.1) (2 * R.1)), va_cpy R.2.2.2 T.2.2.2 0 T.1 R.1) ∧ fr (cP h) y y1) := by
  unfold nDj at hd
  let Q : ow_MS → Prop := fun y1 => cAt y1 h (T.1 + R.1, T.2.1 + R.2.1, (np_app T.2.2.1.1 R.2.2.1.1 (2 * T.1) (2 * R.1), np_app T.2.2.1.2 R.2.2.1.2 (2 * T.1) (2 * R.1)), va_cpy R.2.2.2 T.2.2.2 0 T.1 R.1) ∧ fr (cP h) y y1
  have gR : ∀ {y1 : ow_MS}, fr (cP h) y y1 → cAt y1 g R := fun hf => cAt_fr hf (fun q hq hr => by unfold cP at hq hr; omega) hr
  have c1 : ∀ (d i : Nat) (y1 : ow_MS), i + d = 2 * R.1 → cAt y1 h (T.1, T.2.1, (np_app T.2.2.1.1 R.2.2.1.1 (2 * T.1) i, np_app T.2.2.1.2 R.2.2.1.2 (2 * T.1) i), T.2.2.2) → fr (cP h) y y1 → Tt (fun K t => c_X7_append vl K t 1 (nI (2 * T.1)) (nI i) h g y1) Q := by
    intro d
    induction d with
    | zero =>
      intro i y1 hi h1 hf
      have ei : i = 2 * R.1 := by omega
      subst ei
      obtain ⟨a, b, c, d, e⟩ := h1
      obtain ⟨a', b', c', d', e'⟩ := gR hf
      refine u_X7_append_1 ?_; unfold cm_X7_append_1
      refine w_rdF a' ?_
      rw [show (2 : Int32) * nI R.1 = nI (2 * R.1) from pk_mul 2 _]
      refine w_leT (by omega) (by omega) (w_rdF (x := nI T.1) a (w_rdF a' (w_cpI (a := 0) (nH_3 hg) (nH_3 hh) rfl rfl rfl (by omega) (by omega) (w_rdF (x := nI T.1) a (w_rdF (x := nI R.1) a' ?_)))))
      rw [nI_add]
      refine w_wrF (w_rdF (x := nI T.2.1) (rf_ot (by omega) b) (w_rdF (x := nI R.2.1) (rf_ot (by omega) b') ?_))
      rw [nI_add]
      refine w_wrF (w_some ⟨⟨rf_ot (by omega) po_usF_at, po_usF_at, fun k => ?_, fun k => ?_, fun k => ?_⟩, fr_F2 (fr_F2 (fr_R2 hf (Or.inl (by omega))) (Or.inr (Or.inl rfl))) (Or.inr (Or.inr rfl))⟩)
      · show (usR y1 (h + 3) _).2.1 (h + 1) k = _
        rw [usR_ot (by omega)]
        exact c k
      · show (usR y1 (h + 3) _).2.1 (h + 2) k = _
        rw [usR_ot (by omega)]
        exact d k
      · show (usR y1 (h + 3) _).2.1 (h + 3) k = _
        rw [usR_at]
        exact cpy_eq e' e
    | succ d ih =>
      intro i y1 hi h1 hf
      obtain ⟨a, b, c, d9, e⟩ := h1
      obtain ⟨a', b', c', d', e'⟩ := gR hf
      refine u_X7_append_1 ?_; unfold cm_X7_append_1
      refine w_rdF a' ?_
      rw [show (2 : Int32) * nI R.1 = nI (2 * R.1) from pk_mul 2 _, nI_add (2 * T.1) i, nI_1]
      refine w_leF (by omega) (by omega) (w_crI (nH_1 hg) rfl (by omega) (c' i) ?_)
      rw [nI_add]
      refine w_ctI (nH_1 hh) rfl (by omega) (w_crI (nH_2 hg) rfl (by omega) (rd_ot (by omega) (d' i)) ?_)
      rw [nI_add]
      exact w_ctI (nH_2 hh) rfl (by omega) (ih (i + 1) _ (by omega) ⟨a, b, fun k => rd_ot (by omega) (app_st (F := fun _ => 0) c k), app_st (F := fun _ => 0) (fun k => rd_ot (by omega) (d9 k)), fun k => rd_ot (by omega) (rd_ot (by omega) (e k))⟩ (fr_I2 (fr_I2 hf (Or.inl (by omega))) (Or.inl (by omega))))
  refine e_X7_append ?_
  refine u_X7_append_0 ?_; unfold cm_X7_append_0
  refine w_rdF hy.1 ?_
  rw [show (2 : Int32) * nI T.1 = nI (2 * T.1) from pk_mul 2 _]
  obtain ⟨a, b, c, d, e⟩ := hy
  refine c1 (2 * R.1) 0 y (by omega) ⟨a, b, fun k => ?_, fun k => ?_, e⟩ fr_rf
  · show _ = nI (np_app _ _ _ 0 k)
    rw [app_0]
    exact c k
  · show _ = nI (np_app _ _ _ 0 k)
    rw [app_0]
    exact d k
end CA
end
section
/-! 99zzzzx.conce -/
/-! the class: partOnce, partAll -/
def po_w (P : Nat → Bool) : Nat → Nat → Option Nat
  | 0, _ => none
  | d + 1, w => if P w then some w else po_w P d (w + 1)
def po_in (P : Nat → Nat → Bool) (n d1 v : Nat) (nx : Nat → Option (Nat × Nat)) (q : Option Nat) : Option (Nat × Nat) := match q with
  | some w => some (v, w)
  | none => nx (v + 1)
def po_v (P : Nat → Nat → Bool) (n : Nat) : Nat → Nat → Option (Nat × Nat)
  | 0, _ => none
  | d + 1, v => po_in P n d v (po_v P n d) (po_w (P v) (n - (v + 1)) (v + 1))
def po_P (c : Nat) (S : ow_NP) (v w : Nat) : Bool := decide ((np_rings c S.1).1 v = (np_rings c S.1).1 w ∧ (np_parts c S.1).2 < (np_parts c (np_exchange S v w).1).2)
/-- the first two visits whose exchange parts a part -/
def np_once (c : Nat) (S : ow_NP) : Option (Nat × Nat) := po_v (po_P c S) (2 * c) (2 * c) 0
def np_onceS (S : ow_NP) (q : Option (Nat × Nat)) : ow_NP := match q with
  | none => S
  | some q => np_exchange S q.1 q.2
def cO (h q : Nat) : Prop := cP h q ∨ cR h q ∨ cQ h q
section CO
variable {vl : Nat → Nat} {y : ow_MS} {h : Nat} {T : ow_NT}
theorem u_X7_partOnce_1 {vl : Nat → Nat} {x1 : Int32} {x2 : Int32} {x3 : Int32} {r0 : Nat} {z : ow_MS} {Q : (Int32 × ow_MS) → Prop} (H : Tt (fun K k => cm_X7_partOnce_1 vl K (c_X7_partOnce vl K k) x1 x2 x3 r0 z) Q) : Tt (fun K k => c_X7_partOnce vl K k 1 x1 x2 x3 r0 z) Q := w_un (fun _ _ => rfl) H
theorem u_X7_partOnce_2 {vl : Nat → Nat} {x1 : Int32} {x2 : Int32} {x3 : Int32} {r0 : Nat} {z : ow_MS} {Q : (Int32 × ow_MS) → Prop} (H : Tt (fun K k => cm_X7_partOnce_2 vl K (c_X7_partOnce vl K k) x1 x2 x3 r0 z) Q) : Tt (fun K k => c_X7_partOnce vl K k 2 x1 x2 x3 r0 z) Q := w_un (fun _ _ => rfl) H
theorem u_X7_partOnce_3 {vl : Nat → Nat} {x1 : Int32} {x2 : Int32} {x3 : Int32} {r0 : Nat} {z : ow_MS} {Q : (Int32 × ow_MS) → Prop} (H : Tt (fun K k => cm_X7_partOnce_3 vl K (c_X7_partOnce vl K k) x1 x2 x3 r0 z) Q) : Tt (fun K k => c_X7_partOnce vl K k 3 x1 x2 x3 r0 z) Q := w_un (fun _ _ => rfl) H
theorem e_X7_partOnce {vl : Nat → Nat} {r0 : Nat} {z : ow_MS} {Q : (Int32 × ow_MS) → Prop} (H : Tt (fun K k => c_X7_partOnce vl K k 0 0 0 0 r0 z) Q) : Te (fun K => ce_X7_partOnce vl K r0 z) Q := w_te H
theorem u_X7_partOnce_0 {vl : Nat → Nat} {x1 : Int32} {x2 : Int32} {x3 : Int32} {r0 : Nat} {z : ow_MS} {Q : (Int32 × ow_MS) → Prop} (H : Tt (fun K k => cm_X7_partOnce_0 vl K (c_X7_partOnce vl K k) x1 x2 x3 r0 z) Q) : Tt (fun K k => c_X7_partOnce vl K k 0 x1 x2 x3 r0 z) Q := w_un (fun _ _ => rfl) H
theorem tc_partOnce (hh : nH h) (hy : cAt y h T) (hb : ow_b24 T.2.2.1) (hv : vn T.1 T.2.2.1) (hT : T.1 ≤ 12) : Te (fun K => ce_X7_partOnce vl K h y) (fun r => r.1 = (if (np_once T.1 T.2.2.1).isSome then 1 else 0) ∧ cAt r.2 h (ntS T (np_onceS T.2.2.1 (np_once T.1 T.2.2.1))) ∧ fr (cO h) y r.2) := by
  generalize hA : np_once T.1 T.2.2.1 = A
  let Q : Int32 × ow_MS → Prop := fun r => r.1 = (if A.isSome then 1 else 0) ∧ cAt r.2 h (ntS T (np_onceS T.2.2.1 A)) ∧ fr (cO h) y r.2
  have hN : ∀ k, k < 2 * T.1 → T.2.2.1.1 k < 2 * T.1 := fun k hk => (hv k hk).1
  have hpb : ∀ N, (np_parts T.1 N).2 ≤ 24 := fun N => by
    have := mp_out_le N (2 * T.1) (fun _ => -1) (2 * T.1)
    unfold np_parts
    omega
  have hp0 := hpb T.2.2.1.1
  have k1 : ∀ (d v : Nat) (y1 : ow_MS), v + d = 2 * T.1 → po_v (po_P T.1 T.2.2.1) (2 * T.1) d v = A → cAt y1 h T → rl (2 * T.1) (y1.2.1 (h + 5)) (np_rings T.1 T.2.2.1.1).1 → fr (cO h) y y1 → Tt (fun K t => c_X7_partOnce vl K t 1 (nI (np_parts T.1 T.2.2.1.1).2) (nI v) 0 h y1) Q := by
    intro d
    induction d with
    | zero =>
      intro v y1 hd hP h1 h5 hf
      have hP : none = A := hP
      subst hP
      refine u_X7_partOnce_1 ?_; unfold cm_X7_partOnce_1
      refine w_rdF h1.1 ?_
      rw [show (2 : Int32) * nI T.1 = nI (2 * T.1) from pk_mul 2 _]
      exact w_leT (by omega) (by omega) (w_okZ (Or.inl rfl) (w_some ⟨rfl, h1, hf⟩))
    | succ d ih =>
      intro v y1 hd hP h1 h5 hf
      have hP : po_in (po_P T.1 T.2.2.1) (2 * T.1) d v (po_v (po_P T.1 T.2.2.1) (2 * T.1) d) (po_w (po_P T.1 T.2.2.1 v) (2 * T.1 - (v + 1)) (v + 1)) = A := hP
      have k2 : ∀ (e w : Nat) (y1 : ow_MS), w + e = 2 * T.1 → po_in (po_P T.1 T.2.2.1) (2 * T.1) d v (po_v (po_P T.1 T.2.2.1) (2 * T.1) d) (po_w (po_P T.1 T.2.2.1 v) e w) = A → cAt y1 h T → rl (2 * T.1) (y1.2.1 (h + 5)) (np_rings T.1 T.2.2.1.1).1 → fr (cO h) y y1 → Tt (fun K t => c_X7_partOnce vl K t 2 (nI (np_parts T.1 T.2.2.1.1).2) (nI v) (nI w) h y1) Q := by
        intro e
        induction e with
        | zero =>
          intro w y1 hw hP h1 h5 hf
          refine u_X7_partOnce_2 ?_; unfold cm_X7_partOnce_2
          refine w_rdF h1.1 ?_
          rw [show (2 : Int32) * nI T.1 = nI (2 * T.1) from pk_mul 2 _, nI_1 v]
          exact w_leT (by omega) (by omega) (ih (v + 1) y1 (by omega) hP h1 h5 hf)
        | succ e ihe =>
          intro w y1 hw hP h1 h5 hf
          have hP : po_in (po_P T.1 T.2.2.1) (2 * T.1) d v (po_v (po_P T.1 T.2.2.1) (2 * T.1) d) (if po_P T.1 T.2.2.1 v w then some w else po_w (po_P T.1 T.2.2.1 v) e (w + 1)) = A := hP
          have k3 : ∀ (y1 : ow_MS), po_P T.1 T.2.2.1 v w = false → cAt y1 h T → rl (2 * T.1) (y1.2.1 (h + 5)) (np_rings T.1 T.2.2.1.1).1 → fr (cO h) y y1 → Tt (fun K t => c_X7_partOnce vl K t 3 (nI (np_parts T.1 T.2.2.1.1).2) (nI v) (nI w) h y1) Q := by
            intro y1 hpw h1 h5 hf
            rw [hpw] at hP
            refine u_X7_partOnce_3 ?_; unfold cm_X7_partOnce_3
            rw [nI_1]
            exact ihe (w + 1) y1 (by omega) hP h1 h5 hf
          have hv2 : v < 2 * T.1 := by omega
          have hw2 : w < 2 * T.1 := by omega
          refine u_X7_partOnce_2 ?_; unfold cm_X7_partOnce_2
          refine w_rdF h1.1 ?_
          rw [show (2 : Int32) * nI T.1 = nI (2 * T.1) from pk_mul 2 _]
          refine w_leF (by omega) (by omega) (w_crI (nH_5 hh) rfl (by omega) (h5 v hv2) (w_crI (nH_5 hh) rfl (by omega) (h5 w hw2) (w_if (fun em => ?_) (fun em => ?_))))
          · refine w_cs0 (tc_exchange hh h1 hb (show v < 24 by omega) (show w < 24 by omega)) ?_
            rintro y2 ⟨q1, q2⟩
            have hv' := vn_exchange hv hv2 hw2
            have hb' := b24_exchange hb (show v < 24 by omega) (show w < 24 by omega)
            refine w_cs0 (tc_markParts hh q1 (fun k hk => (hv' k hk).1) hT) ?_
            rintro y3 ⟨r1, r2, r3⟩
            have hpo := (np_parts_of (N := (np_exchange T.2.2.1 v w).1) (fun k hk => (hv' k hk).1) hT (y2.2.1 (h + 6))).2
            have r2 : y3.1 (h + 11) = nI (np_parts T.1 (np_exchange T.2.2.1 v w).1).2 := r2.trans (congrArg nI hpo)
            have hp1 := hpb (np_exchange T.2.2.1 v w).1
            have q3 : cAt y3 h (ntS T (np_exchange T.2.2.1 v w)) := cAt_fr r3 (fun q hq hr => by unfold cP at hq; unfold cQ at hr; omega) q1
            have f3 : fr (cO h) y y3 := fr_tr (fr_tr hf (fr_mono (fun q hq => Or.inl hq) q2)) (fr_mono (fun q hq => Or.inr (Or.inr hq)) r3)
            have e5 : ∀ k, y3.2.1 (h + 5) k = y1.2.1 (h + 5) k := fun k => by
              rw [(r3 _ (fun h9 => by unfold cQ at h9; omega)).2.1, (q2 _ (fun h9 => by unfold cP at h9; omega)).2.1]
            refine w_rdF r2 (w_le (by omega) (by omega) (fun hle => ?_) (fun hgt => ?_))
            · refine w_cs0 (tc_exchange hh q3 hb' (show v < 24 by omega) (show w < 24 by omega)) ?_
              rintro y4 ⟨s1, s2⟩
              have es : np_exchange (np_exchange T.2.2.1 v w) v w = T.2.2.1 := np_exchange_twice hv hv2 hw2
              have s1 : cAt y4 h (ntS T (np_exchange (np_exchange T.2.2.1 v w) v w)) := s1
              rw [es] at s1
              refine k3 y4 ?_ s1 (fun k hk => ?_) (fr_tr f3 (fr_mono (fun q hq => Or.inl hq) s2))
              · exact decide_eq_false (fun h9 => by have := h9.2; omega)
              · rw [(s2 _ (fun h9 => by unfold cP at h9; omega)).2.1, e5]
                exact h5 k hk
            · have hpt : po_P T.1 T.2.2.1 v w = true := decide_eq_true ⟨em, hgt⟩
              rw [hpt] at hP
              have hP : some (v, w) = A := hP
              subst hP
              exact w_okZ (Or.inr rfl) (w_some ⟨rfl, q3, f3⟩)
          · exact k3 y1 (decide_eq_false (fun h9 => em h9.1)) h1 h5 hf
      refine u_X7_partOnce_1 ?_; unfold cm_X7_partOnce_1
      refine w_rdF h1.1 ?_
      rw [show (2 : Int32) * nI T.1 = nI (2 * T.1) from pk_mul 2 _, nI_1]
      exact w_leF (by omega) (by omega) (k2 (2 * T.1 - (v + 1)) (v + 1) y1 (by omega) hP h1 h5 hf)
  refine e_X7_partOnce ?_
  refine u_X7_partOnce_0 ?_; unfold cm_X7_partOnce_0
  refine w_cs0 (tc_markRings hh hy hb hT) ?_
  rintro y1 ⟨a1, a2, a3⟩
  have h1 : cAt y1 h T := cAt_fr a3 (fun q hq hr => by unfold cP at hq; unfold cR at hr; omega) hy
  refine w_cs0 (tc_markParts hh h1 hN hT) ?_
  rintro y2 ⟨b1, b2, b3⟩
  have h2 : cAt y2 h T := cAt_fr b3 (fun q hq hr => by unfold cP at hq; unfold cQ at hr; omega) h1
  have e1 := (np_rings_of (N := T.2.2.1.1) hN (y.2.1 (h + 5))).1
  have e2 := (np_parts_of (N := T.2.2.1.1) hN hT (y1.2.1 (h + 6))).2
  refine w_rdF (b2.trans (congrArg nI e2)) (k1 (2 * T.1) 0 y2 (by omega) hA h2 (fun k hk => ?_) (fr_tr (fr_mono (fun q hq => Or.inr (Or.inl hq)) a3) (fr_mono (fun q hq => Or.inr (Or.inr hq)) b3)))
  rw [(b3 _ (fun h9 => by unfold cQ at h9; omega)).2.1, a1 k]
  exact e1 k hk
end CO
/-- parted d times at most -/
def np_all (c : Nat) : Nat → ow_NP → ow_NP
  | 0, S => S
  | d + 1, S => if (np_once c S).isSome then np_all c d (np_onceS S (np_once c S)) else S
theorem po_w_in {P : Nat → Bool} : ∀ (d w : Nat) {r : Nat}, po_w P d w = some r → w ≤ r ∧ r < w + d
  | 0, _, _, h => by cases h
  | d + 1, w, r, h => by
    have h : (if P w then some w else po_w P d (w + 1)) = some r := h
    split at h
    · injection h with h
      omega
    · have := po_w_in d (w + 1) h
      omega
theorem po_v_in {P : Nat → Nat → Bool} {n : Nat} : ∀ (d v : Nat) {q : Nat × Nat}, v + d ≤ n → po_v P n d v = some q → q.1 < n ∧ q.2 < n
  | 0, _, _, _, h => by cases h
  | d + 1, v, q, hd, h => by
    have h : po_in P n d v (po_v P n d) (po_w (P v) (n - (v + 1)) (v + 1)) = some q := h
    cases e : po_w (P v) (n - (v + 1)) (v + 1) with
    | none =>
      rw [e] at h
      exact po_v_in d (v + 1) (by omega) h
    | some w =>
      rw [e] at h
      have h : some (v, w) = some q := h
      injection h with h
      have := po_w_in _ _ e
      rw [← h]
      show v < n ∧ w < n
      omega
theorem once_vn {c : Nat} {S : ow_NP} (hv : vn c S) : vn c (np_onceS S (np_once c S)) := by
  cases e : np_once c S with
  | none => exact hv
  | some q =>
    have := po_v_in (2 * c) 0 (by omega) e
    exact vn_exchange hv this.1 this.2
theorem once_b24 {c : Nat} {S : ow_NP} (hc : c ≤ 12) (hb : ow_b24 S) : ow_b24 (np_onceS S (np_once c S)) := by
  cases e : np_once c S with
  | none => exact hb
  | some q =>
    have := po_v_in (2 * c) 0 (by omega) e
    exact b24_exchange hb (by omega) (by omega)
section CO2
variable {vl : Nat → Nat} {y : ow_MS} {h : Nat} {T : ow_NT}
theorem u_X7_partAll_1 {vl : Nat → Nat} {x1 : Int32} {r0 : Nat} {z : ow_MS} {Q : ow_MS → Prop} (H : Tt (fun K k => cm_X7_partAll_1 vl K (c_X7_partAll vl K k) x1 r0 z) Q) : Tt (fun K k => c_X7_partAll vl K k 1 x1 r0 z) Q := w_un (fun _ _ => rfl) H
theorem e_X7_partAll {vl : Nat → Nat} {r0 : Nat} {z : ow_MS} {Q : ow_MS → Prop} (H : Tt (fun K k => c_X7_partAll vl K k 0 0 r0 z) Q) : Te (fun K => ce_X7_partAll vl K r0 z) Q := w_te H
theorem u_X7_partAll_0 {vl : Nat → Nat} {x1 : Int32} {r0 : Nat} {z : ow_MS} {Q : ow_MS → Prop} (H : Tt (fun K k => cm_X7_partAll_0 vl K (c_X7_partAll vl K k) x1 r0 z) Q) : Tt (fun K k => c_X7_partAll vl K k 0 x1 r0 z) Q := w_un (fun _ _ => rfl) H
theorem tc_partAll (hh : nH h) (hy : cAt y h T) (hb : ow_b24 T.2.2.1) (hv : vn T.1 T.2.2.1) (hT : T.1 ≤ 12) : Te (fun K => ce_X7_partAll vl K h y) (fun y1 => cAt y1 h (ntS T (np_all T.1 12 T.2.2.1)) ∧ fr (cO h) y y1) := by
  generalize hA : np_all T.1 12 T.2.2.1 = A
  let Q : ow_MS → Prop := fun y1 => cAt y1 h (ntS T A) ∧ fr (cO h) y y1
  have c1 : ∀ (d i : Nat) (S : ow_NP) (y1 : ow_MS), i + d = 12 → np_all T.1 d S = A → cAt y1 h (ntS T S) → ow_b24 S → vn T.1 S → fr (cO h) y y1 → Tt (fun K t => c_X7_partAll vl K t 1 (nI i) h y1) Q := by
    intro d
    induction d with
    | zero =>
      intro i S y1 hi hS h1 _ _ hf
      have hS : S = A := hS
      subst hS
      refine u_X7_partAll_1 ?_; unfold cm_X7_partAll_1
      exact w_leT (a := 12) (by omega) (by omega) (w_some ⟨h1, hf⟩)
    | succ d ih =>
      intro i S y1 hi hS h1 hb1 hv1 hf
      have hS : (if (np_once T.1 S).isSome then np_all T.1 d (np_onceS S (np_once T.1 S)) else S) = A := hS
      refine u_X7_partAll_1 ?_; unfold cm_X7_partAll_1
      refine w_leF (a := 12) (by omega) (by omega) (w_cs1 (tc_partOnce hh h1 hb1 hv1 hT) ?_)
      rintro r y2 ⟨k1, k2, e3⟩
      have m1 : r = (if (np_once T.1 S).isSome then 1 else 0) := k1
      have e2 : cAt y2 h (ntS T (np_onceS S (np_once T.1 S))) := k2
      have b2 := once_b24 (c := T.1) hT hb1
      have v2 := once_vn hv1
      rw [m1, nI_1]
      cases e : np_once T.1 S with
      | none =>
        rw [e] at hS e2
        have hS : S = A := hS
        subst hS
        exact w_ifT rfl (w_some ⟨e2, fr_tr hf e3⟩)
      | some q =>
        rw [e] at hS e2 b2 v2
        exact w_ifF (show ¬ (1 : Int32) = 0 by decide) (ih (i + 1) _ y2 (by omega) hS e2 b2 v2 (fr_tr hf e3))
  refine e_X7_partAll ?_
  refine u_X7_partAll_0 ?_; unfold cm_X7_partAll_0
  exact c1 12 0 T.2.2.1 y (by omega) hA hy hb hv fr_rf
end CO2
end
section
/-! 99zzzzy.coder -/
/-! the class: Coder, the first cells -/
section CK
variable {vl : Nat → Nat} {y : ow_MS} {h : Nat} {T : ow_NT}
theorem an1_c : ∀ v : Fin 24, (nI v.val &&& 1) = nI (v.val % 2) := by decide +kernel
theorem e_X2_firstCell {vl : Nat → Nat} {r0 : Nat} {x1 : Int32} {z : ow_MS} {Q : (Int32 × ow_MS) → Prop} (H : Tt (fun K _ => cm_X2_firstCell_0 vl K x1 r0 z) Q) : Te (fun K => ce_X2_firstCell vl K r0 x1 z) Q := w_te0 H
theorem tc_firstCell {v : Nat} (hh : nH h) (hy : cAt y h T) (hv : v < 24) : Te (fun K => ce_X2_firstCell vl K h (nI v) y) (fun r => r.1 = nI (cd_first T.2.2.2 v) ∧ r.2 = y) := by
  refine e_X2_firstCell ?_; unfold cm_X2_firstCell_0
  rw [shr1v ⟨v, hv⟩, an1_c ⟨v, hv⟩, show (2 : Int32) * nI (v % 2) = nI (2 * (v % 2)) from pk_mul 2 _, show (4 : Int32) + nI (2 * (v % 2)) = nI (4 + 2 * (v % 2)) from nI_add 4 _]
  refine w_crI (nH_3 hh) rfl (by omega) (hy.2.2.2.2 _) (w_if (fun e => w_some ⟨?_, rfl⟩) (fun e => w_some ⟨?_, rfl⟩))
  · show nI (4 + 2 * (v % 2)) + 0 = nI (4 + 2 * (v % 2) + (if T.2.2.2 (v / 2) < 0 then 1 else 0))
    rw [if_neg (Int32.not_lt.mpr e)]
    exact nI_add _ 0
  · show nI (4 + 2 * (v % 2)) + 1 = nI (4 + 2 * (v % 2) + (if T.2.2.2 (v / 2) < 0 then 1 else 0))
    rw [if_pos (Int32.not_le.mp e), nI_1]
theorem first_b {G : Nat → Int32} {v : Nat} : 4 ≤ cd_first G v ∧ cd_first G v ≤ 7 := by
  unfold cd_first
  split <;> omega
/-- the least first cell of the visits below n with mark p -/
def lfc (G P : Nat → Int32) (p : Int32) : Nat → Nat
  | 0 => 8
  | v + 1 => if P v = p then (if cd_first G v < lfc G P p v then cd_first G v else lfc G P p v) else lfc G P p v
theorem lfc_b {G P : Nat → Int32} {p : Int32} : ∀ n, lfc G P p n ≤ 8
  | 0 => Nat.le_refl _
  | v + 1 => by
    have := lfc_b (G := G) (P := P) (p := p) v
    have := first_b (G := G) (v := v)
    show (if P v = p then (if cd_first G v < lfc G P p v then cd_first G v else lfc G P p v) else lfc G P p v) ≤ 8
    split
    · split <;> omega
    · omega
theorem u_X2_leastFirstCell_1 {vl : Nat → Nat} {x1 : Int32} {x2 : Int32} {x3 : Int32} {r0 : Nat} {z : ow_MS} {Q : (Int32 × ow_MS) → Prop} (H : Tt (fun K k => cm_X2_leastFirstCell_1 vl K (c_X2_leastFirstCell vl K k) x1 x2 x3 r0 z) Q) : Tt (fun K k => c_X2_leastFirstCell vl K k 1 x1 x2 x3 r0 z) Q := w_un (fun _ _ => rfl) H
theorem u_X2_leastFirstCell_2 {vl : Nat → Nat} {x1 : Int32} {x2 : Int32} {x3 : Int32} {r0 : Nat} {z : ow_MS} {Q : (Int32 × ow_MS) → Prop} (H : Tt (fun K k => cm_X2_leastFirstCell_2 vl K (c_X2_leastFirstCell vl K k) x1 x2 x3 r0 z) Q) : Tt (fun K k => c_X2_leastFirstCell vl K k 2 x1 x2 x3 r0 z) Q := w_un (fun _ _ => rfl) H
theorem e_X2_leastFirstCell {vl : Nat → Nat} {r0 : Nat} {x1 : Int32} {z : ow_MS} {Q : (Int32 × ow_MS) → Prop} (H : Tt (fun K k => c_X2_leastFirstCell vl K k 0 x1 0 0 r0 z) Q) : Te (fun K => ce_X2_leastFirstCell vl K r0 x1 z) Q := w_te H
theorem u_X2_leastFirstCell_0 {vl : Nat → Nat} {x1 : Int32} {x2 : Int32} {x3 : Int32} {r0 : Nat} {z : ow_MS} {Q : (Int32 × ow_MS) → Prop} (H : Tt (fun K k => cm_X2_leastFirstCell_0 vl K (c_X2_leastFirstCell vl K k) x1 x2 x3 r0 z) Q) : Tt (fun K k => c_X2_leastFirstCell vl K k 0 x1 x2 x3 r0 z) Q := w_un (fun _ _ => rfl) H
theorem tc_leastFirstCell {p : Int32} {P : Nat → Int32} (hh : nH h) (hy : cAt y h T) (hT : T.1 ≤ 12) (h6 : ∀ k, k < 2 * T.1 → y.2.1 (h + 6) k = P k) : Te (fun K => ce_X2_leastFirstCell vl K h p y) (fun r => r.1 = nI (lfc T.2.2.2 P p (2 * T.1)) ∧ r.2 = y) := by
  let Q : Int32 × ow_MS → Prop := fun r => r.1 = nI (lfc T.2.2.2 P p (2 * T.1)) ∧ r.2 = y
  have c1 : ∀ (d v : Nat), v + d = 2 * T.1 → Tt (fun K t => c_X2_leastFirstCell vl K t 1 p (nI (lfc T.2.2.2 P p v)) (nI v) h y) Q := by
    intro d
    induction d with
    | zero =>
      intro v hv
      have e : v = 2 * T.1 := by omega
      subst e
      refine u_X2_leastFirstCell_1 ?_; unfold cm_X2_leastFirstCell_1
      refine w_rdF hy.1 ?_
      rw [show (2 : Int32) * nI T.1 = nI (2 * T.1) from pk_mul 2 _]
      exact w_leT (by omega) (by omega) (w_some ⟨rfl, rfl⟩)
    | succ d ih =>
      intro v hv
      have b1 := lfc_b (G := T.2.2.2) (P := P) (p := p) v
      have b2 := first_b (G := T.2.2.2) (v := v)
      have k2 : ∀ x2 : Int32, x2 = nI (lfc T.2.2.2 P p (v + 1)) → Tt (fun K t => c_X2_leastFirstCell vl K t 2 p x2 (nI v) h y) Q := by
        intro x2 e
        subst e
        refine u_X2_leastFirstCell_2 ?_; unfold cm_X2_leastFirstCell_2
        rw [nI_1]
        exact ih (v + 1) (by omega)
      have eo : lfc T.2.2.2 P p (v + 1) = if P v = p then (if cd_first T.2.2.2 v < lfc T.2.2.2 P p v then cd_first T.2.2.2 v else lfc T.2.2.2 P p v) else lfc T.2.2.2 P p v := rfl
      refine u_X2_leastFirstCell_1 ?_; unfold cm_X2_leastFirstCell_1
      refine w_rdF hy.1 ?_
      rw [show (2 : Int32) * nI T.1 = nI (2 * T.1) from pk_mul 2 _]
      refine w_leF (by omega) (by omega) (w_crI (nH_6 hh) rfl (by omega) (h6 v (by omega)) (w_if (fun e => ?_) (fun e => ?_)))
      · refine w_cs1 (tc_firstCell hh hy (show v < 24 by omega)) ?_
        rintro r y1 ⟨e1, e2⟩
        dsimp only at e1 e2
        subst e1
        subst e2
        refine k2 _ ?_
        rw [eo, if_pos e]
        by_cases h9 : cd_first T.2.2.2 v < lfc T.2.2.2 P p v
        · rw [if_pos h9, if_pos (nI_lt h9 (by omega))]
        · rw [if_neg h9, if_neg (nI_nlt (by omega) (by omega))]
      · refine k2 _ ?_
        rw [eo, if_neg e]
  refine e_X2_leastFirstCell ?_
  refine u_X2_leastFirstCell_0 ?_; unfold cm_X2_leastFirstCell_0
  exact c1 (2 * T.1) 0 (by omega)
end CK
end
section
/-! 99zzzzz.chouse -/
/-! the class: KnotHouse's own small methods -/
/-- every place of the diagrams is empty or holds a code -/
def dgE (y : ow_MS) : Prop := ∀ d, d < 40 → y.2.1 1002 d = 0 ∨ ∃ C, slC y 1000 d C ∧ cOK C ∧ 0 < C.2.length
/-- every place of the braids: strands (0: empty) -/
def brE (y : ow_MS) : Prop := ∀ b, b < 20 → ∃ n, n ≤ 5 ∧ y.2.1 15 b = nI n
def isD (y : ow_MS) (x : Int32) : Prop := ∃ d C, d < 40 ∧ x = nI d ∧ slC y 1000 d C ∧ cOK C ∧ 0 < C.2.length
def isB (y : ow_MS) (x : Int32) : Prop := ∃ b n, b < 20 ∧ x = nI b ∧ y.2.1 15 b = nI n ∧ 1 ≤ n ∧ n ≤ 5
section CH
variable {vl : Nat → Nat} {y : ow_MS} {x : Int32}
theorem ch_15 : ((cX vl).2 15).2.1 = 20 := rfl
theorem ch_1000 : tH 1000 40 := by
  unfold tH tHL
  exact List.mem_cons_self
theorem e_X11_hasDiagram {vl : Nat → Nat} {r0 : Nat} {x1 : Int32} {z : ow_MS} {Q : (Int32 × ow_MS) → Prop} (H : Tt (fun K _ => cm_X11_hasDiagram_0 vl K x1 r0 z) Q) : Te (fun K => ce_X11_hasDiagram vl K r0 x1 z) Q := w_te0 H
theorem tc_hasDiagram (hy : dgE y) : Te (fun K => ce_X11_hasDiagram vl K 0 x y) (fun r => (r.1 = 1 ∧ isD y x ∨ r.1 = 0 ∧ ∀ d, d < 40 → x = nI d → y.2.1 1002 d = 0) ∧ r.2 = y) := by
  refine e_X11_hasDiagram ?_; unfold cm_X11_hasDiagram_0
  refine w_if (fun e => w_okZ (Or.inl rfl) (w_some ⟨Or.inr ⟨rfl, fun d hd ex => ?_⟩, rfl⟩)) (fun e => ?_)
  · rw [ex] at e
    exact absurd e (nI_pos (by omega))
  · obtain ⟨d, d31, rfl⟩ := nI_of e
    refine w_le (a := 40) (by omega) d31 (fun h9 => w_okZ (Or.inl rfl) (w_some ⟨Or.inr ⟨rfl, fun d' hd ex => ?_⟩, rfl⟩)) (fun h9 => ?_)
    · have := (nI_eq d31 (by omega)).mp ex
      omega
    · rcases hy d h9 with h0 | ⟨C, c1, c2, c3⟩
      · refine w_crI (tH_2 ch_1000) rfl h9 h0 (w_ifT (by decide) (w_okZ (Or.inl rfl) (w_some ⟨Or.inr ⟨rfl, fun d' hd ex => ?_⟩, rfl⟩)))
        rw [← (nI_eq d31 (by omega)).mp ex]
        exact h0
      · have := c2.2.1
        exact w_crI (tH_2 ch_1000) rfl h9 c1.2.1 (w_leF (b := 0) (by omega) c3 (w_okZ (Or.inr rfl) (w_some ⟨Or.inl ⟨rfl, d, C, h9, rfl, c1, c2, c3⟩, rfl⟩)))
theorem e_X11_hasBraid {vl : Nat → Nat} {r0 : Nat} {x1 : Int32} {z : ow_MS} {Q : (Int32 × ow_MS) → Prop} (H : Tt (fun K _ => cm_X11_hasBraid_0 vl K x1 r0 z) Q) : Te (fun K => ce_X11_hasBraid vl K r0 x1 z) Q := w_te0 H
theorem tc_hasBraid (hy : brE y) : Te (fun K => ce_X11_hasBraid vl K 0 x y) (fun r => (r.1 = 1 ∧ isB y x ∨ r.1 = 0 ∧ ∀ b, b < 20 → x = nI b → y.2.1 15 b = 0) ∧ r.2 = y) := by
  refine e_X11_hasBraid ?_; unfold cm_X11_hasBraid_0
  refine w_if (fun e => w_okZ (Or.inl rfl) (w_some ⟨Or.inr ⟨rfl, fun d hd ex => ?_⟩, rfl⟩)) (fun e => ?_)
  · rw [ex] at e
    exact absurd e (nI_pos (by omega))
  · obtain ⟨d, d31, rfl⟩ := nI_of e
    refine w_le (a := 20) (by omega) d31 (fun h9 => w_okZ (Or.inl rfl) (w_some ⟨Or.inr ⟨rfl, fun d' hd ex => ?_⟩, rfl⟩)) (fun h9 => ?_)
    · have := (nI_eq d31 (by omega)).mp ex
      omega
    · obtain ⟨n, n5, en⟩ := hy d h9
      refine w_crI ch_15 rfl h9 en (w_le (b := 0) (by omega) (by omega) (fun h0 => w_okZ (Or.inl rfl) (w_some ⟨Or.inr ⟨rfl, fun d' hd ex => ?_⟩, rfl⟩)) (fun h0 => w_okZ (Or.inr rfl) (w_some ⟨Or.inl ⟨rfl, d, n, h9, rfl, en, h0, n5⟩, rfl⟩)))
      rw [← (nI_eq d31 (by omega)).mp ex, en, show n = 0 by omega]
      rfl
theorem e_X11_drop {vl : Nat → Nat} {r0 : Nat} {x1 : Int32} {z : ow_MS} {Q : (Int32 × ow_MS) → Prop} (H : Tt (fun K _ => cm_X11_drop_0 vl K x1 r0 z) Q) : Te (fun K => ce_X11_drop vl K r0 x1 z) Q := w_te0 H
theorem e_X11_dropBraid {vl : Nat → Nat} {r0 : Nat} {x1 : Int32} {z : ow_MS} {Q : (Int32 × ow_MS) → Prop} (H : Tt (fun K _ => cm_X11_dropBraid_0 vl K x1 r0 z) Q) : Te (fun K => ce_X11_dropBraid vl K r0 x1 z) Q := w_te0 H
end CH
end
section
/-! 99zzzzza.cfeed -/
/-! the class: feed, end, free places -/
section CH2
variable {vl : Nat → Nat} {y : ow_MS} {x : Int32}
theorem ch_11002 : ((cX vl).2 11002).2.1 = 400 := rfl
/-- byte i of a number as the tape holds it -/
def bT (x : Int32) (i : Nat) : Int32 := vp_nar .byte ((x >>> ((nI (24 - 8 * i)) &&& 31)).toInt8.toInt32)
def tpP (q : Nat) : Prop := q = 11001 ∨ q = 11002
theorem u_X9_take_1 {vl : Nat → Nat} {x1 : Int32} {x2 : Int32} {r0 : Nat} {z : ow_MS} {Q : ow_MS → Prop} (H : Tt (fun K k => cm_X9_take_1 vl K (c_X9_take vl K k) x1 x2 r0 z) Q) : Tt (fun K k => c_X9_take vl K k 1 x1 x2 r0 z) Q := w_un (fun _ _ => rfl) H
theorem e_X9_take {vl : Nat → Nat} {r0 : Nat} {x1 : Int32} {z : ow_MS} {Q : ow_MS → Prop} (H : Tt (fun K k => c_X9_take vl K k 0 x1 0 r0 z) Q) : Te (fun K => ce_X9_take vl K r0 x1 z) Q := w_te H
theorem u_X9_take_0 {vl : Nat → Nat} {x1 : Int32} {x2 : Int32} {r0 : Nat} {z : ow_MS} {Q : ow_MS → Prop} (H : Tt (fun K k => cm_X9_take_0 vl K (c_X9_take vl K k) x1 x2 r0 z) Q) : Tt (fun K k => c_X9_take vl K k 0 x1 x2 r0 z) Q := w_un (fun _ _ => rfl) H
theorem tc_take {t : Nat} (ht : y.1 11001 = nI t) (h4 : t + 4 ≤ 400) : Te (fun K => ce_X9_take vl K 11000 x y) (fun y1 => y1.1 11001 = nI (t + 4) ∧ (∀ i, i < 4 → y1.2.1 11002 (t + i) = bT x i) ∧ (∀ k, k < t → y1.2.1 11002 k = y.2.1 11002 k) ∧ fr tpP y y1) := by
  let Q : ow_MS → Prop := fun y1 => y1.1 11001 = nI (t + 4) ∧ (∀ i, i < 4 → y1.2.1 11002 (t + i) = bT x i) ∧ (∀ k, k < t → y1.2.1 11002 k = y.2.1 11002 k) ∧ fr tpP y y1
  have c1 : ∀ (d i : Nat) (y1 : ow_MS), i + d = 4 → y1.1 11001 = nI (t + i) → (∀ j, j < i → y1.2.1 11002 (t + j) = bT x j) → (∀ k, k < t → y1.2.1 11002 k = y.2.1 11002 k) → fr tpP y y1 → Tt (fun K k => c_X9_take vl K k 1 x (iI (24 - 8 * (i : Int))) 11000 y1) Q := by
    intro d
    induction d with
    | zero =>
      intro i y1 hi h1 h2 h3 hf
      have e : i = 4 := by omega
      subst e
      refine u_X9_take_1 ?_; unfold cm_X9_take_1
      exact w_ifT (by decide) (w_some ⟨h1, h2, h3, hf⟩)
    | succ d ih =>
      intro i y1 hi h1 h2 h3 hf
      refine u_X9_take_1 ?_; unfold cm_X9_take_1
      rw [show iI (24 - 8 * (i : Int)) + -8 = iI (24 - 8 * ((i + 1 : Nat) : Int)) from by
        rw [show (-8 : Int32) = iI (-8) from rfl, iI_add]
        congr 1
        omega]
      have e24 : iI (24 - 8 * (i : Int)) = nI (24 - 8 * i) := iI_nI (by omega)
      rw [e24]
      refine w_ltF (b := 0) (by omega) (by omega) (w_rdF h1 (w_leF (a := 400) (by omega) (by omega) (w_rdF h1 (w_ctB (i := t + i) ch_11002 rfl (by omega) (w_rdF (x := nI (t + i)) h1 ?_)))))
      rw [nI_1]
      refine w_wrF (ih (i + 1) _ (by omega) po_usF_at (fun j hj => ?_) (fun k hk => ?_) (fr_F2 (fr_I2 hf (Or.inr rfl)) (Or.inl rfl)))
      · by_cases e : j = i
        · rw [e]
          exact po_usI_at
        · exact rd_ne (by omega) (h2 j (by omega))
      · exact rd_ne (by omega) (h3 k hk)
  refine e_X9_take ?_
  refine u_X9_take_0 ?_; unfold cm_X9_take_0
  exact c1 4 0 y (by omega) ht (fun j hj => by omega) (fun k hk => rfl) fr_rf
theorem e_X11_feed {vl : Nat → Nat} {r0 : Nat} {x1 : Int32} {x2 : Int32} {x3 : Int32} {x4 : Int32} {x5 : Int32} {z : ow_MS} {Q : (Nat × Int32 × ow_MS) → Prop} (H : Tt (fun K _ => cm_X11_feed_0 vl K x1 x2 x3 x4 x5 r0 z) Q) : Te (fun K => ce_X11_feed vl K r0 x1 x2 x3 x4 x5 z) Q := w_te0 H
theorem tc_feed {x1 x2 x3 x4 x5 : Int32} {t : Nat} (ht : y.1 11001 = nI t) (h4 : t ≤ 400) : Te (fun K => ce_X11_feed vl K 0 x1 x2 x3 x4 x5 y) (fun r => (t + 20 ≤ 400 ∧ r.1 = 0 ∧ r.2.1 = nI (t + 20) ∧ r.2.2.1 11001 = nI (t + 20) ∧ (∀ i, i < 4 → r.2.2.2.1 11002 (t + i) = bT x1 i ∧ r.2.2.2.1 11002 (t + 4 + i) = bT x2 i ∧ r.2.2.2.1 11002 (t + 8 + i) = bT x3 i ∧ r.2.2.2.1 11002 (t + 12 + i) = bT x4 i ∧ r.2.2.2.1 11002 (t + 16 + i) = bT x5 i) ∧ (∀ k, k < t → r.2.2.2.1 11002 k = y.2.1 11002 k) ∨ 400 < t + 20 ∧ r.1 = 3 ∧ r.2.2 = y) ∧ fr tpP y r.2.2) := by
  refine e_X11_feed ?_; unfold cm_X11_feed_0
  refine w_rdF ht ?_
  rw [show nI t + 20 = nI (t + 20) from nI_add t 20]
  refine w_le (b := 400) (by omega) (by omega) (fun hle => ?_) (fun hgt => w_some ⟨Or.inr ⟨hgt, rfl, rfl⟩, fr_rf⟩)
  refine w_cs0 (tc_take ht (by omega)) ?_
  rintro y1 ⟨a1, a2, a3, a4⟩
  refine w_cs0 (tc_take a1 (by omega)) ?_
  rintro y2 ⟨b1, b2, b3, b4⟩
  refine w_cs0 (tc_take b1 (by omega)) ?_
  rintro y3 ⟨c1, c2, c3, c4⟩
  refine w_cs0 (tc_take c1 (by omega)) ?_
  rintro y4 ⟨d1, d2, d3, d4⟩
  refine w_cs0 (tc_take d1 (by omega)) ?_
  rintro y5 ⟨e1, e2, e3, e4⟩
  refine w_rdF e1 (w_some ⟨Or.inl ⟨hle, rfl, rfl, e1, fun i hi => ⟨?_, ?_, ?_, ?_, ?_⟩, fun k hk => ?_⟩, fr_tr (fr_tr (fr_tr (fr_tr a4 b4) c4) d4) e4⟩)
  · exact (e3 _ (by omega)).trans ((d3 _ (by omega)).trans ((c3 _ (by omega)).trans ((b3 _ (by omega)).trans (a2 i hi))))
  · exact (e3 _ (by omega)).trans ((d3 _ (by omega)).trans ((c3 _ (by omega)).trans (b2 i hi)))
  · exact (e3 _ (by omega)).trans ((d3 _ (by omega)).trans (c2 i hi))
  · exact (e3 _ (by omega)).trans (d2 i hi)
  · exact e2 i hi
  · exact (e3 _ (by omega)).trans ((d3 _ (by omega)).trans ((c3 _ (by omega)).trans ((b3 _ (by omega)).trans (a3 k hk))))
theorem e_X11_end {vl : Nat → Nat} {r0 : Nat} {x1 : Int32} {z : ow_MS} {Q : (Nat × ow_MS) → Prop} (H : Tt (fun K _ => cm_X11_end_0 vl K x1 r0 z) Q) : Te (fun K => ce_X11_end vl K r0 x1 z) Q := w_te0 H
theorem tc_end {t : Nat} (ht : y.1 11001 = nI t) (h4 : t ≤ 400) : Te (fun K => ce_X11_end vl K 0 x y) (fun r => ((∃ u, u ≤ t ∧ x = nI u ∧ r.1 = 0 ∧ r.2.1 11001 = nI u) ∨ (∀ u, u ≤ t → x ≠ nI u) ∧ r.1 = 2 ∧ r.2 = y) ∧ fr (fun q => q = 11001) y r.2) := by
  refine e_X11_end ?_; unfold cm_X11_end_0
  refine w_if (fun e => w_some ⟨Or.inr ⟨fun u hu ex => ?_, rfl, rfl⟩, fr_rf⟩) (fun e => ?_)
  · rw [ex] at e
    exact nI_pos (by omega) e
  · obtain ⟨u, u31, rfl⟩ := nI_of e
    refine w_rdF ht (w_le u31 (by omega) (fun hle => w_wrF (w_some ⟨Or.inl ⟨u, hle, rfl, rfl, po_usF_at⟩, fr_F2 fr_rf rfl⟩)) (fun hgt => w_some ⟨Or.inr ⟨fun v hv ex => ?_, rfl, rfl⟩, fr_rf⟩))
    have := (nI_eq u31 (by omega)).mp ex
    omega
theorem u_X11_freeDiagram_1 {vl : Nat → Nat} {x1 : Int32} {r0 : Nat} {z : ow_MS} {Q : (Nat × Int32 × ow_MS) → Prop} (H : Tt (fun K k => cm_X11_freeDiagram_1 vl K (c_X11_freeDiagram vl K k) x1 r0 z) Q) : Tt (fun K k => c_X11_freeDiagram vl K k 1 x1 r0 z) Q := w_un (fun _ _ => rfl) H
theorem e_X11_freeDiagram {vl : Nat → Nat} {r0 : Nat} {z : ow_MS} {Q : (Nat × Int32 × ow_MS) → Prop} (H : Tt (fun K k => c_X11_freeDiagram vl K k 0 0 r0 z) Q) : Te (fun K => ce_X11_freeDiagram vl K r0 z) Q := w_te H
theorem u_X11_freeDiagram_0 {vl : Nat → Nat} {x1 : Int32} {r0 : Nat} {z : ow_MS} {Q : (Nat × Int32 × ow_MS) → Prop} (H : Tt (fun K k => cm_X11_freeDiagram_0 vl K (c_X11_freeDiagram vl K k) x1 r0 z) Q) : Tt (fun K k => c_X11_freeDiagram vl K k 0 x1 r0 z) Q := w_un (fun _ _ => rfl) H
theorem tc_freeDiagram (hy : dgE y) : Te (fun K => ce_X11_freeDiagram vl K 0 y) (fun r => ((∃ d, d < 40 ∧ r.1 = 0 ∧ r.2.1 = nI d ∧ y.2.1 1002 d = 0 ∧ ∀ e, e < d → y.2.1 1002 e ≠ 0) ∨ r.1 = 3 ∧ ∀ e, e < 40 → y.2.1 1002 e ≠ 0) ∧ r.2.2 = y) := by
  let Q : Nat × Int32 × ow_MS → Prop := fun r => ((∃ d, d < 40 ∧ r.1 = 0 ∧ r.2.1 = nI d ∧ y.2.1 1002 d = 0 ∧ ∀ e, e < d → y.2.1 1002 e ≠ 0) ∨ r.1 = 3 ∧ ∀ e, e < 40 → y.2.1 1002 e ≠ 0) ∧ r.2.2 = y
  have c1 : ∀ (d i : Nat), i + d = 40 → (∀ e, e < i → y.2.1 1002 e ≠ 0) → Tt (fun K k => c_X11_freeDiagram vl K k 1 (nI i) 0 y) Q := by
    intro d
    induction d with
    | zero =>
      intro i hi hn
      refine u_X11_freeDiagram_1 ?_; unfold cm_X11_freeDiagram_1
      exact w_leT (a := 40) (by omega) (by omega) (w_some ⟨Or.inr ⟨rfl, fun e he => hn e (by omega)⟩, rfl⟩)
    | succ d ih =>
      intro i hi hn
      refine u_X11_freeDiagram_1 ?_; unfold cm_X11_freeDiagram_1
      rw [nI_1]
      refine w_leF (a := 40) (by omega) (by omega) (w_crI (x := y.2.1 1002 i) (tH_2 ch_1000) rfl (by omega) rfl (w_if (fun e => w_some ⟨Or.inl ⟨i, by omega, rfl, rfl, e, hn⟩, rfl⟩) (fun e => ih (i + 1) (by omega) (fun j hj => ?_))))
      by_cases ej : j = i
      · rw [ej]
        exact e
      · exact hn j (by omega)
  refine e_X11_freeDiagram ?_
  refine u_X11_freeDiagram_0 ?_; unfold cm_X11_freeDiagram_0
  exact c1 40 0 (by omega) (fun e he => by omega)
theorem u_X11_freeBraid_1 {vl : Nat → Nat} {x1 : Int32} {r0 : Nat} {z : ow_MS} {Q : (Nat × Int32 × ow_MS) → Prop} (H : Tt (fun K k => cm_X11_freeBraid_1 vl K (c_X11_freeBraid vl K k) x1 r0 z) Q) : Tt (fun K k => c_X11_freeBraid vl K k 1 x1 r0 z) Q := w_un (fun _ _ => rfl) H
theorem e_X11_freeBraid {vl : Nat → Nat} {r0 : Nat} {z : ow_MS} {Q : (Nat × Int32 × ow_MS) → Prop} (H : Tt (fun K k => c_X11_freeBraid vl K k 0 0 r0 z) Q) : Te (fun K => ce_X11_freeBraid vl K r0 z) Q := w_te H
theorem u_X11_freeBraid_0 {vl : Nat → Nat} {x1 : Int32} {r0 : Nat} {z : ow_MS} {Q : (Nat × Int32 × ow_MS) → Prop} (H : Tt (fun K k => cm_X11_freeBraid_0 vl K (c_X11_freeBraid vl K k) x1 r0 z) Q) : Tt (fun K k => c_X11_freeBraid vl K k 0 x1 r0 z) Q := w_un (fun _ _ => rfl) H
theorem tc_freeBraid : Te (fun K => ce_X11_freeBraid vl K 0 y) (fun r => ((∃ d, d < 20 ∧ r.1 = 0 ∧ r.2.1 = nI d ∧ y.2.1 15 d = 0 ∧ ∀ e, e < d → y.2.1 15 e ≠ 0) ∨ r.1 = 3 ∧ ∀ e, e < 20 → y.2.1 15 e ≠ 0) ∧ r.2.2 = y) := by
  let Q : Nat × Int32 × ow_MS → Prop := fun r => ((∃ d, d < 20 ∧ r.1 = 0 ∧ r.2.1 = nI d ∧ y.2.1 15 d = 0 ∧ ∀ e, e < d → y.2.1 15 e ≠ 0) ∨ r.1 = 3 ∧ ∀ e, e < 20 → y.2.1 15 e ≠ 0) ∧ r.2.2 = y
  have c1 : ∀ (d i : Nat), i + d = 20 → (∀ e, e < i → y.2.1 15 e ≠ 0) → Tt (fun K k => c_X11_freeBraid vl K k 1 (nI i) 0 y) Q := by
    intro d
    induction d with
    | zero =>
      intro i hi hn
      refine u_X11_freeBraid_1 ?_; unfold cm_X11_freeBraid_1
      exact w_leT (a := 20) (by omega) (by omega) (w_some ⟨Or.inr ⟨rfl, fun e he => hn e (by omega)⟩, rfl⟩)
    | succ d ih =>
      intro i hi hn
      refine u_X11_freeBraid_1 ?_; unfold cm_X11_freeBraid_1
      rw [nI_1]
      refine w_leF (a := 20) (by omega) (by omega) (w_crI (x := y.2.1 15 i) ch_15 rfl (by omega) rfl (w_if (fun e => w_some ⟨Or.inl ⟨i, by omega, rfl, rfl, e, hn⟩, rfl⟩) (fun e => ih (i + 1) (by omega) (fun j hj => ?_))))
      by_cases ej : j = i
      · rw [ej]
        exact e
      · exact hn j (by omega)
  refine e_X11_freeBraid ?_
  refine u_X11_freeBraid_0 ?_; unfold cm_X11_freeBraid_0
  exact c1 20 0 (by omega) (fun e he => by omega)
end CH2
end
section
/-! 99zzzzzb.calike -/
/-! the class: alike, needDiagram, needBraid -/
section CH3
variable {vl : Nat → Nat} {y : ow_MS} {x x' : Int32}
theorem e_X11_alike {vl : Nat → Nat} {r0 : Nat} {x1 : Int32} {x2 : Int32} {z : ow_MS} {Q : (Int32 × ow_MS) → Prop} (H : Tt (fun K _ => cm_X11_alike_0 vl K x1 x2 r0 z) Q) : Te (fun K => ce_X11_alike vl K r0 x1 x2 z) Q := w_te0 H
theorem e_X11_needDiagram {vl : Nat → Nat} {r0 : Nat} {x1 : Int32} {z : ow_MS} {Q : (Nat × ow_MS) → Prop} (H : Tt (fun K _ => cm_X11_needDiagram_0 vl K x1 r0 z) Q) : Te (fun K => ce_X11_needDiagram vl K r0 x1 z) Q := w_te0 H
theorem tc_needDiagram (hy : dgE y) : Te (fun K => ce_X11_needDiagram vl K 0 x y) (fun r => (r.1 = 0 ∧ isD y x ∨ r.1 = 1 ∧ ∀ d, d < 40 → x = nI d → y.2.1 1002 d = 0) ∧ r.2 = y) := by
  refine e_X11_needDiagram ?_; unfold cm_X11_needDiagram_0
  refine w_cs1 (tc_hasDiagram hy) ?_
  rintro v y1 ⟨hv, e2⟩
  dsimp only at hv e2
  subst e2
  rcases hv with ⟨rfl, h1⟩ | ⟨rfl, h1⟩
  · exact w_ifF (by decide) (w_some ⟨Or.inl ⟨rfl, h1⟩, rfl⟩)
  · exact w_ifT rfl (w_some ⟨Or.inr ⟨rfl, h1⟩, rfl⟩)
theorem e_X11_needBraid {vl : Nat → Nat} {r0 : Nat} {x1 : Int32} {z : ow_MS} {Q : (Nat × ow_MS) → Prop} (H : Tt (fun K _ => cm_X11_needBraid_0 vl K x1 r0 z) Q) : Te (fun K => ce_X11_needBraid vl K r0 x1 z) Q := w_te0 H
theorem tc_needBraid (hy : brE y) : Te (fun K => ce_X11_needBraid vl K 0 x y) (fun r => (r.1 = 0 ∧ isB y x ∨ r.1 = 1 ∧ ∀ b, b < 20 → x = nI b → y.2.1 15 b = 0) ∧ r.2 = y) := by
  refine e_X11_needBraid ?_; unfold cm_X11_needBraid_0
  refine w_cs1 (tc_hasBraid hy) ?_
  rintro v y1 ⟨hv, e2⟩
  dsimp only at hv e2
  subst e2
  rcases hv with ⟨rfl, h1⟩ | ⟨rfl, h1⟩
  · exact w_ifF (by decide) (w_some ⟨Or.inl ⟨rfl, h1⟩, rfl⟩)
  · exact w_ifT rfl (w_some ⟨Or.inr ⟨rfl, h1⟩, rfl⟩)
end CH3
end
section
/-! 99zzzzzc.ctry -/
/-! the class: Coder.tryFrom -/
theorem cd_first_lt (G : Nat → Int32) (v : Nat) : 4 ≤ cd_first G v ∧ cd_first G v < 8 := by
  unfold cd_first
  split <;> omega
def tf_rest (G : Nat → Int32) (N : Nat → Nat) (d k : Nat) (P : tf_P) : tf_P := tf_out G N d (tf_look (tf_sep P) ((tf_sep P).names - k) k).1 (tf_look (tf_sep P) ((tf_sep P).names - k) k).2 (tf_sep P)
/-- the cells so far stay -/
def tf_ext (P Q : tf_P) : Prop := P.len ≤ Q.len ∧ ∀ j, j < P.len → Q.T j = P.T j
theorem tf_ext_rf (P : tf_P) : tf_ext P P := ⟨Nat.le_refl _, fun _ _ => rfl⟩
theorem tf_ext_tr {P Q R : tf_P} (h : tf_ext P Q) (k : tf_ext Q R) : tf_ext P R := ⟨Nat.le_trans h.1 k.1, fun j hj => (k.2 j (Nat.lt_of_lt_of_le hj h.1)).trans (h.2 j hj)⟩
theorem tf_vis_ext (G : Nat → Int32) (P : tf_P) (v : Nat) : tf_ext P (tf_vis G P v) := ⟨Nat.le_succ _, fun j hj => nu_ne _ _ (by omega)⟩
theorem tf_sep_ext (P : tf_P) : tf_ext P (tf_sep P) := ⟨Nat.le_succ _, fun j hj => nu_ne _ _ (by omega)⟩
theorem tf_ring_ext (G : Nat → Int32) (N : Nat → Nat) (f : Nat) : ∀ (d v : Nat) (P : tf_P), tf_ext P (tf_ring G N f d v P) := by
  intro d
  induction d with
  | zero => intro v P; exact tf_ext_rf P
  | succ d ih =>
    intro v P
    rw [tf_ring]
    split
    · exact tf_vis_ext G P v
    · exact tf_ext_tr (tf_vis_ext G P v) (ih _ _)
theorem tf_out_ext (G : Nat → Int32) (N : Nat → Nat) : ∀ (d : Nat) (f : Option Nat) (k : Nat) (P : tf_P), tf_ext P (tf_out G N d f k P) := by
  intro d
  induction d with
  | zero => intro f k P; exact tf_ext_rf P
  | succ d ih =>
    intro f k P
    cases f with
    | none => exact tf_ext_rf P
    | some f => exact tf_ext_tr (tf_ext_tr (tf_ring_ext G N f 24 f P) (tf_sep_ext _)) (ih _ _ _)
theorem tf_rest_ext (G : Nat → Int32) (N : Nat → Nat) (d k : Nat) (P : tf_P) : tf_ext (tf_sep P) (tf_rest G N d k P) := tf_out_ext _ _ _ _ _ _
/-- how many places are 0 -/
def cntZ (M : Nat → Nat) : Nat → Nat
  | 0 => 0
  | n + 1 => cntZ M n + (if M n = 0 then 1 else 0)
theorem cntZ_nu {M : Nat → Nat} {j w : Nat} : ∀ n, (j < n → M j = 0 → 0 < w → cntZ (nu M j w) n + 1 = cntZ M n) ∧ (n ≤ j → cntZ (nu M j w) n = cntZ M n) := by
  intro n
  induction n with
  | zero => exact ⟨fun h => absurd h (Nat.not_lt_zero _), fun _ => rfl⟩
  | succ n ih =>
    constructor
    · intro h h0 hw
      show cntZ (nu M j w) n + (if nu M j w n = 0 then 1 else 0) + 1 = cntZ M n + (if M n = 0 then 1 else 0)
      by_cases e : n = j
      · rw [show nu M j w n = w from by rw [e, nu_same], if_neg (by omega), show M n = 0 from by rw [e]; exact h0, if_pos rfl, ih.2 (by omega)]
      · rw [nu_ne _ _ e, ← ih.1 (by omega) h0 hw]; omega
    · intro h
      show cntZ (nu M j w) n + (if nu M j w n = 0 then 1 else 0) = cntZ M n + (if M n = 0 then 1 else 0)
      rw [ih.2 (by omega), nu_ne _ _ (by omega : n ≠ j)]
def tf_ok (P : tf_P) : Prop := (∀ k, P.num k ≤ P.names) ∧ P.names + cntZ P.num 12 ≤ 12 ∧ (∀ k, P.nam k < 12) ∧ P.gone < 2 ^ 24
theorem tf_ok_0 : tf_ok tf_0 := ⟨fun _ => Nat.le_refl 0, by decide, fun _ => Nat.succ_pos 11, by decide⟩
theorem tf_name_ok {P : tf_P} {x : Nat} (h : tf_ok P) (hx : x < 12) : tf_ok (tf_name P x) ∧ 0 < (tf_name P x).num x := by
  unfold tf_name
  split
  · rename_i h0
    have hc := (cntZ_nu (M := P.num) (j := x) (w := P.names + 1) 12).1 hx h0 (Nat.succ_pos _)
    have h2 := h.2.1
    refine ⟨⟨fun k => ?_, ?_, fun k => ?_, h.2.2.2⟩, ?_⟩
    · show (if k = x then P.names + 1 else P.num k) ≤ P.names + 1
      split
      · exact Nat.le_refl _
      · exact Nat.le_succ_of_le (h.1 k)
    · show P.names + 1 + cntZ (nu P.num x (P.names + 1)) 12 ≤ 12
      omega
    · show (if k = P.names then x else P.nam k) < 12
      split
      · exact hx
      · exact h.2.2.1 k
    · show 0 < nu P.num x (P.names + 1) x
      rw [nu_same]; exact Nat.succ_pos _
  · rename_i h0
    exact ⟨h, Nat.pos_of_ne_zero h0⟩
theorem tf_name_lt {P : tf_P} {x : Nat} (h : tf_ok P) (hx : x < 12) (h0 : P.num x = 0) : P.names < 12 := by
  have hc := (cntZ_nu (M := P.num) (j := x) (w := 1) 12).1 hx h0 (Nat.succ_pos _)
  have h2 := h.2.1
  omega
theorem tf_vis_ok {G : Nat → Int32} {P : tf_P} {v : Nat} (h : tf_ok P) (hv : v < 24) : tf_ok (tf_vis G P v) := by
  have hn := (tf_name_ok (x := v / 2) h (by omega)).1
  exact ⟨hn.1, hn.2.1, hn.2.2.1, Nat.or_lt_two_pow h.2.2.2 (Nat.pow_lt_pow_right (by decide) hv)⟩
theorem tf_sep_ok {P : tf_P} (h : tf_ok P) : tf_ok (tf_sep P) := h
theorem tf_ok_le {P : tf_P} (h : tf_ok P) : P.names ≤ 12 := by
  have := h.2.1
  omega
/-- the first cell that differs is less -/
def cd_lt (K B : Nat → Nat) (n : Nat) : Prop := ∃ j, j < n ∧ K j < B j ∧ ∀ i, i < j → K i = B i
theorem cd_lt_no {K B : Nat → Nat} {n k : Nat} (h : ∀ i, i < k → K i = B i) (h2 : n ≤ k ∨ B k < K k) : ¬ cd_lt K B n := by
  intro ⟨j, hj, hlt, hb⟩
  rcases Nat.lt_trichotomy j k with q | q | q
  · have := h j q
    omega
  · rw [q] at hlt hj
    omega
  · have := hb k q
    omega
/-- what 'tied' says -/
def tf_td (B : Nat → Nat) (l0 : Nat) (P : tf_P) (x : Int32) : Prop := (x = 1 ∧ 0 < l0 ∧ ∀ j, j < P.len → P.T j = B j) ∨ (x = 0 ∧ (l0 = 0 ∨ cd_lt P.T B P.len))
theorem cd_lt_up {K Q B : Nat → Nat} {n m : Nat} (h : cd_lt K B n) (hm : n ≤ m) (hq : ∀ j, j < n → Q j = K j) : cd_lt Q B m := by
  obtain ⟨j, hj, hl, hb⟩ := h
  exact ⟨j, Nat.lt_of_lt_of_le hj hm, by rw [hq j hj]; exact hl, fun i hi => (hq i (Nat.lt_trans hi hj)).trans (hb i hi)⟩
theorem tf_td_0 (B : Nat → Nat) {l0 : Nat} (P : tf_P) (h : P.len = 0) : tf_td B l0 P (if 0 < l0 then 1 else 0) := by
  split
  · rename_i q
    exact Or.inl ⟨rfl, q, fun j hj => absurd hj (by omega)⟩
  · exact Or.inr ⟨rfl, Or.inl (by omega)⟩
/-- one cell more: the tie goes on or the row is less -/
theorem tf_td_s {B : Nat → Nat} {l0 : Nat} {P Q : tf_P} {x : Int32} (h : tf_td B l0 P x) (he : tf_ext P Q) (hl : Q.len = P.len + 1) (hn : x = 1 → Q.T P.len ≤ B P.len) : tf_td B l0 Q (if x = 1 ∧ Q.T P.len = B P.len then 1 else 0) := by
  rcases h with ⟨hx, h0, h1⟩ | ⟨hx, h1⟩
  · have hle := hn hx
    by_cases e : Q.T P.len = B P.len
    · rw [if_pos ⟨hx, e⟩]
      refine Or.inl ⟨rfl, h0, fun j hj => ?_⟩
      rcases Nat.lt_or_ge j P.len with q | q
      · rw [he.2 j q]; exact h1 j q
      · have : j = P.len := by omega
        rw [this]; exact e
    · rw [if_neg (fun q => e q.2)]
      exact Or.inr ⟨rfl, Or.inr ⟨P.len, by omega, by omega, fun i hi => (he.2 i hi).trans (h1 i hi)⟩⟩
  · rw [if_neg (fun q => by rw [hx] at q; exact absurd q.1 (by decide))]
    refine Or.inr ⟨rfl, ?_⟩
    rcases h1 with h1 | h1
    · exact Or.inl h1
    · exact Or.inr (cd_lt_up h1 he.1 he.2)
theorem ow_shlb {v : Nat} (hv : v < 24) : (1 : Int32) <<< (nI v &&& 31) = nI (2 ^ v) := by
  have key : ∀ i : Fin 24, (1 : Int32) <<< (nI i.1 &&& 31) = nI (2 ^ i.1) := by decide +kernel
  exact key ⟨v, hv⟩
theorem ow_shrb {n v : Nat} (hn : n < 2 ^ 31) (hv : v < 32) : nI n >>> (nI v &&& 31) = nI (n / 2 ^ v) := by
  have key : ∀ i : Fin 32, ((nI i.1 &&& 31).toBitVec.smod 32).toNat = i.1 := by decide +kernel
  exact pk_shrN hn _ v (key ⟨v, hv⟩)
theorem ow_or {a b : Nat} (ha : a < 2 ^ 32) (hb : b < 2 ^ 32) : nI a ||| nI b = nI (a ||| b) := by
  apply Int32.toBitVec_inj.mp
  apply BitVec.eq_of_toNat_eq
  rw [Int32.toBitVec_or, BitVec.toNat_or, pk_tn ha, pk_tn hb, pk_tn (Nat.or_lt_two_pow ha hb)]
theorem tf_code_pos (G : Nat → Int32) (N : Nat → Nat) (v : Nat) : 0 < (tf_code G N v).len := Nat.lt_of_lt_of_le (Nat.succ_pos _) (tf_rest_ext G N 23 0 (tf_ring G N v 24 v tf_0)).1
/-- the two coders -/
def kH (k : Nat) : Prop := k = 7000 ∨ k = 20000
theorem kH_4 {vl : Nat → Nat} {k : Nat} (h : kH k) : ((cX vl).2 (k + 4)).2.1 = 48 := by
  rcases h with rfl | rfl <;> rfl
theorem kH_5 {vl : Nat → Nat} {k : Nat} (h : kH k) : ((cX vl).2 (k + 5)).2.1 = 12 := by
  rcases h with rfl | rfl <;> rfl
theorem kH_6 {vl : Nat → Nat} {k : Nat} (h : kH k) : ((cX vl).2 (k + 6)).2.1 = 12 := by
  rcases h with rfl | rfl <;> rfl
theorem kH_out {k : Nat} (h : kH k) : tH (k + 1000) 1 := by
  rcases h with rfl | rfl <;> (unfold tH; decide)
theorem kH_one {k : Nat} (h : kH k) : tH (k + 2000) 1 := by
  rcases h with rfl | rfl <;> (unfold tH; decide)
theorem kH_sort {k : Nat} (h : kH k) : tH (k + 3000) 12 := by
  rcases h with rfl | rfl <;> (unfold tH; decide)
theorem kH_dj {k h : Nat} (hk : kH k) (hh : nH h) : h + 12 ≤ k ∨ k + 3012 ≤ h := by
  rcases hk with rfl | rfl
  · exact nH_all (P := fun h => h + 12 ≤ 7000 ∨ 7000 + 3012 ≤ h) (by decide) hh
  · exact nH_all (P := fun h => h + 12 ≤ 20000 ∨ 20000 + 3012 ≤ h) (by decide) hh
def tfP (k g : Nat) : Prop := k + 4 ≤ g ∧ g ≤ k + 6
theorem cell64 {G : Nat → Int32} {P : tf_P} {v : Nat} (h : tf_ok P) (hv : v < 24) : tf_cell G P v < 64 := by
  have hn := (tf_name_ok (x := v / 2) h (by omega)).1
  have h1 := hn.1 (v / 2)
  have h2 := hn.2.1
  have h3 := first_b (G := G) (v := v)
  unfold tf_cell
  omega
theorem i2b64 : ∀ w : Fin 64, vp_nar .byte (nI w.1).toInt8.toInt32 = nI w.1 ∧ (nI w.1).toInt8.toInt32 = nI w.1 := by decide +kernel
theorem gbit {g v : Nat} (hg : g < 2 ^ 24) (hv : v < 24) : (nI g >>> (nI v &&& 31)) &&& 1 = nI (g / 2 ^ v % 2) := by
  have hq : g / 2 ^ v < 2 ^ 24 := Nat.lt_of_le_of_lt (Nat.div_le_self _ _) hg
  rw [ow_shrb (by omega) (by omega)]
  apply Int32.toBitVec_inj.mp
  apply BitVec.eq_of_toNat_eq
  rw [Int32.toBitVec_and, BitVec.toNat_and, pk_tn (by omega), pk_tn (by omega)]
  exact Nat.and_one_is_mod _
section CT
variable {vl : Nat → Nat} {y : ow_MS} {h k : Nat} {T : ow_NT}
theorem u_J7_fill_53178_1 {vl : Nat → Nat} {x1 : Int32} {x2 : Int32} {x3 : Int32} {r0 : Nat} {z : ow_MS} {Q : ow_MS → Prop} (H : Tt (fun K k => cm_J7_fill_53178_1 vl K (c_J7_fill_53178 vl K k) x1 x2 x3 r0 z) Q) : Tt (fun K k => c_J7_fill_53178 vl K k 1 x1 x2 x3 r0 z) Q := w_un (fun _ _ => rfl) H
theorem e_J7_fill_53178 {vl : Nat → Nat} {r0 : Nat} {x1 : Int32} {z : ow_MS} {Q : ow_MS → Prop} (H : Tt (fun K k => c_J7_fill_53178 vl K k 0 x1 0 0 r0 z) Q) : Te (fun K => ce_J7_fill_53178 vl K r0 x1 z) Q := w_te H
theorem u_J7_fill_53178_0 {vl : Nat → Nat} {x1 : Int32} {x2 : Int32} {x3 : Int32} {r0 : Nat} {z : ow_MS} {Q : ow_MS → Prop} (H : Tt (fun K k => cm_J7_fill_53178_0 vl K (c_J7_fill_53178 vl K k) x1 x2 x3 r0 z) Q) : Tt (fun K k => c_J7_fill_53178 vl K k 0 x1 x2 x3 r0 z) Q := w_un (fun _ _ => rfl) H
theorem tc_fillA {g l : Nat} {x : Int32} (hL : ((cX vl).2 g).2.1 = l) (hl : l < 2 ^ 31) : Te (fun K => ce_J7_fill_53178 vl K g x y) (fun y1 => (∀ j, j < l → y1.2.1 g j = x) ∧ fr (fun q => q = g) y y1) := by
  let Q : ow_MS → Prop := fun y1 => (∀ j, j < l → y1.2.1 g j = x) ∧ fr (fun q => q = g) y y1
  have c1 : ∀ (d i : Nat) (y1 : ow_MS), i + d = l → (∀ j, j < i → y1.2.1 g j = x) → fr (fun q => q = g) y y1 → Tt (fun K t => c_J7_fill_53178 vl K t 1 x (nI i) (nI l) g y1) Q := by
    intro d
    induction d with
    | zero =>
      intro i y1 hi h1 h2
      refine u_J7_fill_53178_1 ?_; unfold cm_J7_fill_53178_1
      exact w_leT (by omega) (by omega) (w_some ⟨fun j hj => h1 j (by omega), h2⟩)
    | succ d ih =>
      intro i y1 hi h1 h2
      refine u_J7_fill_53178_1 ?_; unfold cm_J7_fill_53178_1
      refine w_leF (by omega) (by omega) (w_ctI hL rfl (by omega) ?_)
      rw [nI_1]
      refine ih (i + 1) _ (by omega) (fun j hj => ?_) (fr_I2 h2 rfl)
      by_cases e : j = i
      · rw [e]; exact po_usI_at
      · exact rd_ne e (h1 j (by omega))
  refine e_J7_fill_53178 ?_
  refine u_J7_fill_53178_0 ?_; unfold cm_J7_fill_53178_0
  rw [show uw_len (cX vl) y g = l from hL]
  exact c1 l 0 y (by omega) (fun j hj => absurd hj (by omega)) fr_rf
/-- the rows of a coder while it goes on -/
def tfS (y : ow_MS) (k : Nat) (z : ow_MS) (P : tf_P) : Prop := (∀ x, x < 12 → z.2.1 (k + 5) x = nI (P.num x)) ∧ (∀ j, j < P.names → z.2.1 (k + 6) j = nI (P.nam j)) ∧ (∀ j, j < P.len → z.2.1 (k + 4) j = nI (P.T j)) ∧ fr (tfP k) y z
def tfR (y : ow_MS) (k : Nat) (C : tf_P) (B : Nat → Nat) (l0 : Nat) (r : Int32 × ow_MS) : Prop := fr (tfP k) y r.2 ∧ ((r.1 = nI C.len ∧ (∀ j, j < C.len → r.2.2.1 (k + 4) j = nI (C.T j)) ∧ (l0 = 0 ∨ cd_lt C.T B C.len)) ∨ (r.1 = 0 ∧ 0 < l0 ∧ ¬ cd_lt C.T B C.len))
def oNI : Option Nat → Int32
  | none => -1
  | some f => nI f
theorem tf_look_b {P : tf_P} (hn : ∀ j, P.nam j < 12) : ∀ (d j f : Nat), (tf_look P d j).1 = some f → f < 24
  | 0, j, f => fun e => by cases e
  | d + 1, j, f => by
    have := hn j
    rw [tf_look]
    split
    · intro e; cases e; omega
    · split
      · intro e; cases e; omega
      · exact tf_look_b hn d (j + 1) f
theorem u_X2_tryFrom_14 {vl : Nat → Nat} {x2 : Int32} {x4 : Int32} {x5 : Int32} {x6 : Int32} {x7 : Int32} {x8 : Int32} {x9 : Int32} {x10 : Int32} {x11 : Int32} {x12 : Int32} {x13 : Int32} {x14 : Int32} {r0 : Nat} {r1 : Nat} {r3 : Nat} {t0 : Int32} {z : ow_MS} {Q : (Int32 × ow_MS) → Prop} (H : Tt (fun K k => cm_X2_tryFrom_14 vl K (c_X2_tryFrom vl K k) x2 x4 x5 x6 x7 x8 x9 x10 x11 x12 x13 x14 r0 r1 r3 t0 z) Q) : Tt (fun K k => c_X2_tryFrom vl K k 14 x2 x4 x5 x6 x7 x8 x9 x10 x11 x12 x13 x14 r0 r1 r3 t0 z) Q := w_un (fun _ _ => rfl) H
theorem u_X2_tryFrom_2 {vl : Nat → Nat} {x2 : Int32} {x4 : Int32} {x5 : Int32} {x6 : Int32} {x7 : Int32} {x8 : Int32} {x9 : Int32} {x10 : Int32} {x11 : Int32} {x12 : Int32} {x13 : Int32} {x14 : Int32} {r0 : Nat} {r1 : Nat} {r3 : Nat} {t0 : Int32} {z : ow_MS} {Q : (Int32 × ow_MS) → Prop} (H : Tt (fun K k => cm_X2_tryFrom_2 vl K (c_X2_tryFrom vl K k) x2 x4 x5 x6 x7 x8 x9 x10 x11 x12 x13 x14 r0 r1 r3 t0 z) Q) : Tt (fun K k => c_X2_tryFrom vl K k 2 x2 x4 x5 x6 x7 x8 x9 x10 x11 x12 x13 x14 r0 r1 r3 t0 z) Q := w_un (fun _ _ => rfl) H
theorem u_X2_tryFrom_11 {vl : Nat → Nat} {x2 : Int32} {x4 : Int32} {x5 : Int32} {x6 : Int32} {x7 : Int32} {x8 : Int32} {x9 : Int32} {x10 : Int32} {x11 : Int32} {x12 : Int32} {x13 : Int32} {x14 : Int32} {r0 : Nat} {r1 : Nat} {r3 : Nat} {t0 : Int32} {z : ow_MS} {Q : (Int32 × ow_MS) → Prop} (H : Tt (fun K k => cm_X2_tryFrom_11 vl K (c_X2_tryFrom vl K k) x2 x4 x5 x6 x7 x8 x9 x10 x11 x12 x13 x14 r0 r1 r3 t0 z) Q) : Tt (fun K k => c_X2_tryFrom vl K k 11 x2 x4 x5 x6 x7 x8 x9 x10 x11 x12 x13 x14 r0 r1 r3 t0 z) Q := w_un (fun _ _ => rfl) H
theorem u_X2_tryFrom_13 {vl : Nat → Nat} {x2 : Int32} {x4 : Int32} {x5 : Int32} {x6 : Int32} {x7 : Int32} {x8 : Int32} {x9 : Int32} {x10 : Int32} {x11 : Int32} {x12 : Int32} {x13 : Int32} {x14 : Int32} {r0 : Nat} {r1 : Nat} {r3 : Nat} {t0 : Int32} {z : ow_MS} {Q : (Int32 × ow_MS) → Prop} (H : Tt (fun K k => cm_X2_tryFrom_13 vl K (c_X2_tryFrom vl K k) x2 x4 x5 x6 x7 x8 x9 x10 x11 x12 x13 x14 r0 r1 r3 t0 z) Q) : Tt (fun K k => c_X2_tryFrom vl K k 13 x2 x4 x5 x6 x7 x8 x9 x10 x11 x12 x13 x14 r0 r1 r3 t0 z) Q := w_un (fun _ _ => rfl) H
theorem u_X2_tryFrom_12 {vl : Nat → Nat} {x2 : Int32} {x4 : Int32} {x5 : Int32} {x6 : Int32} {x7 : Int32} {x8 : Int32} {x9 : Int32} {x10 : Int32} {x11 : Int32} {x12 : Int32} {x13 : Int32} {x14 : Int32} {r0 : Nat} {r1 : Nat} {r3 : Nat} {t0 : Int32} {z : ow_MS} {Q : (Int32 × ow_MS) → Prop} (H : Tt (fun K k => cm_X2_tryFrom_12 vl K (c_X2_tryFrom vl K k) x2 x4 x5 x6 x7 x8 x9 x10 x11 x12 x13 x14 r0 r1 r3 t0 z) Q) : Tt (fun K k => c_X2_tryFrom vl K k 12 x2 x4 x5 x6 x7 x8 x9 x10 x11 x12 x13 x14 r0 r1 r3 t0 z) Q := w_un (fun _ _ => rfl) H
theorem u_X2_tryFrom_10 {vl : Nat → Nat} {x2 : Int32} {x4 : Int32} {x5 : Int32} {x6 : Int32} {x7 : Int32} {x8 : Int32} {x9 : Int32} {x10 : Int32} {x11 : Int32} {x12 : Int32} {x13 : Int32} {x14 : Int32} {r0 : Nat} {r1 : Nat} {r3 : Nat} {t0 : Int32} {z : ow_MS} {Q : (Int32 × ow_MS) → Prop} (H : Tt (fun K k => cm_X2_tryFrom_10 vl K (c_X2_tryFrom vl K k) x2 x4 x5 x6 x7 x8 x9 x10 x11 x12 x13 x14 r0 r1 r3 t0 z) Q) : Tt (fun K k => c_X2_tryFrom vl K k 10 x2 x4 x5 x6 x7 x8 x9 x10 x11 x12 x13 x14 r0 r1 r3 t0 z) Q := w_un (fun _ _ => rfl) H
theorem u_X2_tryFrom_9 {vl : Nat → Nat} {x2 : Int32} {x4 : Int32} {x5 : Int32} {x6 : Int32} {x7 : Int32} {x8 : Int32} {x9 : Int32} {x10 : Int32} {x11 : Int32} {x12 : Int32} {x13 : Int32} {x14 : Int32} {r0 : Nat} {r1 : Nat} {r3 : Nat} {t0 : Int32} {z : ow_MS} {Q : (Int32 × ow_MS) → Prop} (H : Tt (fun K k => cm_X2_tryFrom_9 vl K (c_X2_tryFrom vl K k) x2 x4 x5 x6 x7 x8 x9 x10 x11 x12 x13 x14 r0 r1 r3 t0 z) Q) : Tt (fun K k => c_X2_tryFrom vl K k 9 x2 x4 x5 x6 x7 x8 x9 x10 x11 x12 x13 x14 r0 r1 r3 t0 z) Q := w_un (fun _ _ => rfl) H
theorem u_X2_tryFrom_8 {vl : Nat → Nat} {x2 : Int32} {x4 : Int32} {x5 : Int32} {x6 : Int32} {x7 : Int32} {x8 : Int32} {x9 : Int32} {x10 : Int32} {x11 : Int32} {x12 : Int32} {x13 : Int32} {x14 : Int32} {r0 : Nat} {r1 : Nat} {r3 : Nat} {t0 : Int32} {z : ow_MS} {Q : (Int32 × ow_MS) → Prop} (H : Tt (fun K k => cm_X2_tryFrom_8 vl K (c_X2_tryFrom vl K k) x2 x4 x5 x6 x7 x8 x9 x10 x11 x12 x13 x14 r0 r1 r3 t0 z) Q) : Tt (fun K k => c_X2_tryFrom vl K k 8 x2 x4 x5 x6 x7 x8 x9 x10 x11 x12 x13 x14 r0 r1 r3 t0 z) Q := w_un (fun _ _ => rfl) H
theorem u_X2_tryFrom_3 {vl : Nat → Nat} {x2 : Int32} {x4 : Int32} {x5 : Int32} {x6 : Int32} {x7 : Int32} {x8 : Int32} {x9 : Int32} {x10 : Int32} {x11 : Int32} {x12 : Int32} {x13 : Int32} {x14 : Int32} {r0 : Nat} {r1 : Nat} {r3 : Nat} {t0 : Int32} {z : ow_MS} {Q : (Int32 × ow_MS) → Prop} (H : Tt (fun K k => cm_X2_tryFrom_3 vl K (c_X2_tryFrom vl K k) x2 x4 x5 x6 x7 x8 x9 x10 x11 x12 x13 x14 r0 r1 r3 t0 z) Q) : Tt (fun K k => c_X2_tryFrom vl K k 3 x2 x4 x5 x6 x7 x8 x9 x10 x11 x12 x13 x14 r0 r1 r3 t0 z) Q := w_un (fun _ _ => rfl) H
theorem u_X2_tryFrom_7 {vl : Nat → Nat} {x2 : Int32} {x4 : Int32} {x5 : Int32} {x6 : Int32} {x7 : Int32} {x8 : Int32} {x9 : Int32} {x10 : Int32} {x11 : Int32} {x12 : Int32} {x13 : Int32} {x14 : Int32} {r0 : Nat} {r1 : Nat} {r3 : Nat} {t0 : Int32} {z : ow_MS} {Q : (Int32 × ow_MS) → Prop} (H : Tt (fun K k => cm_X2_tryFrom_7 vl K (c_X2_tryFrom vl K k) x2 x4 x5 x6 x7 x8 x9 x10 x11 x12 x13 x14 r0 r1 r3 t0 z) Q) : Tt (fun K k => c_X2_tryFrom vl K k 7 x2 x4 x5 x6 x7 x8 x9 x10 x11 x12 x13 x14 r0 r1 r3 t0 z) Q := w_un (fun _ _ => rfl) H
theorem u_X2_tryFrom_6 {vl : Nat → Nat} {x2 : Int32} {x4 : Int32} {x5 : Int32} {x6 : Int32} {x7 : Int32} {x8 : Int32} {x9 : Int32} {x10 : Int32} {x11 : Int32} {x12 : Int32} {x13 : Int32} {x14 : Int32} {r0 : Nat} {r1 : Nat} {r3 : Nat} {t0 : Int32} {z : ow_MS} {Q : (Int32 × ow_MS) → Prop} (H : Tt (fun K k => cm_X2_tryFrom_6 vl K (c_X2_tryFrom vl K k) x2 x4 x5 x6 x7 x8 x9 x10 x11 x12 x13 x14 r0 r1 r3 t0 z) Q) : Tt (fun K k => c_X2_tryFrom vl K k 6 x2 x4 x5 x6 x7 x8 x9 x10 x11 x12 x13 x14 r0 r1 r3 t0 z) Q := w_un (fun _ _ => rfl) H
theorem u_X2_tryFrom_5 {vl : Nat → Nat} {x2 : Int32} {x4 : Int32} {x5 : Int32} {x6 : Int32} {x7 : Int32} {x8 : Int32} {x9 : Int32} {x10 : Int32} {x11 : Int32} {x12 : Int32} {x13 : Int32} {x14 : Int32} {r0 : Nat} {r1 : Nat} {r3 : Nat} {t0 : Int32} {z : ow_MS} {Q : (Int32 × ow_MS) → Prop} (H : Tt (fun K k => cm_X2_tryFrom_5 vl K (c_X2_tryFrom vl K k) x2 x4 x5 x6 x7 x8 x9 x10 x11 x12 x13 x14 r0 r1 r3 t0 z) Q) : Tt (fun K k => c_X2_tryFrom vl K k 5 x2 x4 x5 x6 x7 x8 x9 x10 x11 x12 x13 x14 r0 r1 r3 t0 z) Q := w_un (fun _ _ => rfl) H
theorem u_X2_tryFrom_4 {vl : Nat → Nat} {x2 : Int32} {x4 : Int32} {x5 : Int32} {x6 : Int32} {x7 : Int32} {x8 : Int32} {x9 : Int32} {x10 : Int32} {x11 : Int32} {x12 : Int32} {x13 : Int32} {x14 : Int32} {r0 : Nat} {r1 : Nat} {r3 : Nat} {t0 : Int32} {z : ow_MS} {Q : (Int32 × ow_MS) → Prop} (H : Tt (fun K k => cm_X2_tryFrom_4 vl K (c_X2_tryFrom vl K k) x2 x4 x5 x6 x7 x8 x9 x10 x11 x12 x13 x14 r0 r1 r3 t0 z) Q) : Tt (fun K k => c_X2_tryFrom vl K k 4 x2 x4 x5 x6 x7 x8 x9 x10 x11 x12 x13 x14 r0 r1 r3 t0 z) Q := w_un (fun _ _ => rfl) H
theorem e_X2_tryFrom {vl : Nat → Nat} {r0 : Nat} {r1 : Nat} {x2 : Int32} {z : ow_MS} {Q : (Int32 × ow_MS) → Prop} (H : Tt (fun K k => c_X2_tryFrom vl K k 0 x2 0 0 0 0 0 0 0 0 0 0 0 r0 r1 0 0 z) Q) : Te (fun K => ce_X2_tryFrom vl K r0 r1 x2 z) Q := w_te H
theorem u_X2_tryFrom_0 {vl : Nat → Nat} {x2 : Int32} {x4 : Int32} {x5 : Int32} {x6 : Int32} {x7 : Int32} {x8 : Int32} {x9 : Int32} {x10 : Int32} {x11 : Int32} {x12 : Int32} {x13 : Int32} {x14 : Int32} {r0 : Nat} {r1 : Nat} {r3 : Nat} {t0 : Int32} {z : ow_MS} {Q : (Int32 × ow_MS) → Prop} (H : Tt (fun K k => cm_X2_tryFrom_0 vl K (c_X2_tryFrom vl K k) x2 x4 x5 x6 x7 x8 x9 x10 x11 x12 x13 x14 r0 r1 r3 t0 z) Q) : Tt (fun K k => c_X2_tryFrom vl K k 0 x2 x4 x5 x6 x7 x8 x9 x10 x11 x12 x13 x14 r0 r1 r3 t0 z) Q := w_un (fun _ _ => rfl) H
theorem u_X2_tryFrom_1 {vl : Nat → Nat} {x2 : Int32} {x4 : Int32} {x5 : Int32} {x6 : Int32} {x7 : Int32} {x8 : Int32} {x9 : Int32} {x10 : Int32} {x11 : Int32} {x12 : Int32} {x13 : Int32} {x14 : Int32} {r0 : Nat} {r1 : Nat} {r3 : Nat} {t0 : Int32} {z : ow_MS} {Q : (Int32 × ow_MS) → Prop} (H : Tt (fun K k => cm_X2_tryFrom_1 vl K (c_X2_tryFrom vl K k) x2 x4 x5 x6 x7 x8 x9 x10 x11 x12 x13 x14 r0 r1 r3 t0 z) Q) : Tt (fun K k => c_X2_tryFrom vl K k 1 x2 x4 x5 x6 x7 x8 x9 x10 x11 x12 x13 x14 r0 r1 r3 t0 z) Q := w_un (fun _ _ => rfl) H
theorem tc_tryFrom {B : Nat → Nat} {l0 v0 : Nat} (hk : kH k) (hh : nH h) (hy : cAt y h T) (hb : ow_b24 T.2.2.1) (hv0 : v0 < 24) (h30 : (tf_code T.2.2.2 T.2.2.1.1 v0).len ≤ 30) (hl0 : l0 ≤ 30) (hL : y.2.1 (k + 2002) 0 = nI l0) (hl1 : l0 = 0 ∨ l0 = (tf_code T.2.2.2 T.2.2.1.1 v0).len) (hB : ∀ j, j < l0 → y.2.1 (k + 2001) j = nI (B j)) (hB64 : ∀ j, B j < 64) : Te (fun K => ce_X2_tryFrom vl K k h (nI v0) y) (tfR y k (tf_code T.2.2.2 T.2.2.1.1 v0) B l0) := by
  have hdj := kH_dj hk hh
  have hcA : ∀ z, fr (tfP k) y z → cAt z h T := fun z hf => cAt_fr hf (fun g hg hq => by unfold cP at hg; unfold tfP at hq; omega) hy
  have hbA : ∀ z, fr (tfP k) y z → ∀ j, j < l0 → z.2.1 (k + 2001) j = nI (B j) := by
    intro z hf j hj
    rw [(hf (k + 2001) (by unfold tfP; omega)).2.1]
    exact hB j hj
  generalize hC : tf_code T.2.2.2 T.2.2.1.1 v0 = C at *
  let G := T.2.2.2
  let N := T.2.2.1.1
  let Q := tfR y k C B l0
  -- the end
  have c14 : ∀ (z : ow_MS) (x4 x6 x7 x9 x10 : Int32) (names : Nat), tfS y k z C → tf_td B l0 C x4 → Tt (fun K t => c_X2_tryFrom vl K t 14 (nI v0) x4 (nI names) x6 x7 (nI C.len) x9 x10 0 0 0 0 k h (k + 2000 + 1) 0 z) Q := by
    intro z x4 x6 x7 x9 x10 names hs ht
    refine u_X2_tryFrom_14 ?_; unfold cm_X2_tryFrom_14
    refine w_if (fun e => w_some ⟨hs.2.2.2, Or.inl ⟨rfl, hs.2.2.1, ?_⟩⟩) (fun e => w_some ⟨hs.2.2.2, Or.inr ⟨rfl, ?_, ?_⟩⟩)
    · rcases ht with ⟨h1, h2, h3⟩ | ⟨h1, h2⟩
      · exact absurd (h1.symm.trans e) (by decide)
      · exact h2
    · rcases ht with ⟨h1, h2, h3⟩ | ⟨h1, h2⟩
      · exact h2
      · exact absurd h1 e
    · rcases ht with ⟨h1, h2, h3⟩ | ⟨h1, h2⟩
      · exact cd_lt_no (k := C.len) h3 (Or.inl (Nat.le_refl _))
      · exact absurd h1 e
  -- what one outer step asks
  have c2 : ∀ (D i : Nat), i + D = 24 → ∀ (fo : Option Nat) (kk : Nat) (P : tf_P) (z : ow_MS) (x4 : Int32), tf_ok P → kk ≤ P.names → (∀ f, fo = some f → f < 24) → C = tf_out G N D fo kk P → tfS y k z P → tf_td B l0 P x4 → Tt (fun K t => c_X2_tryFrom vl K t 2 (nI v0) x4 (nI P.names) (nI kk) (nI P.gone) (nI P.len) (oNI fo) (nI i) 0 0 0 0 k h (k + 2000 + 1) 0 z) Q := by
    intro D
    induction D with
    | zero =>
      intro i hi fo kk P z x4 hok hkk hf hCe hs ht
      have e : C = P := hCe
      rw [← e] at hs ht ⊢
      refine u_X2_tryFrom_2 ?_; unfold cm_X2_tryFrom_2
      exact w_leT (a := 24) (by omega) (by omega) (c14 _ _ _ _ _ _ _ hs ht)
    | succ D ihD =>
      intro i hi fo kk P z x4 hok hkk hf hCe hs ht
      cases fo with
      | none =>
        have e : C = P := hCe
        rw [← e] at hs ht ⊢
        refine u_X2_tryFrom_2 ?_; unfold cm_X2_tryFrom_2
        exact w_leF (a := 24) (by omega) (by omega) (w_ifT rfl (c14 _ _ _ _ _ _ _ hs ht))
      | some f =>
        have hf24 := hf f rfl
        have hCe' : C = tf_rest G N D kk (tf_ring G N f 24 f P) := hCe
        -- looking on
        have c11 : ∀ (d j : Nat) (P1 : tf_P) (z1 : ow_MS) (t1 x11 x12 : Int32), j + d = P1.names → tf_ok P1 → (C = tf_out G N D (tf_look P1 d j).1 (tf_look P1 d j).2 P1) → tfS y k z1 P1 → tf_td B l0 P1 t1 → Tt (fun K t => c_X2_tryFrom vl K t 11 (nI v0) t1 (nI P1.names) (nI j) (nI P1.gone) (nI P1.len) (-1) (nI i) x11 x12 0 0 k h (k + 2000 + 1) 0 z1) Q := by
          intro d
          induction d with
          | zero =>
            intro j P1 z1 t1 x11 x12 hj hok1 hc1 hs1 ht1
            have h12 := tf_ok_le hok1
            refine u_X2_tryFrom_11 ?_; unfold cm_X2_tryFrom_11
            refine w_leT (by omega) (by omega) ?_
            refine u_X2_tryFrom_13 ?_; unfold cm_X2_tryFrom_13
            rw [nI_1]
            exact ihD (i + 1) (by omega) none j P1 z1 t1 hok1 (by omega) (fun f e => by cases e) hc1 hs1 ht1
          | succ d ihd =>
            intro j P1 z1 t1 x11 x12 hj hok1 hc1 hs1 ht1
            have h12 := tf_ok_le hok1
            have hnj := hok1.2.2.1 j
            have stop : ∀ (f1 : Nat) (w1 w2 : Int32), f1 < 24 → C = tf_out G N D (some f1) (j + 1) P1 → Tt (fun K t => c_X2_tryFrom vl K t 12 (nI v0) t1 (nI P1.names) (nI j) (nI P1.gone) (nI P1.len) (-1) (nI i) w1 w2 0 0 k h (k + 2000 + 1) (nI f1) z1) Q := by
              intro f1 w1 w2 hf1 hc2
              have hgo : Tt (fun K t => c_X2_tryFrom vl K t 13 (nI v0) t1 (nI P1.names) (nI (j + 1)) (nI P1.gone) (nI P1.len) (nI f1) (nI i) w1 w2 0 0 k h (k + 2000 + 1) 0 z1) Q := by
                refine u_X2_tryFrom_13 ?_; unfold cm_X2_tryFrom_13
                rw [nI_1]
                exact ihD (i + 1) (by omega) (some f1) (j + 1) P1 z1 t1 hok1 (by omega) (fun f e => by cases e; exact hf1) hc2 hs1 ht1
              refine u_X2_tryFrom_12 ?_; unfold cm_X2_tryFrom_12
              rw [nI_1]
              refine u_X2_tryFrom_11 ?_; unfold cm_X2_tryFrom_11
              refine w_le (by omega) (by omega) (fun _ => hgo) (fun _ => w_ifF (nI_nm1 (by omega)) hgo)
            have onw : ∀ (w1 w2 : Int32), C = tf_out G N D (tf_look P1 d (j + 1)).1 (tf_look P1 d (j + 1)).2 P1 → Tt (fun K t => c_X2_tryFrom vl K t 12 (nI v0) t1 (nI P1.names) (nI j) (nI P1.gone) (nI P1.len) (-1) (nI i) w1 w2 0 0 k h (k + 2000 + 1) (-1) z1) Q := by
              intro w1 w2 hc2
              refine u_X2_tryFrom_12 ?_; unfold cm_X2_tryFrom_12
              rw [nI_1]
              exact ihd (j + 1) P1 z1 t1 w1 w2 (by omega) hok1 hc2 hs1 ht1
            rw [tf_look] at hc1
            refine u_X2_tryFrom_11 ?_; unfold cm_X2_tryFrom_11
            refine w_leF (by omega) (by omega) (w_ifT rfl (w_crI (kH_6 hk) rfl (by omega) (hs1.2.1 j (by omega)) ?_))
            rw [show (2 : Int32) * nI (P1.nam j) = nI (2 * P1.nam j) from pk_mul 2 _, nI_1, gbit hok1.2.2.2 (by omega), gbit hok1.2.2.2 (by omega)]
            refine w_eqN (b := 0) (by omega) (by omega) (fun e => ?_) (fun e => w_eqN (b := 0) (by omega) (by omega) (fun e2 => ?_) (fun e2 => ?_))
            · rw [if_pos e] at hc1
              exact stop _ _ _ (by omega) hc1
            · rw [if_neg e, if_pos e2] at hc1
              exact stop _ _ _ (by omega) hc1
            · rw [if_neg e, if_neg e2] at hc1
              exact onw _ _ hc1
        -- behind a ring
        have c8 : ∀ (P1 : tf_P) (z1 : ow_MS) (t1 x11 x12 : Int32), P.names ≤ P1.names → tf_ok P1 → C = tf_rest G N D kk P1 → tfS y k z1 P1 → tf_td B l0 P1 t1 → Tt (fun K t => c_X2_tryFrom vl K t 8 (nI v0) t1 (nI P1.names) (nI kk) (nI P1.gone) (nI P1.len) (nI f) (nI i) x11 x12 0 0 k h (k + 2000 + 1) 0 z1) Q := by
          intro P1 z1 t1 x11 x12 hn1 hok1 hc1 hs1 ht1
          have he : tf_ext (tf_sep P1) C := by rw [hc1]; exact tf_rest_ext G N D kk P1
          have hl1 : P1.len + 1 ≤ C.len := he.1
          have c10 : ∀ t2 : Int32, tf_td B l0 (tf_sep P1) t2 → Tt (fun K t => c_X2_tryFrom vl K t 10 (nI v0) t1 (nI P1.names) (nI kk) (nI P1.gone) (nI P1.len) (nI f) (nI i) x11 x12 0 0 k h (k + 2000 + 1) t2 z1) Q := by
            intro t2 ht2
            refine u_X2_tryFrom_10 ?_; unfold cm_X2_tryFrom_10
            refine w_ctB (kH_4 hk) rfl (show P1.len < 48 by omega) ?_
            rw [nI_1]
            refine c11 (P1.names - kk) kk (tf_sep P1) _ t2 _ _ (show kk + (P1.names - kk) = P1.names by omega) (tf_sep_ok hok1) hc1 ⟨fun x hx => rd_ot (by omega) (hs1.1 x hx), fun j hj => rd_ot (by omega) (hs1.2.1 j hj), fun j hj => ?_, fr_I2 hs1.2.2.2 ⟨by omega, by omega⟩⟩ ht2
            have hj' : j < P1.len + 1 := hj
            show (usI z1 (k + 4) P1.len _).2.1 (k + 4) j = nI (nu P1.T P1.len 0 j)
            by_cases e : j = P1.len
            · rw [e, nu_same, po_usI_at]
              exact nar64 (a := 0) (by omega)
            · rw [nu_ne _ _ e]
              exact rd_ne e (hs1.2.2.1 j (by omega))
          have hsep : ∀ x : Int32, (x = if t1 = 1 ∧ (tf_sep P1).T P1.len = B P1.len then 1 else 0) → tf_td B l0 (tf_sep P1) x := by
            intro x e
            rw [e]
            refine tf_td_s ht1 (tf_sep_ext P1) rfl (fun _ => ?_)
            show nu P1.T P1.len 0 P1.len ≤ _
            rw [nu_same]
            omega
          have hT0 : (tf_sep P1).T P1.len = 0 := nu_same _ _ _
          have c9 : (0 : Int32) = (if t1 = 1 ∧ (tf_sep P1).T P1.len = B P1.len then 1 else 0) → Tt (fun K t => c_X2_tryFrom vl K t 9 (nI v0) t1 (nI P1.names) (nI kk) (nI P1.gone) (nI P1.len) (nI f) (nI i) x11 x12 0 0 k h (k + 2000 + 1) 0 z1) Q := by
            intro e
            refine u_X2_tryFrom_9 ?_; unfold cm_X2_tryFrom_9
            exact c10 0 (hsep 0 e)
          refine u_X2_tryFrom_8 ?_; unfold cm_X2_tryFrom_8
          rcases ht1 with ⟨h1, h2, h3⟩ | ⟨h1, h2⟩
          · subst h1
            have hlt : P1.len < l0 := by omega
            refine w_ifF (by decide) (w_crI (tH_1 (kH_one hk)) rfl (show P1.len < 30 * 1 by omega) (hbA z1 hs1.2.2.2 P1.len hlt) (w_eqN (b := 0) (by have := hB64 P1.len; omega) (by omega) (fun e => ?_) (fun e => ?_)))
            · exact c10 1 (hsep 1 (by rw [hT0, e, if_pos ⟨rfl, rfl⟩]))
            · refine c9 ?_
              rw [hT0, if_neg (fun q => e q.2.symm)]
          · subst h1
            refine w_ifT rfl (c9 ?_)
            rw [if_neg (fun q => absurd q.1 (by decide))]
        -- one ring
        have c3 : ∀ (d a v : Nat) (P1 : tf_P) (z1 : ow_MS) (t1 : Int32), a + d = 24 → v < 24 → P.names ≤ P1.names → tf_ok P1 → C = tf_rest G N D kk (tf_ring G N f d v P1) → tfS y k z1 P1 → tf_td B l0 P1 t1 → Tt (fun K t => c_X2_tryFrom vl K t 3 (nI v0) t1 (nI P1.names) (nI kk) (nI P1.gone) (nI P1.len) (nI f) (nI i) (nI v) (nI a) 0 0 k h (k + 2000 + 1) 0 z1) Q := by
          intro d
          induction d with
          | zero =>
            intro a v P1 z1 t1 ha hv hn1 hok1 hc1 hs1 ht1
            refine u_X2_tryFrom_3 ?_; unfold cm_X2_tryFrom_3
            exact w_leT (a := 24) (by omega) (by omega) (c8 P1 z1 t1 _ _ hn1 hok1 hc1 hs1 ht1)
          | succ d ihd =>
            intro a v P1 z1 t1 ha hv hn1 hok1 hc1 hs1 ht1
            have hst : tf_ext (tf_vis G P1 v) C := by
              rw [hc1, tf_ring]
              split
              · exact tf_ext_tr (tf_sep_ext _) (tf_rest_ext G N D kk _)
              · exact tf_ext_tr (tf_ext_tr (tf_ring_ext G N f d _ _) (tf_sep_ext _)) (tf_rest_ext G N D kk _)
            have hl1 : P1.len + 1 ≤ C.len := hst.1
            have hvk := tf_vis_ok (G := G) hok1 hv
            have hc64 := cell64 (G := G) hok1 hv
            have hCl : C.T P1.len = tf_cell G P1 v := by
              rw [hst.2 P1.len (Nat.lt_succ_self _)]
              exact nu_same _ _ _
            have hvn : P.names ≤ (tf_vis G P1 v).names := Nat.le_trans hn1 tf_vis_names
            have nm := tf_name_ok (x := v / 2) hok1 (by omega)
            -- the cell is written
            have c7 : ∀ (z2 : ow_MS) (t2 x13 : Int32), (∀ x, x < 12 → z2.2.1 (k + 5) x = nI ((tf_vis G P1 v).num x)) → (∀ j, j < (tf_vis G P1 v).names → z2.2.1 (k + 6) j = nI ((tf_vis G P1 v).nam j)) → (∀ j, j < P1.len → z2.2.1 (k + 4) j = nI (P1.T j)) → fr (tfP k) y z2 → tf_td B l0 (tf_vis G P1 v) t2 → Tt (fun K t => c_X2_tryFrom vl K t 7 (nI v0) t1 (nI (tf_vis G P1 v).names) (nI kk) (nI P1.gone) (nI P1.len) (nI f) (nI i) (nI v) (nI a) x13 (nI (tf_cell G P1 v)) k h (k + 2000 + 1) t2 z2) Q := by
              intro z2 t2 x13 g1 g2 g3 g4 ht2
              have hs3 : tfS y k (usI z2 (k + 4) P1.len (vp_nar .byte (nI (tf_cell G P1 v)).toInt8.toInt32)) (tf_vis G P1 v) := by
                refine ⟨fun x hx => rd_ot (by omega) (g1 x hx), fun j hj => rd_ot (by omega) (g2 j hj), fun j hj => ?_, fr_I2 g4 ⟨by omega, by omega⟩⟩
                have hj' : j < P1.len + 1 := hj
                show (usI z2 (k + 4) P1.len _).2.1 (k + 4) j = nI (nu P1.T P1.len (tf_cell G P1 v) j)
                by_cases e : j = P1.len
                · rw [e, nu_same, po_usI_at]
                  exact (i2b64 ⟨_, hc64⟩).1
                · rw [nu_ne _ _ e]
                  exact rd_ne e (g3 j (by omega))
              refine u_X2_tryFrom_7 ?_; unfold cm_X2_tryFrom_7
              refine w_ctB (kH_4 hk) rfl (show P1.len < 48 by omega) (w_crI (nH_1 hh) rfl hv ((hcA _ hs3.2.2.2).2.2.1 v) ?_)
              rw [ow_shlb hv, ow_or (by have := hok1.2.2.2; omega) (Nat.lt_trans (Nat.pow_lt_pow_right (by decide) hv) (by decide)), nI_1 (a := P1.len)]
              have hg : (tf_vis G P1 v).gone = P1.gone ||| 2 ^ v := rfl
              rw [← hg]
              have hle : (tf_vis G P1 v).len = P1.len + 1 := rfl
              rw [← hle]
              refine w_eqN (a := N v) (b := f) (by have h9 : N v < 24 := hb.1 v; omega) (by omega) (fun e => ?_) (fun e => ?_)
              · rw [tf_ring, if_pos e] at hc1
                exact c8 _ _ t2 _ _ hvn hvk hc1 hs3 ht2
              · rw [tf_ring, if_neg e] at hc1
                rw [nI_1]
                exact ihd (a + 1) (N v) _ _ t2 (by omega) (hb.1 v) hvn hvk hc1 hs3 ht2
            have htd : ∀ x : Int32, (t1 = 1 → tf_cell G P1 v ≤ B P1.len) → (x = if t1 = 1 ∧ tf_cell G P1 v = B P1.len then 1 else 0) → tf_td B l0 (tf_vis G P1 v) x := by
              intro x e0 e
              have eT : (tf_vis G P1 v).T P1.len = tf_cell G P1 v := nu_same _ _ _
              rw [e, ← eT]
              refine tf_td_s ht1 (tf_vis_ext G P1 v) rfl (fun q => ?_)
              rw [eT]
              exact e0 q
            have c5 : ∀ (z2 : ow_MS) (x13 : Int32), (∀ x, x < 12 → z2.2.1 (k + 5) x = nI ((tf_vis G P1 v).num x)) → (∀ j, j < (tf_vis G P1 v).names → z2.2.1 (k + 6) j = nI ((tf_vis G P1 v).nam j)) → (∀ j, j < P1.len → z2.2.1 (k + 4) j = nI (P1.T j)) → fr (tfP k) y z2 → (t1 = 1 → tf_cell G P1 v ≤ B P1.len) → Tt (fun K t => c_X2_tryFrom vl K t 5 (nI v0) t1 (nI (tf_vis G P1 v).names) (nI kk) (nI P1.gone) (nI P1.len) (nI f) (nI i) (nI v) (nI a) x13 (nI (tf_cell G P1 v)) k h (k + 2000 + 1) 0 z2) Q := by
              intro z2 x13 g1 g2 g3 g4 g5
              have c6 : (0 : Int32) = (if t1 = 1 ∧ tf_cell G P1 v = B P1.len then 1 else 0) → Tt (fun K t => c_X2_tryFrom vl K t 6 (nI v0) t1 (nI (tf_vis G P1 v).names) (nI kk) (nI P1.gone) (nI P1.len) (nI f) (nI i) (nI v) (nI a) x13 (nI (tf_cell G P1 v)) k h (k + 2000 + 1) 0 z2) Q := by
                intro e
                refine u_X2_tryFrom_6 ?_; unfold cm_X2_tryFrom_6
                exact c7 z2 0 x13 g1 g2 g3 g4 (htd 0 g5 e)
              refine u_X2_tryFrom_5 ?_; unfold cm_X2_tryFrom_5
              rcases ht1 with ⟨h1, h2, h3⟩ | ⟨h1, h2⟩
              · subst h1
                have hlt : P1.len < l0 := by omega
                refine w_ifF (by decide) (w_crI (tH_1 (kH_one hk)) rfl (show P1.len < 30 * 1 by omega) (hbA z2 g4 P1.len hlt) (w_eqN (by omega) (by have := hB64 P1.len; omega) (fun e => ?_) (fun e => ?_)))
                · exact c7 z2 1 x13 g1 g2 g3 g4 (htd 1 g5 (by rw [if_pos ⟨rfl, e⟩]))
                · exact c6 (by rw [if_neg (fun q => e q.2)])
              · subst h1
                refine w_ifT rfl (c6 ?_)
                rw [if_neg (fun q => absurd q.1 (by decide))]
            have c4 : ∀ (z2 : ow_MS), (∀ x, x < 12 → z2.2.1 (k + 5) x = nI ((tf_vis G P1 v).num x)) → (∀ j, j < (tf_vis G P1 v).names → z2.2.1 (k + 6) j = nI ((tf_vis G P1 v).nam j)) → (∀ j, j < P1.len → z2.2.1 (k + 4) j = nI (P1.T j)) → fr (tfP k) y z2 → Tt (fun K t => c_X2_tryFrom vl K t 4 (nI v0) t1 (nI (tf_vis G P1 v).names) (nI kk) (nI P1.gone) (nI P1.len) (nI f) (nI i) (nI v) (nI a) (nI (v / 2)) 0 k h (k + 2000 + 1) 0 z2) Q := by
              intro z2 g1 g2 g3 g4
              refine u_X2_tryFrom_4 ?_; unfold cm_X2_tryFrom_4
              refine w_crI (kH_5 hk) rfl (show v / 2 < 12 by omega) (g1 _ (by omega)) (w_cs1 (tc_firstCell hh (hcA z2 g4) hv) ?_)
              rintro r z3 ⟨e1, e2⟩
              dsimp only at e1 e2
              rw [e1, e2]
              have ece : (4 : Int32) * (nI ((tf_vis G P1 v).num (v / 2)) - 1) + nI (cd_first T.2.2.2 v) = nI (tf_cell G P1 v) := by
                rw [show nI ((tf_vis G P1 v).num (v / 2)) - 1 = nI ((tf_vis G P1 v).num (v / 2) - 1) from pk_sub (b := 1) nm.2, show (4 : Int32) * nI ((tf_vis G P1 v).num (v / 2) - 1) = nI (4 * ((tf_vis G P1 v).num (v / 2) - 1)) from pk_mul 4 _]
                exact nI_add _ _
              rw [ece]
              rcases ht1 with ⟨h1, h2, h3⟩ | ⟨h1, h2⟩
              · have hlt : P1.len < l0 := by omega
                refine w_ifF (by rw [h1]; decide) (w_crI (tH_1 (kH_one hk)) rfl (show P1.len < 30 * 1 by omega) (hbA z2 g4 P1.len hlt) (w_le (by omega) (by have := hB64 P1.len; omega) (fun e => ?_) (fun e => ?_)))
                · exact c5 z2 _ g1 g2 g3 g4 (fun _ => e)
                · refine w_some ⟨g4, Or.inr ⟨rfl, h2, cd_lt_no (k := P1.len) (fun j hj => ?_) (Or.inr (by rw [hCl]; exact e))⟩⟩
                  rw [← h3 j hj, hst.2 j (Nat.lt_succ_of_lt hj)]
                  exact (tf_vis_ext G P1 v).2 j hj
              · refine w_ifT h1 (c5 z2 _ g1 g2 g3 g4 (fun q => absurd (q.symm.trans h1) (by decide)))
            have hnum : (tf_vis G P1 v).num = (tf_name P1 (v / 2)).num := rfl
            have hnam : (tf_vis G P1 v).nam = (tf_name P1 (v / 2)).nam := rfl
            have hnms : (tf_vis G P1 v).names = (tf_name P1 (v / 2)).names := rfl
            have h12 := tf_ok_le hok1
            refine u_X2_tryFrom_3 ?_; unfold cm_X2_tryFrom_3
            rw [shr1v ⟨v, hv⟩]
            refine w_leF (a := 24) (by omega) (by omega) (w_crI (kH_5 hk) rfl (show v / 2 < 12 by omega) (hs1.1 _ (by omega)) (w_eqN (a := P1.num (v / 2)) (b := 0) (by have := hok1.1 (v / 2); omega) (by omega) (fun e => ?_) (fun e => ?_)))
            · have hnl := tf_name_lt hok1 (show v / 2 < 12 by omega) e
              have e9 : tf_name P1 (v / 2) = ⟨nu P1.num (v / 2) (P1.names + 1), nu P1.nam P1.names (v / 2), P1.names + 1, P1.gone, P1.T, P1.len⟩ := by
                unfold tf_name
                rw [if_pos e]
              refine w_ctI (kH_6 hk) rfl hnl (w_ctI (kH_5 hk) rfl (show v / 2 < 12 by omega) ?_)
              rw [nI_1]
              have e8 : P1.names + 1 = (tf_vis G P1 v).names := by rw [hnms, e9]
              rw [e8]
              refine c4 _ (fun x hx => ?_) (fun j hj => ?_) (fun j hj => rd_ot (by omega) (rd_ot (by omega) (hs1.2.2.1 j hj))) (fr_I2 (fr_I2 hs1.2.2.2 ⟨by omega, by omega⟩) ⟨by omega, by omega⟩)
              · rw [hnum, e9]
                show _ = nI (nu P1.num (v / 2) (P1.names + 1) x)
                by_cases e7 : x = v / 2
                · rw [e7, nu_same, po_usI_at, ← e8]
                · rw [nu_ne _ _ e7]
                  exact rd_ne e7 (rd_ot (by omega) (hs1.1 x hx))
              · rw [hnam, e9]
                show _ = nI (nu P1.nam P1.names (v / 2) j)
                refine rd_ot (by omega) ?_
                by_cases e7 : j = P1.names
                · rw [e7, nu_same]
                  exact po_usI_at
                · rw [nu_ne _ _ e7]
                  exact rd_ne e7 (hs1.2.1 j (by omega))
            · have e9 : tf_name P1 (v / 2) = P1 := by
                unfold tf_name
                rw [if_neg e]
              have e8 : P1.names = (tf_vis G P1 v).names := by rw [hnms, e9]
              rw [e8]
              refine c4 z1 (fun x hx => by rw [hnum, e9]; exact hs1.1 x hx) (fun j hj => by rw [hnam, e9]; exact hs1.2.1 j (by omega)) hs1.2.2.1 hs1.2.2.2
        refine u_X2_tryFrom_2 ?_; unfold cm_X2_tryFrom_2
        refine w_leF (a := 24) (by omega) (by omega) (w_ifF (nI_nm1 (by omega)) ?_)
        exact c3 24 0 f P z x4 (by omega) hf24 (Nat.le_refl _) hok hCe' hs ht
  refine e_X2_tryFrom ?_
  refine u_X2_tryFrom_0 ?_; unfold cm_X2_tryFrom_0
  refine w_cs0 (tc_fillA (kH_5 hk) (by omega)) ?_
  rintro z1 ⟨h1, h2⟩
  have h2' : fr (tfP k) y z1 := fr_mono (fun g hg => by rw [hg]; unfold tfP; omega) h2
  refine w_crI (i := 0) (tH_2 (kH_one hk)) rfl (by omega) ((congrFun (h2 (k + 2002) (by omega)).2.1 0).trans hL) ?_
  have go1 : ∀ t0 : Int32, tf_td B l0 tf_0 t0 → Tt (fun K t => c_X2_tryFrom vl K t 1 (nI v0) 0 0 0 0 0 0 0 0 0 0 0 k h (k + 2000 + 1) t0 z1) Q := by
    intro t0 ht
    refine u_X2_tryFrom_1 ?_; unfold cm_X2_tryFrom_1
    exact c2 24 0 (by omega) (some v0) 0 tf_0 z1 t0 tf_ok_0 (Nat.le_refl _) (fun f e => by cases e; exact hv0) hC.symm ⟨fun x hx => h1 x hx, fun j hj => absurd hj (Nat.not_lt_zero _), fun j hj => absurd hj (Nat.not_lt_zero _), h2'⟩ ht
  have h00 := tf_td_0 B (l0 := l0) tf_0 rfl
  refine w_le (b := 0) (by omega) (by omega) (fun e => go1 0 ?_) (fun e => go1 1 ?_)
  · rw [if_neg (by omega)] at h00
    exact h00
  · rw [if_pos e] at h00
    exact h00
end CT
end
section
/-! 99zzzzzd.cenc -/
/-! the class: Coder.encodePart -/
theorem cd_lt_tr {X Y Z : Nat → Nat} {n : Nat} (h1 : cd_lt X Y n) (h2 : cd_lt Y Z n) : cd_lt X Z n := by
  obtain ⟨j, hj, hl, hb⟩ := h1
  obtain ⟨k, hk, hm, hd⟩ := h2
  rcases Nat.lt_trichotomy j k with q | q | q
  · exact ⟨j, hj, by rw [← hd j q]; exact hl, fun i hi => (hb i hi).trans (hd i (Nat.lt_trans hi q))⟩
  · rw [← q] at hm hd
    exact ⟨j, hj, Nat.lt_trans hl hm, fun i hi => (hb i hi).trans (hd i hi)⟩
  · exact ⟨k, hk, by rw [hb k q]; exact hm, fun i hi => (hb i (Nat.lt_trans hi q)).trans (hd i hi)⟩
theorem cd_lt_rf {X : Nat → Nat} {n : Nat} : ¬ cd_lt X X n := fun ⟨_, _, hl, _⟩ => Nat.lt_irrefl _ hl
/-- visits of a part -/
def cntV (F : Nat → Int32) (k : Int32) : Nat → Nat
  | 0 => 0
  | n + 1 => if F n = k then cntV F k n + 1 else cntV F k n
theorem cntV_le (F : Nat → Int32) (k : Int32) : ∀ n, cntV F k n ≤ n := by
  intro n
  induction n with
  | zero => exact Nat.le_refl 0
  | succ n ih =>
    show (if F n = k then cntV F k n + 1 else cntV F k n) ≤ n + 1
    split <;> omega
def tf_k (P : tf_P) : Prop := tf_ok P ∧ ∀ j, P.T j < 64
theorem tf_vis_k {G : Nat → Int32} {P : tf_P} {v : Nat} (h : tf_k P) (hv : v < 24) : tf_k (tf_vis G P v) := by
  refine ⟨tf_vis_ok h.1 hv, fun j => ?_⟩
  show (if j = P.len then tf_cell G P v else P.T j) < 64
  split
  · exact cell64 h.1 hv
  · exact h.2 j
theorem tf_sep_k {P : tf_P} (h : tf_k P) : tf_k (tf_sep P) := by
  refine ⟨tf_sep_ok h.1, fun j => ?_⟩
  show (if j = P.len then 0 else P.T j) < 64
  split
  · omega
  · exact h.2 j
theorem tf_ring_k {G : Nat → Int32} {N : Nat → Nat} {f : Nat} (hN : ∀ v, N v < 24) : ∀ (d v : Nat) (P : tf_P), v < 24 → tf_k P → tf_k (tf_ring G N f d v P)
  | 0, _, _, _, h => h
  | d + 1, v, P, hv, h => by
    rw [tf_ring]
    split
    · exact tf_vis_k h hv
    · exact tf_ring_k hN d _ _ (hN v) (tf_vis_k h hv)
theorem tf_out_k {G : Nat → Int32} {N : Nat → Nat} (hN : ∀ v, N v < 24) : ∀ (d : Nat) (fo : Option Nat) (k : Nat) (P : tf_P), (∀ f, fo = some f → f < 24) → tf_k P → tf_k (tf_out G N d fo k P)
  | 0, _, _, _, _, h => h
  | _ + 1, none, _, _, _, h => h
  | d + 1, some f, k, P, hf, h => by
    have h1 := tf_sep_k (tf_ring_k (G := G) (f := f) hN 24 f P (hf f rfl) h)
    exact tf_out_k hN d _ _ _ (fun f2 e => tf_look_b h1.1.2.2.1 _ _ _ e) h1
theorem tf_code_k {G : Nat → Int32} {N : Nat → Nat} (hN : ∀ v, N v < 24) {v : Nat} (hv : v < 24) : tf_k (tf_code G N v) := tf_out_k hN 24 (some v) 0 tf_0 (fun f e => by cases e; exact hv) ⟨tf_ok_0, fun _ => by show 0 < 64; omega⟩
/-- the row of a code -/
def tfL (P : tf_P) : List Nat := (List.range P.len).map P.T
theorem tfL_at {P : tf_P} {i : Nat} : (tfL P)[i]? = if i < P.len then some (P.T i) else none := by
  unfold tfL
  rw [List.getElem?_map]
  by_cases h : i < P.len
  · rw [List.getElem?_range h, if_pos h]
    rfl
  · rw [List.getElem?_eq_none (by rw [List.length_range]; omega), if_neg h]
    rfl
theorem tfL_len {P : tf_P} : (tfL P).length = P.len := by
  unfold tfL
  rw [List.length_map, List.length_range]
/-- the start w is one of part p's with the least first cell -/
def epS (T : ow_NT) (F : Nat → Int32) (p : Int32) (w : Nat) : Prop := F w = p ∧ cd_first T.2.2.2 w = lfc T.2.2.2 F p (2 * T.1)
/-- v gives the least row of part p among the starts below i -/
def epV (T : ow_NT) (F : Nat → Int32) (p : Int32) (i v : Nat) : Prop := v < i ∧ epS T F p v ∧ ∀ w, w < i → epS T F p w → ¬ cd_lt (tf_code T.2.2.2 T.2.2.1.1 w).T (tf_code T.2.2.2 T.2.2.1.1 v).T (tf_code T.2.2.2 T.2.2.1.1 v).len
/-- what a part's code is -/
def epC (T : ow_NT) (F : Nat → Int32) (p : Int32) (C : cdT) : Prop := C.1 = cntV F p (2 * T.1) / 2 ∧ (((∀ w, w < 2 * T.1 → ¬ epS T F p w) ∧ C.2 = []) ∨ ∃ v, epV T F p (2 * T.1) v ∧ C.2 = tfL (tf_code T.2.2.2 T.2.2.1.1 v))
def epP (k g : Nat) : Prop := k + 4 ≤ g ∧ g ≤ k + 6 ∨ k + 2001 ≤ g ∧ g ≤ k + 2003
theorem div2_c : ∀ v : Fin 25, (2 : Int32) ≠ 0 ∧ vp_nar .byte (nI v.1 / 2).toInt8.toInt32 = nI (v.1 / 2) := by decide +kernel
theorem fits64 : ∀ v : Fin 64, fits .byte (.int (nI v.1)) = true := by decide +kernel
section CE
variable {vl : Nat → Nat} {y : ow_MS} {h k : Nat} {T : ow_NT}
theorem u_X2_encodePart_1 {vl : Nat → Nat} {x2 : Int32} {x3 : Int32} {x4 : Int32} {x5 : Int32} {r0 : Nat} {r1 : Nat} {z : ow_MS} {Q : ow_MS → Prop} (H : Tt (fun K k => cm_X2_encodePart_1 vl K (c_X2_encodePart vl K k) x2 x3 x4 x5 r0 r1 z) Q) : Tt (fun K k => c_X2_encodePart vl K k 1 x2 x3 x4 x5 r0 r1 z) Q := w_un (fun _ _ => rfl) H
theorem u_X2_encodePart_2 {vl : Nat → Nat} {x2 : Int32} {x3 : Int32} {x4 : Int32} {x5 : Int32} {r0 : Nat} {r1 : Nat} {z : ow_MS} {Q : ow_MS → Prop} (H : Tt (fun K k => cm_X2_encodePart_2 vl K (c_X2_encodePart vl K k) x2 x3 x4 x5 r0 r1 z) Q) : Tt (fun K k => c_X2_encodePart vl K k 2 x2 x3 x4 x5 r0 r1 z) Q := w_un (fun _ _ => rfl) H
theorem e_X2_encodePart {vl : Nat → Nat} {r0 : Nat} {r1 : Nat} {x2 : Int32} {z : ow_MS} {Q : ow_MS → Prop} (H : Tt (fun K k => c_X2_encodePart vl K k 0 x2 0 0 0 r0 r1 z) Q) : Te (fun K => ce_X2_encodePart vl K r0 r1 x2 z) Q := w_te H
theorem u_X2_encodePart_0 {vl : Nat → Nat} {x2 : Int32} {x3 : Int32} {x4 : Int32} {x5 : Int32} {r0 : Nat} {r1 : Nat} {z : ow_MS} {Q : ow_MS → Prop} (H : Tt (fun K k => cm_X2_encodePart_0 vl K (c_X2_encodePart vl K k) x2 x3 x4 x5 r0 r1 z) Q) : Tt (fun K k => c_X2_encodePart vl K k 0 x2 x3 x4 x5 r0 r1 z) Q := w_un (fun _ _ => rfl) H
theorem tc_encodePart {p : Int32} {F : Nat → Int32} {n0 : Nat} (hk : kH k) (hh : nH h) (hy : cAt y h T) (hT : T.1 ≤ 12) (hb : ow_b24 T.2.2.1) (h6 : ∀ j, j < 2 * T.1 → y.2.1 (h + 6) j = F j) (h30 : n0 ≤ 30) (hln : ∀ v, v < 2 * T.1 → F v = p → (tf_code T.2.2.2 T.2.2.1.1 v).len = n0) (hby : byR y (k + 2001)) : Te (fun K => ce_X2_encodePart vl K k h p y) (fun y1 => (∃ C, epC T F p C ∧ slC y1 (k + 2000) 0 C ∧ cOK C) ∧ byR y1 (k + 2001) ∧ fr (epP k) y y1) := by
  have hdj := kH_dj hk hh
  let Q : ow_MS → Prop := fun y1 => (∃ C, epC T F p C ∧ slC y1 (k + 2000) 0 C ∧ cOK C) ∧ byR y1 (k + 2001) ∧ fr (epP k) y y1
  have hcA : ∀ z, fr (epP k) y z → cAt z h T := fun z hf => cAt_fr hf (fun g hg hq => by unfold cP at hg; unfold epP at hq; omega) hy
  have h6A : ∀ z, fr (epP k) y z → ∀ j, j < 2 * T.1 → z.2.1 (h + 6) j = F j := by
    intro z hf j hj
    rw [(hf (h + 6) (by unfold epP; omega)).2.1]
    exact h6 j hj
  -- the state at start i: the best row so far
  let S : Nat → ow_MS → Nat → Prop := fun i z l0 => z.2.1 (k + 2002) 0 = nI l0 ∧ ((l0 = 0 ∧ ∀ w, w < i → ¬ epS T F p w) ∨ (l0 = n0 ∧ ∃ v, epV T F p i v ∧ ∀ j, j < n0 → z.2.1 (k + 2001) j = nI ((tf_code T.2.2.2 T.2.2.1.1 v).T j))) ∧ byR z (k + 2001) ∧ fr (epP k) y z
  have skip : ∀ i z l0, S i z l0 → ¬ epS T F p i → S (i + 1) z l0 := by
    intro i z l0 ⟨s1, s2, s3, s4⟩ hn
    refine ⟨s1, ?_, s3, s4⟩
    rcases s2 with ⟨e1, e2⟩ | ⟨e1, v, ⟨e2, e3, e4⟩, e5⟩
    · refine Or.inl ⟨e1, fun w hw => ?_⟩
      by_cases e : w = i
      · rw [e]; exact hn
      · exact e2 w (by omega)
    · refine Or.inr ⟨e1, v, ⟨by omega, e3, fun w hw hs => ?_⟩, e5⟩
      by_cases e : w = i
      · exact absurd (by rw [← e]; exact hs) hn
      · exact e4 w (by omega) hs
  have c1 : ∀ (d i : Nat) (z : ow_MS) (l0 : Nat), i + d = 2 * T.1 → S i z l0 → Tt (fun K t => c_X2_encodePart vl K t 1 p (nI (lfc T.2.2.2 F p (2 * T.1))) (nI (cntV F p i)) (nI i) k h z) Q := by
    intro d
    induction d with
    | zero =>
      intro i z l0 hi hs
      have e : i = 2 * T.1 := by omega
      subst e
      obtain ⟨s1, s2, s3, s4⟩ := hs
      have hcv := cntV_le F p (2 * T.1)
      have hd2 := div2_c ⟨cntV F p (2 * T.1), by omega⟩
      refine u_X2_encodePart_1 ?_; unfold cm_X2_encodePart_1
      refine w_rdF (hcA z s4).1 ?_
      rw [show (2 : Int32) * nI T.1 = nI (2 * T.1) from pk_mul 2 _]
      refine w_leT (by omega) (by omega) (w_nzI (by decide) (w_ctB (i := 0) (tH_3 (kH_one hk)) rfl (by omega) (w_some ?_)))
      rw [hd2.2]
      refine ⟨?_, fun j => ?_, fr_I2 s4 (Or.inr ⟨by omega, by omega⟩)⟩
      · rcases s2 with ⟨e1, e2⟩ | ⟨e1, v, e2, e3⟩
        · refine ⟨(cntV F p (2 * T.1) / 2, []), ⟨rfl, Or.inl ⟨e2, rfl⟩⟩, ⟨po_usI_at, rd_ot (by omega) ?_, fun j a e => by cases e⟩, ⟨by show _ / 2 ≤ 12; omega, by show 0 ≤ 30; omega, fun a e => by cases e⟩⟩
          rw [show k + 2000 + 2 = k + 2002 from rfl, s1, e1]
          rfl
        · have hl := hln v e2.1 e2.2.1.1
          refine ⟨(cntV F p (2 * T.1) / 2, tfL (tf_code T.2.2.2 T.2.2.1.1 v)), ⟨rfl, Or.inr ⟨v, e2, rfl⟩⟩, ⟨po_usI_at, rd_ot (by omega) ?_, fun j a e => rd_ot (by omega) ?_⟩, ⟨by show _ / 2 ≤ 12; omega, by show (tfL _).length ≤ 30; rw [tfL_len]; omega, fun a e => ?_⟩⟩
          · rw [show k + 2000 + 2 = k + 2002 from rfl, s1, e1]
            show nI n0 = nI (tfL _).length
            rw [tfL_len, hl]
          · have e' : (tfL (tf_code T.2.2.2 T.2.2.1.1 v))[j]? = some a := e
            rw [tfL_at] at e'
            by_cases hj : j < (tf_code T.2.2.2 T.2.2.1.1 v).len
            · rw [if_pos hj] at e'
              cases e'
              rw [show 30 * 0 + j = j by omega]
              exact e3 j (by omega)
            · rw [if_neg hj] at e'
              cases e'
          · have e' : a ∈ (List.range (tf_code T.2.2.2 T.2.2.1.1 v).len).map (tf_code T.2.2.2 T.2.2.1.1 v).T := e
            obtain ⟨j, _, e6⟩ := List.mem_map.mp e'
            have hv1 := e2.1
            rw [← e6]
            exact (tf_code_k hb.1 (by omega)).2 j
      · rw [show (usI z (k + 2000 + 3) 0 (nI (cntV F p (2 * T.1) / 2))).2.1 (k + 2001) j = z.2.1 (k + 2001) j from rd_ot (by omega) rfl]
        exact s3 j
    | succ d ih =>
      intro i z l0 hi hs
      have hcv := cntV_le F p i
      have c2 : ∀ (z2 : ow_MS) (l2 : Nat), S (i + 1) z2 l2 → Tt (fun K t => c_X2_encodePart vl K t 2 p (nI (lfc T.2.2.2 F p (2 * T.1))) (nI (cntV F p (i + 1))) (nI i) k h z2) Q := by
        intro z2 l2 hs2
        refine u_X2_encodePart_2 ?_; unfold cm_X2_encodePart_2
        rw [nI_1]
        exact ih (i + 1) z2 l2 (by omega) hs2
      have ecv : cntV F p (i + 1) = if F i = p then cntV F p i + 1 else cntV F p i := rfl
      refine u_X2_encodePart_1 ?_; unfold cm_X2_encodePart_1
      refine w_rdF (hcA z hs.2.2.2).1 ?_
      rw [show (2 : Int32) * nI T.1 = nI (2 * T.1) from pk_mul 2 _, nI_1]
      refine w_leF (by omega) (by omega) (w_crI (nH_6 hh) rfl (show i < 24 by omega) (h6A z hs.2.2.2 i (by omega)) (w_if (fun e => ?_) (fun e => ?_)))
      · rw [if_pos e] at ecv
        rw [← ecv]
        refine w_cs1 (tc_firstCell hh (hcA z hs.2.2.2) (show i < 24 by omega)) ?_
        rintro r z1 ⟨e1, e2⟩
        dsimp only at e1 e2
        rw [e1, e2]
        have b1 := lfc_b (G := T.2.2.2) (P := F) (p := p) (2 * T.1)
        have b2 := first_b (G := T.2.2.2) (v := i)
        refine w_eqN (by omega) (by omega) (fun e3 => ?_) (fun e3 => c2 z l0 (skip i z l0 hs (fun q => e3 q.2)))
        have hS : epS T F p i := ⟨e, e3⟩
        have hl := hln i (by omega) e
        obtain ⟨s1, s2, s3, s4⟩ := hs
        have hcall : ∃ B : Nat → Nat, (∀ j, B j < 64) ∧ (∀ j, j < l0 → z.2.1 (k + 2001) j = nI (B j)) ∧ (l0 = 0 ∨ l0 = n0) ∧ (∀ z2 : ow_MS, fr (epP k) y z2 → byR z2 (k + 2001) → z2.2.1 (k + 2002) 0 = nI l0 → z2.2.1 (k + 2001) = z.2.1 (k + 2001) → 0 < l0 → ¬ cd_lt (tf_code T.2.2.2 T.2.2.1.1 i).T B (tf_code T.2.2.2 T.2.2.1.1 i).len → S (i + 1) z2 l0) ∧ (l0 = 0 ∨ cd_lt (tf_code T.2.2.2 T.2.2.1.1 i).T B (tf_code T.2.2.2 T.2.2.1.1 i).len → epV T F p (i + 1) i) := by
          rcases s2 with ⟨e4, e5⟩ | ⟨e4, v, ⟨e5, e6, e7⟩, e8⟩
          · refine ⟨fun _ => 0, fun _ => by show 0 < 64; omega, fun j hj => absurd hj (by omega), Or.inl e4, fun z2 _ _ _ _ h0 _ => absurd h0 (by omega), fun _ => ⟨by omega, hS, fun w hw hw2 => ?_⟩⟩
            by_cases e9 : w = i
            · rw [e9]; exact cd_lt_rf
            · exact absurd hw2 (e5 w (by omega))
          · have hlv := hln v (by omega) e6.1
            refine ⟨(tf_code T.2.2.2 T.2.2.1.1 v).T, (tf_code_k hb.1 (by omega)).2, fun j hj => e8 j (by omega), Or.inr e4, fun z2 f1 f2 f3 f4 _ hn => ⟨f3, Or.inr ⟨e4, v, ⟨by omega, e6, fun w hw hw2 => ?_⟩, fun j hj => by rw [f4]; exact e8 j hj⟩, f2, f1⟩, fun hd => ⟨by omega, hS, fun w hw hw2 hlt => ?_⟩⟩
            · by_cases e9 : w = i
              · rw [e9, hlv, ← hl]; exact hn
              · exact e7 w (by omega) hw2
            · have h0 : 0 < (tf_code T.2.2.2 T.2.2.1.1 v).len := tf_code_pos _ _ _
              have hd2 : cd_lt (tf_code T.2.2.2 T.2.2.1.1 i).T (tf_code T.2.2.2 T.2.2.1.1 v).T (tf_code T.2.2.2 T.2.2.1.1 i).len := by
                rcases hd with hd | hd
                · omega
                · exact hd
              by_cases e9 : w = i
              · rw [e9] at hlt
                exact cd_lt_rf hlt
              · refine e7 w (by omega) hw2 ?_
                rw [hlv, ← hl]
                exact cd_lt_tr hlt hd2
        obtain ⟨B, hB1, hB2, hB3, hB4, hB5⟩ := hcall
        refine w_cs1 (tc_tryFrom (B := B) (l0 := l0) hk hh (hcA z s4) hb (show i < 24 by omega) (by omega) (by omega) s1 (by omega) hB2 hB1) ?_
        rintro r3 z3 ⟨f1, f2⟩
        have f1' : fr (epP k) y z3 := fr_tr s4 (fr_mono (fun g hg => Or.inl hg) f1)
        have f3 : z3.2.1 (k + 2001) = z.2.1 (k + 2001) := (f1 (k + 2001) (by unfold tfP; omega)).2.1
        have f4 : z3.2.1 (k + 2002) = z.2.1 (k + 2002) := (f1 (k + 2002) (by unfold tfP; omega)).2.1
        have f5 : byR z3 (k + 2001) := by
          intro j
          rw [f3]
          exact s3 j
        dsimp only at f2
        rcases f2 with ⟨g1, g2, g3⟩ | ⟨g1, g2, g3⟩
        · rw [g1]
          have hpos : 0 < (tf_code T.2.2.2 T.2.2.1.1 i).len := tf_code_pos _ _ _
          refine w_leF (b := 0) (by omega) (by omega) (w_ltF (a := 30) (by omega) (by omega) ?_)
          have cpb : ∀ {E : ow_MS → Nat → Nat → Option ow_MS} {Q : ow_MS → Prop}, Tt (E (usR z3 (k + 2000 + 1) (va_cpy (z3.2.1 (k + 4)) (z3.2.1 (k + 2000 + 1)) 0 0 (tf_code T.2.2.2 T.2.2.1.1 i).len))) Q → Tt (fun K t => cpB (cX vl) z3 (k + 4) 0 (k + 2000 + 1) 0 (nI (tf_code T.2.2.2 T.2.2.1.1 i).len) (fun v => E v K t)) Q := by
            intro E Q H
            unfold cpB
            refine w_ifT (fun j hj => ?_) (w_cpI (a := 0) (b := 0) (n := (tf_code T.2.2.2 T.2.2.1.1 i).len) (kH_4 hk) (tH_1 (kH_one hk)) rfl rfl rfl (by omega) (by omega) H)
            rw [nI_clamp (by omega)] at hj
            rw [show (0 : Int32).toNatClampNeg + j = j from by rw [show (0 : Int32).toNatClampNeg = 0 from by decide]; omega, g2 j hj]
            exact fits64 ⟨_, (tf_code_k hb.1 (show i < 24 by omega)).2 j⟩
          refine cpb (w_ctB (i := 0) (tH_2 (kH_one hk)) rfl (by omega) ?_)
          rw [show vp_nar .byte (nI (tf_code T.2.2.2 T.2.2.1.1 i).len).toInt8.toInt32 = nI (tf_code T.2.2.2 T.2.2.1.1 i).len from (i2b64 ⟨(tf_code T.2.2.2 T.2.2.1.1 i).len, by omega⟩).1, hl]
          refine c2 _ n0 ⟨po_usI_at, Or.inr ⟨rfl, i, hB5 g3, fun j hj => rd_ot (by omega) ?_⟩, fun j => ?_, fr_I2 (fr_R2 f1' (Or.inr ⟨by omega, by omega⟩)) (Or.inr ⟨by omega, by omega⟩)⟩
          · rw [show k + 2001 = k + 2000 + 1 from rfl, usR_at]
            unfold va_cpy
            rw [if_pos (by omega), show 0 + (j - 0) = j by omega]
            exact g2 j (by omega)
          · rw [show (usI (usR z3 (k + 2000 + 1) (va_cpy (z3.2.1 (k + 4)) (z3.2.1 (k + 2000 + 1)) 0 0 n0)) (k + 2000 + 2) 0 (nI n0)).2.1 (k + 2001) j = va_cpy (z3.2.1 (k + 4)) (z3.2.1 (k + 2000 + 1)) 0 0 n0 j from rd_ot (by omega) (by rw [show k + 2001 = k + 2000 + 1 from rfl, usR_at])]
            unfold va_cpy
            by_cases hj : j < n0
            · rw [if_pos (by omega), show 0 + (j - 0) = j by omega, g2 j (by omega)]
              exact fits64 ⟨_, (tf_code_k hb.1 (show i < 24 by omega)).2 j⟩
            · rw [if_neg (by omega)]
              exact f5 j
        · rw [g1]
          refine w_ifT (Int32.le_refl 0) (c2 z3 l0 (hB4 z3 f1' f5 (by rw [f4]; exact s1) f3 g2 g3))
      · rw [if_neg e] at ecv
        rw [← ecv]
        exact c2 z l0 (skip i z l0 hs (fun q => e q.1))
  refine e_X2_encodePart ?_
  refine u_X2_encodePart_0 ?_; unfold cm_X2_encodePart_0
  refine w_cs1 (tc_leastFirstCell (p := p) (P := F) hh hy hT h6) ?_
  rintro r z1 ⟨e1, e2⟩
  dsimp only at e1 e2
  rw [e1, e2]
  refine w_ctB (i := 0) (tH_2 (kH_one hk)) rfl (by omega) ?_
  rw [show vp_nar .byte (0 : Int32) = nI 0 from nar64 (a := 0) (by omega)]
  exact c1 (2 * T.1) 0 _ 0 (by omega) ⟨po_usI_at, Or.inl ⟨rfl, fun w hw => absurd hw (Nat.not_lt_zero _)⟩, fun j => by rw [show (usI y (k + 2000 + 2) 0 (nI 0)).2.1 (k + 2001) j = y.2.1 (k + 2001) j from rd_ot (by omega) rfl]; exact hby j, fr_I (Or.inr ⟨by omega, by omega⟩)⟩
end CE
end
section
/-! 99zzzzze.cprt -/
/-! parts: the marks of one part are just the visits that reach one another -/
def bq (c : Nat) (S : ow_NP) (k : Nat) (F0 : Nat → Int32) (i : Nat) (t : ow_PQ) : Prop := (∀ v, v < 2 * c → t.1 v = F0 v ∨ (t.1 v = nI k ∧ F0 v = -1)) ∧ (∀ v, v < 2 * c → t.1 v = nI k → ∃ j, j < t.2.2 ∧ t.2.1 j = v) ∧ (∀ j, j < t.2.2 → F0 (t.2.1 j) = -1) ∧ (∀ j, j < i → ¬ t.1 (S.1 (t.2.1 j)) = -1 ∧ ¬ t.1 (mt (t.2.1 j)) = -1) ∧ mp_ok (2 * c) t ∧ i ≤ t.2.2
theorem mp_add_keep {k : Nat} (hk : k < 2 ^ 31) {t : ow_PQ} {v w : Nat} (h : ¬ t.1 w = -1) : ¬ (mp_add (nI k) t v).1 w = -1 := by
  unfold mp_add
  split
  · show ¬ (if w = v then nI k else t.1 w) = -1
    split
    · exact nI_nm1 hk
    · exact h
  · exact h
theorem mp_add_own {k : Nat} (hk : k < 2 ^ 31) {t : ow_PQ} {v : Nat} : ¬ (mp_add (nI k) t v).1 v = -1 := by
  unfold mp_add
  split
  · show ¬ (if v = v then nI k else t.1 v) = -1
    rw [if_pos rfl]
    exact nI_nm1 hk
  · rename_i h
    exact h
theorem mp_add_q {k : Nat} {t : ow_PQ} {v j : Nat} (hj : j < t.2.2) : (mp_add (nI k) t v).2.1 j = t.2.1 j := by
  unfold mp_add
  split
  · exact nu_ne _ _ (by omega)
  · rfl
theorem mp_add_n {k : Nat} {t : ow_PQ} {v : Nat} : t.2.2 ≤ (mp_add (nI k) t v).2.2 := by
  unfold mp_add
  split
  · exact Nat.le_succ _
  · exact Nat.le_refl _
theorem mp_add_bq {c : Nat} {S : ow_NP} {k : Nat} (hk : k < 2 ^ 31) {F0 : Nat → Int32} {i v : Nat} {t : ow_PQ} (h : bq c S k F0 i t) (hv : v < 2 * c) (hF : F0 v = -1) : bq c S k F0 i (mp_add (nI k) t v) := by
  obtain ⟨a1, a2, a3, a4, a5, a6⟩ := h
  refine ⟨fun w hw => ?_, fun w hw e => ?_, fun j hj => ?_, fun j hj => ?_, mp_add_ok hk a5 hv, Nat.le_trans a6 mp_add_n⟩
  · unfold mp_add
    split
    · show (if w = v then nI k else t.1 w) = F0 w ∨ ((if w = v then nI k else t.1 w) = nI k ∧ F0 w = -1)
      by_cases e : w = v
      · rw [if_pos e, e]
        exact Or.inr ⟨rfl, hF⟩
      · rw [if_neg e]
        exact a1 w hw
    · exact a1 w hw
  · unfold mp_add at e ⊢
    split at e
    · rename_i h9
      rw [if_pos h9]
      by_cases e1 : w = v
      · refine ⟨t.2.2, Nat.lt_succ_self _, ?_⟩
        rw [e1]
        exact nu_same _ _ _
      · have e2 : (if w = v then nI k else t.1 w) = nI k := e
        rw [if_neg e1] at e2
        obtain ⟨j, hj, ej⟩ := a2 w hw e2
        exact ⟨j, Nat.lt_succ_of_lt hj, (nu_ne _ _ (by omega)).trans ej⟩
    · rename_i h9
      rw [if_neg h9]
      exact a2 w hw e
  · unfold mp_add at hj ⊢
    split at hj
    · rename_i h9
      rw [if_pos h9]
      have hj' : j < t.2.2 + 1 := hj
      show F0 (nu t.2.1 t.2.2 v j) = -1
      by_cases e : j = t.2.2
      · rw [e, nu_same]
        exact hF
      · rw [nu_ne _ _ e]
        exact a3 j (by omega)
    · rename_i h9
      rw [if_neg h9]
      exact a3 j hj
  · rw [mp_add_q (show j < t.2.2 by omega)]
    exact ⟨mp_add_keep hk (a4 j hj).1, mp_add_keep hk (a4 j hj).2⟩
/-- the marks are closed: visits behind and at the crossing have the mark -/
def clF (c : Nat) (S : ow_NP) (F : Nat → Int32) : Prop := ∀ j, j < 2 * c → F (S.1 j) = F j ∧ F (mt j) = F j
theorem mp_bfs_bq {c : Nat} {S : ow_NP} (hv : vn c S) {k : Nat} (hk : k < 2 ^ 31) {F0 : Nat → Int32} (h0 : clF c S F0) : ∀ (d i : Nat) (t : ow_PQ), bq c S k F0 i t → 2 * c ≤ i + d → ∃ i2, bq c S k F0 i2 (mp_bfs S.1 (nI k) d i t) ∧ (mp_bfs S.1 (nI k) d i t).2.2 ≤ i2 := by
  intro d
  induction d with
  | zero =>
    intro i t h hd
    have := h.2.2.2.2.1.2
    refine ⟨i, h, ?_⟩
    show t.2.2 ≤ i
    omega
  | succ d ih =>
    intro i t h hd
    rw [mp_bfs]
    by_cases hi : i < t.2.2
    · rw [if_pos hi]
      have hq : t.2.1 i < 2 * c := h.2.2.2.2.1.1 i hi
      have hF := h.2.2.1 i hi
      have hc := h0 _ hq
      have b1 := mp_add_bq hk h (hv _ hq).1 (hc.1.trans hF)
      have b2 := mp_add_bq hk b1 (mt_lt hq) (hc.2.trans hF)
      refine ih (i + 1) _ ⟨b2.1, b2.2.1, b2.2.2.1, fun j hj => ?_, b2.2.2.2.2.1, ?_⟩ (by omega)
      · by_cases e : j = i
        · have hi2 : i < (mp_add (nI k) t (S.1 (t.2.1 i))).2.2 := Nat.lt_of_lt_of_le hi mp_add_n
          rw [e, mp_add_q hi2, mp_add_q hi]
          exact ⟨mp_add_keep hk (mp_add_own hk), mp_add_own hk⟩
        · exact b2.2.2.2.1 j (by omega)
      · exact Nat.lt_of_lt_of_le hi (Nat.le_trans mp_add_n mp_add_n)
    · rw [if_neg hi]
      exact ⟨i, h, by omega⟩
theorem nI_inj9 {a b : Nat} (ha : a < 2 ^ 31) (hb : b < 2 ^ 31) (e : nI a = nI b) : a = b := (nI_eq ha hb).mp e
/-- the marks while parts are marked -/
def mpI (c : Nat) (S : ow_NP) (n : Nat) (t : (Nat → Int32) × Nat) : Prop := clF c S t.1 ∧ (∀ v, v < 2 * c → t.1 v = -1 ∨ ∃ r, r < t.2 ∧ t.1 v = nI r) ∧ (∀ r, r < t.2 → ∃ v, v < 2 * c ∧ t.1 v = nI r) ∧ (∀ v, v < n → v < 2 * c → ¬ t.1 v = -1) ∧ t.2 ≤ n
theorem mp_out_I {c : Nat} {S : ow_NP} (hv : vn c S) (hc : c ≤ 12) : ∀ n, n ≤ 2 * c → mpI c S n (mp_out S.1 (2 * c) (fun _ => -1) n) := by
  intro n
  induction n with
  | zero => exact fun _ => ⟨fun j _ => ⟨rfl, rfl⟩, fun _ _ => Or.inl rfl, fun r hr => absurd hr (Nat.not_lt_zero _), fun v hv _ => absurd hv (Nat.not_lt_zero _), Nat.le_refl _⟩
  | succ n ih =>
    intro hn
    have hi := ih (by omega)
    rw [mp_out]
    generalize mp_out S.1 (2 * c) (fun _ => -1) n = t at hi
    obtain ⟨i1, i2, i3, i4, i5⟩ := hi
    by_cases e : t.1 n = -1
    · rw [if_pos e]
      have hk : t.2 < 2 ^ 31 := by omega
      have hnw : ∀ v, v < 2 * c → ¬ t.1 v = nI t.2 := by
        intro v hv2 e1
        rcases i2 v hv2 with h9 | ⟨r, hr, h9⟩
        · exact nI_nm1 hk (e1.symm.trans h9)
        · have := nI_inj9 (by omega) (by omega) (e1.symm.trans h9)
          omega
      have b0 : bq c S t.2 t.1 0 (su t.1 n (nI t.2), (fun _ => n), 1) := by
        refine ⟨fun v hv2 => ?_, fun v hv2 e1 => ⟨0, Nat.one_pos, ?_⟩, fun j _ => e, fun j hj => absurd hj (Nat.not_lt_zero _), ⟨fun _ _ => by show n < 2 * c; omega, ?_⟩, Nat.zero_le _⟩
        · show (if v = n then nI t.2 else t.1 v) = t.1 v ∨ ((if v = n then nI t.2 else t.1 v) = nI t.2 ∧ t.1 v = -1)
          by_cases e1 : v = n
          · rw [if_pos e1, e1]
            exact Or.inr ⟨rfl, e⟩
          · rw [if_neg e1]
            exact Or.inl rfl
        · show n = v
          have e2 : (if v = n then nI t.2 else t.1 v) = nI t.2 := e1
          by_cases e3 : v = n
          · exact e3.symm
          · rw [if_neg e3] at e2
            exact absurd e2 (hnw v hv2)
        · have h1 := cntU_su (x := nI t.2) e (nI_nm1 hk) (2 * c) (by omega)
          have h2 := cntU_le t.1 (2 * c)
          show 1 + cntU (su t.1 n (nI t.2)) (2 * c) ≤ 2 * c
          omega
      obtain ⟨m, hm, hm2⟩ := mp_bfs_bq hv hk i1 (2 * c) 0 _ b0 (by omega)
      have hkeepn : ∀ (d i : Nat) (u : ow_PQ), ¬ u.1 n = -1 → ¬ (mp_bfs S.1 (nI t.2) d i u).1 n = -1 := by
        intro d
        induction d with
        | zero => exact fun _ _ h => h
        | succ d ih2 =>
          intro i u h
          rw [mp_bfs]
          split
          · exact ih2 _ _ (mp_add_keep hk (mp_add_keep hk h))
          · exact h
      have hn1 : ¬ (mp_bfs S.1 (nI t.2) (2 * c) 0 (su t.1 n (nI t.2), (fun _ => n), 1)).1 n = -1 := hkeepn _ _ _ (by
        show ¬ (if n = n then nI t.2 else t.1 n) = -1
        rw [if_pos rfl]
        exact nI_nm1 hk)
      generalize mp_bfs S.1 (nI t.2) (2 * c) 0 (su t.1 n (nI t.2), (fun _ => n), 1) = u at hm hm2 hn1
      obtain ⟨m1, m2, m3, m4, m5, m6⟩ := hm
      have hn2 : u.1 n = nI t.2 := by
        rcases m1 n (by omega) with h9 | h9
        · exact absurd (h9.trans e) hn1
        · exact h9.1
      -- the new mark is closed
      have hcl : ∀ j, j < 2 * c → u.1 j = nI t.2 → u.1 (S.1 j) = nI t.2 ∧ u.1 (mt j) = nI t.2 := by
        intro j hj ej
        obtain ⟨q, hq, eq⟩ := m2 j hj ej
        have h4 := m4 q (by omega)
        have h3 := m3 q hq
        rw [eq] at h4 h3
        have hcj := i1 j hj
        constructor
        · rcases m1 (S.1 j) (hv j hj).1 with h9 | h9
          · exact absurd (h9.trans (hcj.1.trans h3)) h4.1
          · exact h9.1
        · rcases m1 (mt j) (mt_lt hj) with h9 | h9
          · exact absurd (h9.trans (hcj.2.trans h3)) h4.2
          · exact h9.1
      have hback : ∀ j, j < 2 * c → u.1 (S.1 j) = nI t.2 → u.1 j = nI t.2 := by
        intro j hj ej
        exact rch_back hv hj (fun q => u.1 q = nI t.2) ej (fun q hq e1 => (hcl q hq e1).1) (fun q hq e1 => (hcl q hq e1).2)
      have hmt : ∀ j, mt (mt j) = j := fun j => mt_mt j
      refine ⟨fun j hj => ?_, fun v hv2 => ?_, fun r hr => ?_, fun v hv1 hv2 => ?_, ?_⟩
      · by_cases ej : u.1 j = nI t.2
        · rw [(hcl j hj ej).1, (hcl j hj ej).2]
          exact ⟨ej.symm, ej.symm⟩
        · have ej0 : u.1 j = t.1 j := by
            rcases m1 j hj with h9 | h9
            · exact h9
            · exact absurd h9.1 ej
          constructor
          · rcases m1 (S.1 j) (hv j hj).1 with h9 | h9
            · rw [h9, ej0]
              exact (i1 j hj).1
            · exact absurd (hback j hj h9.1) ej
          · rcases m1 (mt j) (mt_lt hj) with h9 | h9
            · rw [h9, ej0]
              exact (i1 j hj).2
            · have := (hcl (mt j) (mt_lt hj) h9.1).2
              rw [hmt] at this
              exact absurd this ej
      · show u.1 v = -1 ∨ ∃ r, r < t.2 + 1 ∧ u.1 v = nI r
        rcases m1 v hv2 with h9 | h9
        · rw [h9]
          rcases i2 v hv2 with h8 | ⟨r, hr, h8⟩
          · exact Or.inl h8
          · exact Or.inr ⟨r, by omega, h8⟩
        · exact Or.inr ⟨t.2, by omega, h9.1⟩
      · have hr' : r < t.2 + 1 := hr
        show ∃ v, v < 2 * c ∧ u.1 v = nI r
        by_cases e1 : r = t.2
        · exact ⟨n, by omega, by rw [e1]; exact hn2⟩
        · obtain ⟨v, hv2, ev⟩ := i3 r (by omega)
          refine ⟨v, hv2, ?_⟩
          rcases m1 v hv2 with h9 | h9
          · rw [h9, ev]
          · exact absurd (ev.symm.trans h9.2) (nI_nm1 (by omega))
      · show ¬ u.1 v = -1
        by_cases e1 : v = n
        · rw [e1]; exact hn1
        · have h8 := i4 v (by omega) hv2
          rcases m1 v hv2 with h9 | h9
          · rw [h9]; exact h8
          · exact absurd h9.2 h8
      · show t.2 + 1 ≤ n + 1
        omega
    · rw [if_neg e]
      refine ⟨i1, i2, i3, fun v hv1 hv2 => ?_, by omega⟩
      by_cases e1 : v = n
      · rw [e1]; exact e
      · exact i4 v (by omega) hv2
/-- what the marks of a valid net's parts are -/
theorem parts_I {c : Nat} {S : ow_NP} (hv : vn c S) (hc : c ≤ 12) : clF c S (np_parts c S.1).1 ∧ (∀ v, v < 2 * c → ∃ r, r < (np_parts c S.1).2 ∧ (np_parts c S.1).1 v = nI r) ∧ (∀ r, r < (np_parts c S.1).2 → ∃ v, v < 2 * c ∧ (np_parts c S.1).1 v = nI r) ∧ (np_parts c S.1).2 ≤ 2 * c := by
  obtain ⟨i1, i2, i3, i4, i5⟩ := mp_out_I hv hc (2 * c) (Nat.le_refl _)
  refine ⟨i1, fun v hv2 => ?_, i3, i5⟩
  rcases i2 v hv2 with h9 | h9
  · exact absurd h9 (i4 v hv2 hv2)
  · exact h9
theorem parts_iff {c : Nat} {S : ow_NP} (hv : vn c S) (hc : c ≤ 12) {v w : Nat} (h1 : v < 2 * c) (h2 : w < 2 * c) : (np_parts c S.1).1 v = (np_parts c S.1).1 w ↔ rch c S v w := by
  refine ⟨np_parts_rch hv hc h1 h2, fun h => ?_⟩
  have hcl := (parts_I hv hc).1
  exact h (fun k => (np_parts c S.1).1 v = (np_parts c S.1).1 k) rfl (fun j hj e => e.trans (hcl j hj).1.symm) (fun j hj e => e.trans (hcl j hj).2.symm)
/-- sums over a list of numbers -/
def smN (f : Nat → Nat) : Nat → Nat
  | 0 => 0
  | n + 1 => smN f n + f n
theorem smN_0 {f : Nat → Nat} : ∀ n, (∀ r, r < n → f r = 0) → smN f n = 0
  | 0, _ => rfl
  | n + 1, h => by
    show smN f n + f n = 0
    rw [smN_0 n (fun r hr => h r (by omega)), h n (by omega)]
theorem smN_add {f g : Nat → Nat} : ∀ n, smN (fun r => f r + g r) n = smN f n + smN g n
  | 0 => rfl
  | n + 1 => by
    show smN (fun r => f r + g r) n + (f n + g n) = smN f n + f n + (smN g n + g n)
    rw [smN_add n]
    omega
theorem smN_cg {f g : Nat → Nat} : ∀ n, (∀ r, r < n → f r = g r) → smN f n = smN g n
  | 0, _ => rfl
  | n + 1, h => by
    show smN f n + f n = smN g n + g n
    rw [smN_cg n (fun r hr => h r (by omega)), h n (by omega)]
theorem smN_one {m : Nat} : ∀ n, m < n → smN (fun r => if r = m then 1 else 0) n = 1
  | 0, h => absurd h (Nat.not_lt_zero _)
  | n + 1, h => by
    show smN (fun r => if r = m then 1 else 0) n + (if n = m then 1 else 0) = 1
    by_cases e : n = m
    · rw [if_pos e, smN_0 n (fun r hr => if_neg (by omega))]
    · rw [if_neg e, smN_one n (by omega)]
/-- visits counted part by part -/
theorem cnt_parts {F : Nat → Int32} {q : Nat → Bool} {P : Nat} (hP : P < 2 ^ 31) : ∀ n, (∀ v, v < n → ∃ r, r < P ∧ F v = nI r) → smN (fun r => cntB (fun v => decide (F v = nI r) && q v) n) P = cntB q n
  | 0, _ => smN_0 P (fun _ _ => rfl)
  | n + 1, h => by
    obtain ⟨m, hm, em⟩ := h n (by omega)
    have e : ∀ r, r < P → cntB (fun v => decide (F v = nI r) && q v) (n + 1) = cntB (fun v => decide (F v = nI r) && q v) n + (if q n = true then (if r = m then 1 else 0) else 0) := by
      intro r hr
      show cntB (fun v => decide (F v = nI r) && q v) n + (if (decide (F n = nI r) && q n) = true then 1 else 0) = _
      congr 1
      rw [em]
      by_cases e1 : r = m
      · rw [e1]
        by_cases e2 : q n = true
        · rw [if_pos e2, if_pos rfl, if_pos (by rw [e2, decide_eq_true rfl]; rfl)]
        · rw [if_neg e2, if_neg (by intro e3; exact e2 ((Bool.and_eq_true _ _).mp e3).2)]
      · rw [if_neg e1, ite_self, if_neg]
        intro e3
        exact e1 (nI_inj9 (by omega) (by omega) (of_decide_eq_true ((Bool.and_eq_true _ _).mp e3).1)).symm
    rw [smN_cg P e, smN_add, cnt_parts hP n (fun v hv => h v (by omega))]
    show cntB q n + _ = cntB q n + (if q n = true then 1 else 0)
    congr 1
    by_cases e2 : q n = true
    · rw [if_pos e2]
      exact (smN_cg P (fun r _ => by rw [if_pos e2])).trans (smN_one P hm)
    · rw [if_neg e2]
      exact smN_0 P (fun r _ => by rw [if_neg e2])
/-- the length of the code from a visit of part r -/
def ptL (c : Nat) (S : ow_NP) (r : Nat) : Nat := cntB (fun v => decide ((np_parts c S.1).1 v = nI r) && true) (2 * c) + cntB (fun v => decide ((np_parts c S.1).1 v = nI r) && lst S.1 v 24) (2 * c)
theorem ptL_sum {c : Nat} {S : ow_NP} (hv : vn c S) (hc : c ≤ 12) : smN (ptL c S) (np_parts c S.1).2 = 2 * c + np_rg c S := by
  obtain ⟨i1, i2, i3, i4⟩ := parts_I hv hc
  have h1 := cnt_parts (F := (np_parts c S.1).1) (q := fun _ => true) (P := (np_parts c S.1).2) (by omega) (2 * c) i2
  have h2 := cnt_parts (F := (np_parts c S.1).1) (q := fun v => lst S.1 v 24) (P := (np_parts c S.1).2) (by omega) (2 * c) i2
  have h3 : ∀ n, cntB (fun _ => true) n = n := by
    intro n
    induction n with
    | zero => rfl
    | succ n ih =>
      show cntB (fun _ => true) n + 1 = n + 1
      rw [ih]
  show smN (fun r => cntB (fun v => decide ((np_parts c S.1).1 v = nI r) && true) (2 * c) + cntB (fun v => decide ((np_parts c S.1).1 v = nI r) && lst S.1 v 24) (2 * c)) (np_parts c S.1).2 = _
  rw [smN_add, h1, h2, h3]
  rfl
theorem tf_len_pt {c : Nat} {S : ow_NP} (G : Nat → Int32) (hv : vn c S) (hc : c ≤ 12) {v r : Nat} (h1 : v < 2 * c) (e : (np_parts c S.1).1 v = nI r) : (tf_code G S.1 v).len = ptL c S r := by
  obtain ⟨a1, a2⟩ := tf_code_iv G hv hc h1
  rw [a1.2.2.2]
  have key : ∀ k, k < 2 * c → gnB (tf_code G S.1 v).gone k = decide ((np_parts c S.1).1 k = nI r) := by
    intro k hk
    have h3 : o_gn (tf_code G S.1 v).gone k ↔ (np_parts c S.1).1 k = nI r := by
      rw [a2 k, ← parts_iff hv hc h1 hk, e]
      exact eq_comm
    unfold gnB
    exact decide_eq_decide.mpr h3
  unfold ptL
  refine congr (congrArg _ (cntB_cg _ (fun k hk => ?_))) (cntB_cg _ (fun k hk => ?_))
  · rw [key k hk, Bool.and_true]
  · rw [key k hk]
end
section
/-! 99zzzzzf.cenc2 -/
/-! the class: Coder.collectParts, encode -/
theorem lexD_sym : ∀ (A B : List Nat), lexD A B = - lexD B A
  | [], [] => rfl
  | [], b :: B => rfl
  | a :: A, [] => by
    show ((a :: A).length : Int) = - - ((a :: A).length : Int)
    omega
  | a :: A, b :: B => by
    show (if a = b then lexD A B else (a : Int) - b) = - (if b = a then lexD B A else (b : Int) - a)
    by_cases e : a = b
    · rw [if_pos e, if_pos e.symm]
      exact lexD_sym A B
    · rw [if_neg e, if_neg (fun h => e h.symm)]
      omega
theorem lexD_tr : ∀ (A B C : List Nat), lexD A B ≤ 0 → lexD B C ≤ 0 → lexD A C ≤ 0
  | [], _, C => fun _ _ => by
    show - (C.length : Int) ≤ 0
    omega
  | a :: A, [], C => fun h _ => by
    have h1 : ((a :: A).length : Int) ≤ 0 := h
    rw [List.length_cons] at h1
    omega
  | a :: A, b :: B, [] => fun _ h => by
    have h1 : ((b :: B).length : Int) ≤ 0 := h
    rw [List.length_cons] at h1
    omega
  | a :: A, b :: B, c :: C => fun h1 h2 => by
    have h1' : (if a = b then lexD A B else (a : Int) - b) ≤ 0 := h1
    have h2' : (if b = c then lexD B C else (b : Int) - c) ≤ 0 := h2
    show (if a = c then lexD A C else (a : Int) - c) ≤ 0
    by_cases e1 : a = b
    · rw [if_pos e1] at h1'
      by_cases e2 : b = c
      · rw [if_pos e2] at h2'
        rw [if_pos (e1.trans e2)]
        exact lexD_tr A B C h1' h2'
      · rw [if_neg e2] at h2'
        rw [if_neg (by omega)]
        omega
    · rw [if_neg e1] at h1'
      by_cases e2 : b = c
      · rw [if_neg (by omega)]
        omega
      · rw [if_neg e2] at h2'
        rw [if_neg (by omega)]
        omega
theorem cmpC_sym {A B : cdT} : cmpC A B = - cmpC B A := by
  unfold cmpC
  by_cases e : A.1 = B.1
  · rw [if_pos e, if_pos e.symm]
    exact lexD_sym _ _
  · rw [if_neg e, if_neg (fun h => e h.symm)]
    omega
theorem cmpC_tr {A B C : cdT} (h1 : cmpC A B ≤ 0) (h2 : cmpC B C ≤ 0) : cmpC A C ≤ 0 := by
  unfold cmpC at *
  by_cases e1 : A.1 = B.1
  · rw [if_pos e1] at h1
    by_cases e2 : B.1 = C.1
    · rw [if_pos e2] at h2
      rw [if_pos (e1.trans e2)]
      exact lexD_tr _ _ _ h1 h2
    · rw [if_neg e2] at h2
      rw [if_neg (by omega)]
      omega
  · rw [if_neg e1] at h1
    by_cases e2 : B.1 = C.1
    · rw [if_neg (by omega)]
      omega
    · rw [if_neg e2] at h2
      rw [if_neg (by omega)]
      omega
theorem lexD_rf : ∀ A : List Nat, lexD A A = 0
  | [] => rfl
  | a :: A => by
    show (if a = a then lexD A A else (a : Int) - a) = 0
    rw [if_pos rfl]
    exact lexD_rf A
theorem cmpC_rf {A : cdT} : cmpC A A = 0 := by
  unfold cmpC
  rw [if_pos rfl]
  exact lexD_rf _
/-- the table is in order -/
def srt (Cs : List cdT) (os : List Nat) : Prop := ∀ i j, i < j → j < os.length → cmpC (atC Cs os i) (atC Cs os j) ≤ 0
theorem srt_mo {Cs : List cdT} {os : List Nat} (h : srt Cs os) (B : cdT) : moC Cs os B := by
  intro i j hij hj
  have h1 := h i j hij hj
  have s1 := cmpC_sym (A := atC Cs os i) (B := B)
  have s2 := cmpC_sym (A := atC Cs os j) (B := B)
  refine ⟨fun h2 => ?_, fun h2 => ?_⟩
  · apply Int.lt_of_not_ge
    intro h3
    have h4 := cmpC_tr (A := B) (B := atC Cs os i) (C := atC Cs os j) (by omega) h1
    omega
  · apply Int.lt_of_not_ge
    intro h3
    have h4 := cmpC_tr (A := atC Cs os i) (B := atC Cs os j) (C := B) h1 (by omega)
    omega
theorem atC_ins {Cs : List cdT} {os : List Nat} {B : cdT} {k j : Nat} (hk : k ≤ os.length) (hl : Cs.length = os.length) (hos : ∀ (j s : Nat), os[j]? = some s → s < Cs.length) (hj : j < os.length + 1) : atC (Cs ++ [B]) (insO os k os.length) j = if j < k then atC Cs os j else if j = k then B else atC Cs os (j - 1) := by
  have key : ∀ i, i < os.length → (Cs ++ [B]).getD (os.getD i 0) (0, []) = atC Cs os i := by
    intro i hi
    have e : os[i]? = some os[i] := List.getElem?_eq_getElem hi
    have hs := hos i _ e
    unfold atC
    rw [List.getD_eq_getElem?_getD, List.getD_eq_getElem?_getD (l := Cs), List.getD_eq_getElem?_getD, e]
    show ((Cs ++ [B])[os[i]]?).getD _ = (Cs[os[i]]?).getD _
    rw [List.getElem?_append_left hs]
  unfold atC at key ⊢
  rw [List.getD_eq_getElem?_getD (l := insO os k os.length), insO_at hk]
  by_cases h1 : j < k
  · rw [if_pos h1, if_pos h1, ← List.getD_eq_getElem?_getD]
    exact key j (by omega)
  · rw [if_neg h1, if_neg h1]
    by_cases h2 : j = k
    · rw [if_pos h2, if_pos h2]
      show (Cs ++ [B]).getD os.length (0, []) = B
      rw [List.getD_eq_getElem?_getD, List.getElem?_append_right (by omega), show os.length - Cs.length = 0 by omega]
      rfl
    · rw [if_neg h2, if_neg h2, ← List.getD_eq_getElem?_getD]
      exact key (j - 1) (by omega)
theorem srt_ins {Cs : List cdT} {os : List Nat} {B : cdT} {k : Nat} (hk : k ≤ os.length) (hl : Cs.length = os.length) (hos : ∀ (j s : Nat), os[j]? = some s → s < Cs.length) (hs : srt Cs os) (h1 : ∀ i, i < k → cmpC (atC Cs os i) B ≤ 0) (h2 : ∀ i, k ≤ i → i < os.length → cmpC B (atC Cs os i) ≤ 0) : srt (Cs ++ [B]) (insO os k os.length) := by
  intro i j hij hj
  rw [insO_len hk] at hj
  rw [atC_ins hk hl hos (by omega), atC_ins hk hl hos (by omega)]
  by_cases a1 : j < k
  · rw [if_pos a1, if_pos (by omega)]
    exact hs i j hij (by omega)
  · rw [if_neg a1]
    by_cases a2 : j = k
    · rw [if_pos a2, if_pos (by omega)]
      exact h1 i (by omega)
    · rw [if_neg a2]
      by_cases a3 : i < k
      · rw [if_pos a3]
        exact hs i (j - 1) (by omega) (by omega)
      · rw [if_neg a3]
        by_cases a4 : i = k
        · rw [if_pos a4]
          exact h2 (j - 1) (by omega) (by omega)
        · rw [if_neg a4]
          exact hs (i - 1) (j - 1) (by omega) (by omega)
theorem ins_perm {os : List Nat} {k n : Nat} (h : os.Perm (List.range n)) : (insO os k n).Perm (List.range (n + 1)) := by
  rw [List.range_succ]
  unfold insO
  have h1 : (os.take k ++ [n] ++ os.drop k).Perm (os.take k ++ os.drop k ++ [n]) := by
    rw [List.append_assoc, List.append_assoc]
    exact List.Perm.append_left _ List.perm_append_comm
  refine h1.trans ?_
  rw [List.take_append_drop]
  exact h.append_right _
/-- the codes of a net's parts and their order -/
def cpZ (T : ow_NT) (n : Nat) (Cs : List cdT) (os : List Nat) : Prop := Cs.length = n ∧ (∀ q C, Cs[q]? = some C → epC T (np_parts T.1 T.2.2.1.1).1 (nI q) C ∧ C.2.length = ptL T.1 T.2.2.1 q) ∧ os.Perm (List.range n) ∧ srt Cs os
theorem tabC_os {y : ow_MS} {g : Nat} {Cs : List cdT} {os : List Nat} (h : tabC y g Cs os) : ∀ (j s : Nat), os[j]? = some s → s < Cs.length := fun j s e => (h.2.2.2 j s e).2
/-- each part has a crossing: at most c parts -/
theorem parts_le {c : Nat} {S : ow_NP} (hv : vn c S) (hc : c ≤ 12) : (np_parts c S.1).2 ≤ c := by
  obtain ⟨i1, i2, i3, i4⟩ := parts_I hv hc
  have hpt : ∀ r, r < (np_parts c S.1).2 → 2 ≤ cntB (fun v => decide ((np_parts c S.1).1 v = nI r) && true) (2 * c) := by
    intro r hr
    obtain ⟨v, hv2, ev⟩ := i3 r hr
    have em := (i1 v hv2).2.trans ev
    have h1 := cntB_rm (q := fun v => decide ((np_parts c S.1).1 v = nI r) && true) hv2 (by rw [decide_eq_true ev]; rfl)
    have hne : mt v ≠ v := by unfold mt; split <;> omega
    have h2 := cntB_rm (q := fun k => (decide ((np_parts c S.1).1 k = nI r) && true) && decide (k ≠ v)) (mt_lt hv2) (by rw [decide_eq_true em, decide_eq_true hne]; rfl)
    omega
  have h1 := cnt_parts (F := (np_parts c S.1).1) (q := fun _ => true) (P := (np_parts c S.1).2) (by omega) (2 * c) i2
  have h2 := cntB_le (fun _ => true) (2 * c)
  have h3 : ∀ n, n ≤ (np_parts c S.1).2 → 2 * n ≤ smN (fun r => cntB (fun v => decide ((np_parts c S.1).1 v = nI r) && true) (2 * c)) n := by
    intro n
    induction n with
    | zero => exact fun _ => Nat.zero_le _
    | succ n ih =>
      intro hn
      have := ih (by omega)
      have h4 := hpt n (by omega)
      show _ ≤ smN _ n + cntB (fun v => decide ((np_parts c S.1).1 v = nI n) && true) (2 * c)
      omega
  have := h3 _ (Nat.le_refl _)
  omega
def cpP (k g h q : Nat) : Prop := epP k q ∨ cV g q ∨ cQ h q
section CF
variable {vl : Nat → Nat} {y : ow_MS} {h k g : Nat} {T : ow_NT}
theorem lfc_ex {G F : Nat → Int32} {p : Int32} : ∀ n, (∃ v, v < n ∧ F v = p) → ∃ v, v < n ∧ F v = p ∧ cd_first G v = lfc G F p n
  | 0, ⟨v, hv, _⟩ => absurd hv (Nat.not_lt_zero _)
  | n + 1, ⟨v, hv, ev⟩ => by
    have b2 := first_b (G := G) (v := n)
    show ∃ v, v < n + 1 ∧ F v = p ∧ cd_first G v = if F n = p then (if cd_first G n < lfc G F p n then cd_first G n else lfc G F p n) else lfc G F p n
    by_cases e : F n = p
    · rw [if_pos e]
      by_cases e2 : cd_first G n < lfc G F p n
      · exact ⟨n, by omega, e, by rw [if_pos e2]⟩
      · rw [if_neg e2]
        have h8 : lfc G F p n ≠ 8 := by omega
        have hex : ∃ w, w < n ∧ F w = p := by
          apply Classical.byContradiction
          intro hn
          apply h8
          have : ∀ m, m ≤ n → lfc G F p m = 8 := by
            intro m
            induction m with
            | zero => exact fun _ => rfl
            | succ m ih =>
              intro hm
              show (if F m = p then _ else lfc G F p m) = 8
              rw [if_neg (fun e3 => hn ⟨m, by omega, e3⟩)]
              exact ih (by omega)
          exact this n (Nat.le_refl _)
        obtain ⟨w, hw, e3, e4⟩ := lfc_ex (G := G) n hex
        exact ⟨w, by omega, e3, e4⟩
    · rw [if_neg e]
      have hvn : v < n := by
        rcases Nat.lt_or_ge v n with h9 | h9
        · exact h9
        · exact absurd (by rw [← show v = n by omega]; exact ev) e
      obtain ⟨w, hw, e3, e4⟩ := lfc_ex (G := G) n ⟨v, hvn, ev⟩
      exact ⟨w, by omega, e3, e4⟩
theorem u_X2_collectParts_1 {vl : Nat → Nat} {x3 : Int32} {x4 : Int32} {r0 : Nat} {r1 : Nat} {r2 : Nat} {t0 : Int32} {z : ow_MS} {Q : ow_MS → Prop} (H : Tt (fun K k => cm_X2_collectParts_1 vl K (c_X2_collectParts vl K k) x3 x4 r0 r1 r2 t0 z) Q) : Tt (fun K k => c_X2_collectParts vl K k 1 x3 x4 r0 r1 r2 t0 z) Q := w_un (fun _ _ => rfl) H
theorem u_X2_collectParts_2 {vl : Nat → Nat} {x3 : Int32} {x4 : Int32} {r0 : Nat} {r1 : Nat} {r2 : Nat} {t0 : Int32} {z : ow_MS} {Q : ow_MS → Prop} (H : Tt (fun K k => cm_X2_collectParts_2 vl K (c_X2_collectParts vl K k) x3 x4 r0 r1 r2 t0 z) Q) : Tt (fun K k => c_X2_collectParts vl K k 2 x3 x4 r0 r1 r2 t0 z) Q := w_un (fun _ _ => rfl) H
theorem e_X2_collectParts {vl : Nat → Nat} {r0 : Nat} {r1 : Nat} {r2 : Nat} {z : ow_MS} {Q : ow_MS → Prop} (H : Tt (fun K k => c_X2_collectParts vl K k 0 0 0 r0 r1 r2 0 z) Q) : Te (fun K => ce_X2_collectParts vl K r0 r1 r2 z) Q := w_te H
theorem u_X2_collectParts_0 {vl : Nat → Nat} {x3 : Int32} {x4 : Int32} {r0 : Nat} {r1 : Nat} {r2 : Nat} {t0 : Int32} {z : ow_MS} {Q : ow_MS → Prop} (H : Tt (fun K k => cm_X2_collectParts_0 vl K (c_X2_collectParts vl K k) x3 x4 r0 r1 r2 t0 z) Q) : Tt (fun K k => c_X2_collectParts vl K k 0 x3 x4 r0 r1 r2 t0 z) Q := w_un (fun _ _ => rfl) H
theorem tc_collectParts (hk : kH k) (hh : nH h) (hg : tH g 12) (hgk : g + 6 ≤ k ∨ k + 3000 ≤ g) (hgh : h + 12 ≤ g ∨ g + 6 ≤ h) (hy : cAt y h T) (t1 : vn T.1 T.2.2.1) (t2 : T.1 ≤ 12) (t3 : ow_b24 T.2.2.1) (hlen : ∀ r, r < (np_parts T.1 T.2.2.1.1).2 → ptL T.1 T.2.2.1 r ≤ 30) (hby : byR y (k + 2001)) (hb3 : byR y (g + 1)) : Te (fun K => ce_X2_collectParts vl K k h g y) (fun y1 => (∃ Cs os, cpZ T (np_parts T.1 T.2.2.1.1).2 Cs os ∧ tabC y1 g Cs os) ∧ byR y1 (k + 2001) ∧ byR y1 (g + 1) ∧ cAt y1 h T ∧ fr (cpP k g h) y y1) := by
  have hdj := kH_dj hk hh
  have hpl := parts_le t1 t2
  obtain ⟨p1, p2, p3, p4⟩ := parts_I t1 t2
  let F := (np_parts T.1 T.2.2.1.1).1
  let n := (np_parts T.1 T.2.2.1.1).2
  let Q : ow_MS → Prop := fun y1 => (∃ Cs os, cpZ T n Cs os ∧ tabC y1 g Cs os) ∧ byR y1 (k + 2001) ∧ byR y1 (g + 1) ∧ cAt y1 h T ∧ fr (cpP k g h) y y1
  have c1 : ∀ (d i : Nat) (z : ow_MS) (Cs : List cdT) (os : List Nat), i + d = n → cpZ T i Cs os → tabC z g Cs os → (∀ j, j < 2 * T.1 → z.2.1 (h + 6) j = F j) → z.1 (h + 11) = nI n → byR z (k + 2001) → byR z (g + 1) → cAt z h T → fr (cpP k g h) y z → Tt (fun K t => c_X2_collectParts vl K t 1 (nI i) 0 k h g 0 z) Q := by
    intro d
    induction d with
    | zero =>
      intro i z Cs os hi hR hC h6 h11 hb1 hb2 hz hf
      have e : i = n := by omega
      subst e
      refine u_X2_collectParts_1 ?_; unfold cm_X2_collectParts_1
      exact w_rdF h11 (w_leT (by omega) (by omega) (w_some ⟨⟨Cs, os, hR, hC⟩, hb1, hb2, hz, hf⟩))
    | succ d ih =>
      intro i z Cs os hi hR hC h6 h11 hb1 hb2 hz hf
      obtain ⟨r1, r2, r3, r4⟩ := hR
      have hos := tabC_os hC
      have hlo : Cs.length = os.length := hC.2.1
      refine u_X2_collectParts_1 ?_; unfold cm_X2_collectParts_1
      refine w_rdF h11 (w_leF (by omega) (by omega) (w_cs0 (tc_encodePart (F := F) (n0 := ptL T.1 T.2.2.1 i) hk hh hz t2 t3 h6 (hlen i (by omega)) (fun v hv ev => tf_len_pt T.2.2.2 t1 t2 hv ev) hb1) ?_))
      rintro z1 ⟨⟨C, q1, q2, q3⟩, q4, q5⟩
      have hCl : C.2.length = ptL T.1 T.2.2.1 i := by
        obtain ⟨v, hv, ev⟩ := p3 i (by omega)
        obtain ⟨w, hw, e1, e2⟩ := lfc_ex (G := T.2.2.2) (F := F) (p := nI i) (2 * T.1) ⟨v, hv, ev⟩
        rcases q1.2 with ⟨a1, a2⟩ | ⟨u, a1, a2⟩
        · exact absurd ⟨e1, e2⟩ (a1 w hw)
        · rw [a2, tfL_len]
          exact tf_len_pt T.2.2.2 t1 t2 a1.1 a1.2.1.1
      have hC1 : tabC z1 g Cs os := tabC_fr q5 (fun q hq hp => by unfold cV at hq; unfold epP at hp; omega) hC
      have hb21 : byR z1 (g + 1) := by
        intro j
        rw [(q5 (g + 1) (by unfold epP; omega)).2.1]
        exact hb2 j
      have fin : ∀ (j : Nat) (x4 : Int32), j ≤ os.length → ((j < os.length ∧ atC Cs os j = C) ∨ (moC Cs os C → (∀ i, i < j → cmpC (atC Cs os i) C < 0) ∧ ∀ i, j ≤ i → i < os.length → 0 < cmpC (atC Cs os i) C)) → Tt (fun K t => c_X2_collectParts vl K t 2 (nI i) x4 k h g (nI j) z1) Q := by
        intro j x4 s1 s2
        refine u_X2_collectParts_2 ?_; unfold cm_X2_collectParts_2
        refine w_cs0 (tc_insert hg (kH_one hk) (by omega) Nat.one_pos hC1 (by omega) s1 q2 q3 q4) ?_
        rintro z2 ⟨s3, s4, s5⟩
        rw [if_pos (by omega)] at s3
        rw [nI_1]
        have hord : (∀ a, a < j → cmpC (atC Cs os a) C ≤ 0) ∧ ∀ a, j ≤ a → a < os.length → cmpC C (atC Cs os a) ≤ 0 := by
          rcases s2 with ⟨u1, u2⟩ | u1
          · rw [← u2]
            refine ⟨fun a ha => r4 a j ha u1, fun a ha ha2 => ?_⟩
            by_cases e : j = a
            · rw [e, cmpC_rf]
              exact Int.le_refl _
            · exact r4 j a (by omega) ha2
          · have u2 := u1 (srt_mo r4 C)
            refine ⟨fun a ha => Int.le_of_lt (u2.1 a ha), fun a ha ha2 => ?_⟩
            have := u2.2 a ha ha2
            have := cmpC_sym (A := C) (B := atC Cs os a)
            omega
        have hol : os.length = i := by omega
        have hz1 : cAt z1 h T := cAt_fr q5 (fun q hq hp => by unfold cP at hq; unfold epP at hp; omega) hz
        refine ih (i + 1) z2 (Cs ++ [C]) (insO os j os.length) (by omega) ⟨by rw [List.length_append]; show _ + 1 = _; omega, fun q C' e => ?_, ?_, srt_ins s1 hlo hos r4 hord.1 hord.2⟩ s3 (fun v hv => ?_) ?_ ?_ (s4 hb21) (cAt_fr s5 (fun q hq hp => by unfold cP at hq; unfold cV at hp; omega) hz1) (fr_tr hf (fr_tr (fr_mono (fun q hq => Or.inl hq) q5) (fr_mono (fun q hq => Or.inr (Or.inl hq)) s5)))
        · by_cases e1 : q < Cs.length
          · rw [List.getElem?_append_left e1] at e
            exact r2 q C' e
          · have := (List.getElem?_eq_some_iff.mp e).1
            rw [List.length_append] at this
            have e2 : q = i := by
              have : q < Cs.length + 1 := this
              omega
            rw [List.getElem?_append_right (by omega), show q - Cs.length = 0 by omega] at e
            cases e
            rw [e2]
            exact ⟨q1, hCl⟩
        · rw [hol]
          exact ins_perm r3
        · rw [(s5 (h + 6) (by unfold cV; omega)).2.1, (q5 (h + 6) (by unfold epP; omega)).2.1]
          exact h6 v hv
        · rw [(s5 (h + 11) (by unfold cV; omega)).1, (q5 (h + 11) (by unfold epP; omega)).1]
          exact h11
        · intro v
          rw [(s5 (k + 2001) (by unfold cV; omega)).2.1]
          exact q4 v
      refine w_cs1 (tc_find hg (kH_one hk) Nat.one_pos hC1 (by omega) q2 q3) ?_
      rintro v y1 ⟨hv, e2⟩
      dsimp only at hv e2
      subst e2
      rcases hv with ⟨j, k1, k2, k3⟩ | ⟨j, k1, k2, k3⟩
      · rw [k2]
        exact w_leT (a := 0) (by omega) (by omega) (fin j _ (by omega) (Or.inl ⟨k1, k3⟩))
      · rw [k2, show (-1 : Int32) - iI (-1 - (j : Int)) = nI j from by
          rw [show (-1 : Int32) = iI (-1) from rfl, iI_sub, nI_iI]
          congr 1
          omega]
        refine w_ifF (fun h9 => ?_) (fin j _ k1 (Or.inr k3))
        have := (iI_le (a := 0) (b := -1 - (j : Int)) (by omega) (by omega) (by omega) (by omega)).mp h9
        omega
  have hof := np_parts_of (N := T.2.2.1.1) (c := T.1) (fun a ha => (t1 a ha).1) t2 (y.2.1 (h + 6))
  refine e_X2_collectParts ?_
  refine u_X2_collectParts_0 ?_; unfold cm_X2_collectParts_0
  refine w_cs0 (tc_markParts hh hy (fun a ha => (t1 a ha).1) t2) ?_
  rintro z1 ⟨m1, m2, m3⟩
  have hz1 : cAt z1 h T := cAt_fr m3 (fun q hq hp => by unfold cP at hq; unfold cQ at hp; omega) hy
  refine w_wrF (c1 n 0 _ [] [] (by omega) ⟨rfl, fun q C e => (by rw [List.getElem?_nil] at e; cases e), List.Perm.refl _, fun i j _ hj => absurd hj (Nat.not_lt_zero _)⟩ ⟨po_usF_at, rfl, fun s C e => (by rw [List.getElem?_nil] at e; cases e), fun j s e => (by rw [List.getElem?_nil] at e; cases e)⟩ (fun j hj => ?_) ?_ ?_ ?_ (cAt_fr (P := cV g) (fr_F ⟨by omega, by omega⟩) (fun q hq hp => by unfold cP at hq; unfold cV at hp; omega) hz1) (fr_F2 (fr_mono (fun q hq => Or.inr (Or.inr hq)) m3) (Or.inr (Or.inl ⟨by omega, by omega⟩))))
  · show z1.2.1 (h + 6) j = F j
    rw [m1 j]
    exact hof.1 j hj
  · rw [rf_ot (by omega) m2]
    rw [hof.2]
  · intro j
    show fits .byte (.int (z1.2.1 (k + 2001) j)) = true
    rw [(m3 (k + 2001) (by unfold cQ; omega)).2.1]
    exact hby j
  · intro j
    show fits .byte (.int (z1.2.1 (g + 1) j)) = true
    rw [(m3 (g + 1) (by unfold cQ; omega)).2.1]
    exact hb3 j
end CF
end
section
/-! 99zzzzzg.cenc3 -/
/-! the class: Coder.encode -/
/-- the rows of the parts in order -/
def cdR (Cs : List cdT) (os : List Nat) : List (List Nat) := os.map (fun s => (Cs.getD s (0, [])).2)
/-- the code of a net -/
def enC (T : ow_NT) (Cs : List cdT) (os : List Nat) : cdT := (T.1, (cdR Cs os).flatten ++ List.replicate T.2.1 0)
theorem cdR_at {Cs : List cdT} {os : List Nat} {i : Nat} (hi : i < os.length) : (cdR Cs os)[i]? = some (atC Cs os i).2 := by
  unfold cdR atC
  rw [List.getElem?_map, List.getElem?_eq_getElem hi]
  show some _ = some (Cs.getD (os.getD i 0) (0, [])).2
  rw [List.getD_eq_getElem?_getD (l := os), List.getElem?_eq_getElem hi]
  rfl
theorem cdR_s {Cs : List cdT} {os : List Nat} {i : Nat} (hi : i < os.length) : ((cdR Cs os).take (i + 1)).flatten = ((cdR Cs os).take i).flatten ++ (atC Cs os i).2 := by
  rw [List.take_add_one, cdR_at hi, List.flatten_append]
  congr 1
  show [(atC Cs os i).2].flatten = _
  rw [List.flatten_cons, List.flatten_nil, List.append_nil]
theorem sm_range {f : Nat → Nat} : ∀ n, ((List.range n).map f).sum = smN f n
  | 0 => rfl
  | n + 1 => by
    rw [List.range_succ, List.map_append, List.sum_append_nat, sm_range n]
    show smN f n + (f n + 0) = smN f n + f n
    rfl
theorem cdR_len {T : ow_NT} {Cs : List cdT} {os : List Nat} (hT : nv T) (h : cpZ T (np_parts T.1 T.2.2.1.1).2 Cs os) : (cdR Cs os).flatten.length = 2 * T.1 + np_rg T.1 T.2.2.1 := by
  obtain ⟨r1, r2, r3, r4⟩ := h
  rw [List.length_flatten]
  unfold cdR
  rw [List.map_map]
  have e : os.map (List.length ∘ fun s => (Cs.getD s (0, [])).2) = os.map (ptL T.1 T.2.2.1) := by
    apply List.map_congr_left
    intro s hs
    have hs2 : s < Cs.length := by
      rw [r1]
      exact List.mem_range.mp ((r3.mem_iff).mp hs)
    have := (r2 s Cs[s] (List.getElem?_eq_getElem hs2)).2
    show (Cs.getD s (0, [])).2.length = _
    rw [List.getD_eq_getElem?_getD, List.getElem?_eq_getElem hs2]
    exact this
  rw [e, (r3.map _).sum_nat, sm_range]
  exact ptL_sum hT.1 hT.2.1
theorem take_len {L : List (List Nat)} {i : Nat} : ((L.take i).flatten).length ≤ L.flatten.length := by
  have h : L.flatten = (L.take i).flatten ++ (L.drop i).flatten := by
    rw [← List.flatten_append, List.take_append_drop]
  rw [h, List.length_append]
  omega
def enP (k h q : Nat) : Prop := cpP k (k + 3000) h q ∨ k + 1001 ≤ q ∧ q ≤ k + 1003
section CG
variable {vl : Nat → Nat} {y : ow_MS} {h k : Nat} {T : ow_NT}
theorem e_X2_encode {vl : Nat → Nat} {r0 : Nat} {r1 : Nat} {z : ow_MS} {Q : ow_MS → Prop} (H : Tt (fun K k => c_X2_encode vl K k 0 0 0 0 0 r0 r1 z) Q) : Te (fun K => ce_X2_encode vl K r0 r1 z) Q := w_te H
theorem u_X2_encode_0 {vl : Nat → Nat} {x2 : Int32} {x3 : Int32} {x4 : Int32} {x5 : Int32} {r0 : Nat} {r1 : Nat} {z : ow_MS} {Q : ow_MS → Prop} (H : Tt (fun K k => cm_X2_encode_0 vl K (c_X2_encode vl K k) x2 x3 x4 x5 r0 r1 z) Q) : Tt (fun K k => c_X2_encode vl K k 0 x2 x3 x4 x5 r0 r1 z) Q := w_un (fun _ _ => rfl) H
theorem u_X2_encode_4 {vl : Nat → Nat} {x2 : Int32} {x3 : Int32} {x4 : Int32} {x5 : Int32} {r0 : Nat} {r1 : Nat} {z : ow_MS} {Q : ow_MS → Prop} (H : Tt (fun K k => cm_X2_encode_4 vl K (c_X2_encode vl K k) x2 x3 x4 x5 r0 r1 z) Q) : Tt (fun K k => c_X2_encode vl K k 4 x2 x3 x4 x5 r0 r1 z) Q := w_un (fun _ _ => rfl) H
theorem u_X2_encode_3 {vl : Nat → Nat} {x2 : Int32} {x3 : Int32} {x4 : Int32} {x5 : Int32} {r0 : Nat} {r1 : Nat} {z : ow_MS} {Q : ow_MS → Prop} (H : Tt (fun K k => cm_X2_encode_3 vl K (c_X2_encode vl K k) x2 x3 x4 x5 r0 r1 z) Q) : Tt (fun K k => c_X2_encode vl K k 3 x2 x3 x4 x5 r0 r1 z) Q := w_un (fun _ _ => rfl) H
theorem u_X2_encode_1 {vl : Nat → Nat} {x2 : Int32} {x3 : Int32} {x4 : Int32} {x5 : Int32} {r0 : Nat} {r1 : Nat} {z : ow_MS} {Q : ow_MS → Prop} (H : Tt (fun K k => cm_X2_encode_1 vl K (c_X2_encode vl K k) x2 x3 x4 x5 r0 r1 z) Q) : Tt (fun K k => c_X2_encode vl K k 1 x2 x3 x4 x5 r0 r1 z) Q := w_un (fun _ _ => rfl) H
theorem u_X2_encode_2 {vl : Nat → Nat} {x2 : Int32} {x3 : Int32} {x4 : Int32} {x5 : Int32} {r0 : Nat} {r1 : Nat} {z : ow_MS} {Q : ow_MS → Prop} (H : Tt (fun K k => cm_X2_encode_2 vl K (c_X2_encode vl K k) x2 x3 x4 x5 r0 r1 z) Q) : Tt (fun K k => c_X2_encode vl K k 2 x2 x3 x4 x5 r0 r1 z) Q := w_un (fun _ _ => rfl) H
theorem tc_encode (hk : kH k) (hh : nH h) (hy : cAt y h T) (hT : nv T) (hb1 : byR y (k + 1001)) (hb2 : byR y (k + 2001)) (hb3 : byR y (k + 3001)) : Te (fun K => ce_X2_encode vl K k h y) (fun y1 => (∃ Cs os, cpZ T (np_parts T.1 T.2.2.1.1).2 Cs os ∧ slC y1 (k + 1000) 0 (enC T Cs os) ∧ cOK (enC T Cs os)) ∧ byR y1 (k + 1001) ∧ byR y1 (k + 2001) ∧ byR y1 (k + 3001) ∧ cAt y1 h T ∧ fr (enP k h) y y1) := by
  have hdj := kH_dj hk hh
  let Q : ow_MS → Prop := fun y1 => (∃ Cs os, cpZ T (np_parts T.1 T.2.2.1.1).2 Cs os ∧ slC y1 (k + 1000) 0 (enC T Cs os) ∧ cOK (enC T Cs os)) ∧ byR y1 (k + 1001) ∧ byR y1 (k + 2001) ∧ byR y1 (k + 3001) ∧ cAt y1 h T ∧ fr (enP k h) y y1
  refine e_X2_encode ?_
  refine u_X2_encode_0 ?_; unfold cm_X2_encode_0
  have hl30 : ∀ r, r < (np_parts T.1 T.2.2.1.1).2 → ptL T.1 T.2.2.1 r ≤ 30 := by
    intro r hr
    obtain ⟨v, hv, ev⟩ := (parts_I hT.1 hT.2.1).2.2.1 r hr
    have h1 := tf_len_pt T.2.2.2 hT.1 hT.2.1 hv ev
    have h2 := tf_len_le T.2.2.2 hT.1 hT.2.1 hv
    have h3 := hT.2.1
    have h4 := hT.2.2.2
    omega
  refine w_cs0 (tc_collectParts hk hh (kH_sort hk) (by omega) (by omega) hy hT.1 hT.2.1 hT.2.2.1 hl30 hb2 hb3) ?_
  rintro z1 ⟨⟨Cs, os, hR, hC⟩, g1, g2, g3, g4⟩
  have hlen := cdR_len hT hR
  obtain ⟨t1, t2, t3, t4⟩ := id hT
  have hol : os.length = (np_parts T.1 T.2.2.1.1).2 := by
    rw [← hC.2.1]
    exact hR.1
  have hpl := parts_le t1 t2
  have hok : cOK (enC T Cs os) := by
    refine ⟨t2, ?_, fun a ha => ?_⟩
    · show ((cdR Cs os).flatten ++ List.replicate T.2.1 0).length ≤ 30
      rw [List.length_append, List.length_replicate]
      omega
    · have ha' : a ∈ (cdR Cs os).flatten ++ List.replicate T.2.1 0 := ha
      rcases List.mem_append.mp ha' with h9 | h9
      · obtain ⟨l, hl, hal⟩ := List.mem_flatten.mp h9
        obtain ⟨s, hs, es⟩ := List.mem_map.mp hl
        have hs2 : s < Cs.length := by
          rw [hR.1]
          exact List.mem_range.mp ((hR.2.2.1.mem_iff).mp hs)
        rw [← es, List.getD_eq_getElem?_getD, List.getElem?_eq_getElem hs2] at hal
        exact (hC.2.2.1 s _ (List.getElem?_eq_getElem hs2)).2.2.2 a hal
      · rw [(List.mem_replicate.mp h9).2]
        omega
  -- the cells so far
  let S : ow_MS → List Nat → Prop := fun z L => (∀ j a, L[j]? = some a → z.2.1 (k + 1001) j = nI a) ∧ byR z (k + 1001) ∧ fr (fun q => q = k + 1001) z1 z
  have c4 : ∀ (z : ow_MS) (x3 : Int32), S z (enC T Cs os).2 → Tt (fun K t => c_X2_encode vl K t 4 (nI (enC T Cs os).2.length) x3 0 0 k h z) Q := by
    intro z x3 ⟨s1, s2, s3⟩
    have hz : cAt z h T := cAt_fr s3 (fun q hq hp => by unfold cP at hq; omega) g3
    refine u_X2_encode_4 ?_; unfold cm_X2_encode_4
    have hl30 : (enC T Cs os).2.length ≤ 30 := hok.2.1
    have hc12 : T.1 ≤ 12 := t2
    refine w_ctB (i := 0) (tH_2 (kH_out hk)) rfl (by omega) (w_rdF (x := nI T.1) hz.1 (w_ctB (i := 0) (tH_3 (kH_out hk)) rfl (by omega) (w_some ?_)))
    rw [show vp_nar .byte (nI (enC T Cs os).2.length).toInt8.toInt32 = nI (enC T Cs os).2.length from (i2b64 ⟨(enC T Cs os).2.length, by omega⟩).1, show vp_nar .byte (nI T.1).toInt8.toInt32 = nI T.1 from (i2b64 ⟨T.1, by omega⟩).1]
    have hfr : fr (fun q => k + 1001 ≤ q ∧ q ≤ k + 1003) z1 (usI (usI z (k + 1000 + 2) 0 (nI (enC T Cs os).2.length)) (k + 1000 + 3) 0 (nI T.1)) := fr_I2 (fr_I2 (fr_mono (fun q hq => by rw [hq]; omega) s3) (by omega)) (by omega)
    refine ⟨⟨Cs, os, hR, ⟨po_usI_at, rd_ot (by omega) po_usI_at, fun i a e => rd_ot (by omega) (rd_ot (by omega) ?_)⟩, hok⟩, fun j => ?_, fun j => ?_, fun j => ?_, cAt_fr hfr (fun q hq hp => by unfold cP at hq; omega) g3, fr_tr (fr_mono (fun q hq => Or.inl hq) g4) (fr_mono (fun q hq => Or.inr hq) hfr)⟩
    · rw [show 30 * 0 + i = i by omega]
      exact s1 i a e
    · rw [show (usI (usI z (k + 1000 + 2) 0 (nI (enC T Cs os).2.length)) (k + 1000 + 3) 0 (nI T.1)).2.1 (k + 1001) j = z.2.1 (k + 1001) j from rd_ot (by omega) (rd_ot (by omega) rfl)]
      exact s2 j
    · rw [(hfr (k + 2001) (by omega)).2.1]
      exact g1 j
    · rw [(hfr (k + 3001) (by omega)).2.1]
      exact g2 j
  have c3 : ∀ (d i : Nat) (z : ow_MS), i + d = T.2.1 → S z ((cdR Cs os).flatten ++ List.replicate i 0) → Tt (fun K t => c_X2_encode vl K t 3 (nI ((cdR Cs os).flatten ++ List.replicate i 0).length) (nI i) 0 0 k h z) Q := by
    intro d
    induction d with
    | zero =>
      intro i z hi hs
      have e : i = T.2.1 := by omega
      have hz : cAt z h T := cAt_fr hs.2.2 (fun q hq hp => by unfold cP at hq; omega) g3
      subst e
      refine u_X2_encode_3 ?_; unfold cm_X2_encode_3
      exact w_rdF hz.2.1 (w_leT (by omega) (by omega) (c4 z _ hs))
    | succ d ih =>
      intro i z hi hs
      have hz : cAt z h T := cAt_fr hs.2.2 (fun q hq hp => by unfold cP at hq; omega) g3
      have hl : ((cdR Cs os).flatten ++ List.replicate i 0).length = (cdR Cs os).flatten.length + i := by rw [List.length_append, List.length_replicate]
      have hl1 : ((cdR Cs os).flatten ++ List.replicate (i + 1) 0).length = (cdR Cs os).flatten.length + i + 1 := by
        rw [List.length_append, List.length_replicate]
        omega
      have hap : (cdR Cs os).flatten ++ List.replicate (i + 1) 0 = (cdR Cs os).flatten ++ List.replicate i 0 ++ [0] := by
        rw [List.replicate_succ', List.append_assoc]
      refine u_X2_encode_3 ?_; unfold cm_X2_encode_3
      rw [hl]
      refine w_rdF hz.2.1 (w_leF (by omega) (by omega) (w_leF (a := 30) (by omega) (by omega) (w_ctB (i := (cdR Cs os).flatten.length + i) (tH_1 (kH_out hk)) rfl (by omega) ?_)))
      rw [nI_1, nI_1, ← hl1]
      refine ih (i + 1) _ (by omega) ⟨fun j a e => ?_, fun j => ?_, fr_I2 hs.2.2 rfl⟩
      · rw [hap] at e
        by_cases e1 : j = (cdR Cs os).flatten.length + i
        · rw [List.getElem?_append_right (by omega), hl, show j - ((cdR Cs os).flatten.length + i) = 0 by omega] at e
          cases e
          rw [e1]
          exact po_usI_at.trans (nar64 (a := 0) (by omega))
        · have h9 := (List.getElem?_eq_some_iff.mp e).1
          rw [List.length_append, hl] at h9
          have h9' : j < (cdR Cs os).flatten.length + i + 1 := h9
          rw [List.getElem?_append_left (by omega)] at e
          exact rd_ne e1 (hs.1 j a e)
      · by_cases e1 : j = (cdR Cs os).flatten.length + i
        · rw [e1, show (usI z (k + 1000 + 1) ((cdR Cs os).flatten.length + i) (vp_nar .byte 0)).2.1 (k + 1001) ((cdR Cs os).flatten.length + i) = vp_nar .byte 0 from po_usI_at]
          decide
        · rw [show (usI z (k + 1000 + 1) ((cdR Cs os).flatten.length + i) (vp_nar .byte 0)).2.1 (k + 1001) j = z.2.1 (k + 1001) j from rd_ne e1 rfl]
          exact hs.2.1 j
  have c1 : ∀ (d i : Nat) (z : ow_MS), i + d = os.length → S z ((cdR Cs os).take i).flatten → Tt (fun K t => c_X2_encode vl K t 1 (nI ((cdR Cs os).take i).flatten.length) (nI i) 0 0 k h z) Q := by
    intro d
    induction d with
    | zero =>
      intro i z hi hs
      have h5 : z.1 (k + 3000 + 5) = nI os.length := by
        rw [(hs.2.2 (k + 3000 + 5) (by omega)).1]
        exact hC.1
      have ha : (cdR Cs os).take i = cdR Cs os := List.take_of_length_le (by unfold cdR; rw [List.length_map]; omega)
      rw [ha] at hs ⊢
      refine u_X2_encode_1 ?_; unfold cm_X2_encode_1
      refine w_rdF h5 (w_leT (by omega) (by omega) ?_)
      have := c3 T.2.1 0 z (by omega) (by rw [List.replicate_zero, List.append_nil]; exact hs)
      rw [List.replicate_zero, List.append_nil] at this
      exact this
    | succ d ih =>
      intro i z hi hs
      have h5 : z.1 (k + 3000 + 5) = nI os.length := by
        rw [(hs.2.2 (k + 3000 + 5) (by omega)).1]
        exact hC.1
      obtain ⟨s, u1, u2, u3, u4⟩ := tab_at hC (show i < os.length by omega)
      have hs12 : s < 12 := by
        have := hC.2.1
        omega
      have e4 : z.2.1 (k + 3000 + 4) i = nI s := by
        rw [(hs.2.2 (k + 3000 + 4) (by omega)).2.1]
        exact u2
      have e2 : z.2.1 (k + 3000 + 2) s = nI (atC Cs os i).2.length := by
        rw [(hs.2.2 (k + 3000 + 2) (by omega)).2.1]
        exact u3.2.1
      have e1 : ∀ j a, (atC Cs os i).2[j]? = some a → z.2.1 (k + 3000 + 1) (30 * s + j) = nI a := by
        rw [(hs.2.2 (k + 3000 + 1) (by omega)).2.1]
        exact u3.2.2
      have hst := cdR_s (Cs := Cs) (os := os) (show i < os.length by omega)
      have htl := take_len (L := cdR Cs os) (i := i + 1)
      have hl30 := u4.2.1
      rw [hst, List.length_append] at htl
      refine u_X2_encode_1 ?_; unfold cm_X2_encode_1
      refine w_rdF h5 (w_leF (by omega) (by omega) (w_crI (kH_sort hk |> tH_4) rfl (show i < 12 by omega) e4 (w_crI (tH_2 (kH_sort hk)) rfl hs12 e2 ?_)))
      rw [show nI ((cdR Cs os).take i).flatten.length + nI (atC Cs os i).2.length = nI (((cdR Cs os).take i).flatten.length + (atC Cs os i).2.length) from nI_add _ _, mul30]
      refine w_ltF (a := 30) (by omega) (by omega) ?_
      have cpb : ∀ {E : ow_MS → Nat → Nat → Option ow_MS} {Q : ow_MS → Prop}, Tt (E (usR z (k + 1000 + 1) (va_cpy (z.2.1 (k + 3000 + 1)) (z.2.1 (k + 1000 + 1)) (30 * s) ((cdR Cs os).take i).flatten.length (atC Cs os i).2.length))) Q → Tt (fun K t => cpB (cX vl) z (k + 3000 + 1) (nI (30 * s)) (k + 1000 + 1) (nI ((cdR Cs os).take i).flatten.length) (nI (atC Cs os i).2.length) (fun v => E v K t)) Q := by
        intro E Q H
        unfold cpB
        refine w_ifT (fun j hj => ?_) (w_cpI (a := 30 * s) (b := ((cdR Cs os).take i).flatten.length) (n := (atC Cs os i).2.length) (tH_1 (kH_sort hk)) (tH_1 (kH_out hk)) rfl rfl rfl (by omega) (by omega) H)
        rw [nI_clamp (by omega)] at hj
        rw [nI_clamp (by omega), e1 j _ (List.getElem?_eq_getElem hj)]
        exact fits64 ⟨_, u4.2.2 _ (List.getElem_mem hj)⟩
      refine cpb ?_
      refine u_X2_encode_2 ?_; unfold cm_X2_encode_2
      rw [nI_1, ← List.length_append, ← hst]
      refine ih (i + 1) _ (by omega) ⟨fun j a e => ?_, fun j => ?_, fr_R2 hs.2.2 rfl⟩
      · rw [show k + 1001 = k + 1000 + 1 from rfl, usR_at]
        unfold va_cpy
        have hj := (List.getElem?_eq_some_iff.mp e).1
        rw [hst] at e hj
        rw [List.length_append] at hj
        by_cases e9 : j < ((cdR Cs os).take i).flatten.length
        · rw [if_neg (by omega)]
          rw [List.getElem?_append_left e9] at e
          exact hs.1 j a e
        · rw [if_pos (by omega)]
          rw [List.getElem?_append_right (by omega)] at e
          exact e1 _ a e
      · rw [show k + 1001 = k + 1000 + 1 from rfl, usR_at]
        unfold va_cpy
        split
        · rename_i h9
          have hj : j - ((cdR Cs os).take i).flatten.length < (atC Cs os i).2.length := by omega
          rw [e1 _ _ (List.getElem?_eq_getElem hj)]
          exact fits64 ⟨_, u4.2.2 _ (List.getElem_mem hj)⟩
        · exact hs.2.1 j
  refine c1 os.length 0 z1 (by omega) ⟨fun j a e => ?_, fun j => ?_, fr_rf⟩
  · rw [show ((cdR Cs os).take 0).flatten = [] from rfl, List.getElem?_nil] at e
    cases e
  · rw [(g4 (k + 1001) (by unfold cpP epP cV cQ; omega)).2.1]
    exact hb1 j
end CG
end
section
/-! 99zzzzzh.ciso -/
/-! a net of the class that shows a list of components: the code from a visit is the reference's row from it -/
def lbv (A : rn_L) (f : Nat → Nat) (v : Nat) : Nat := 2 * f (crs A v) + uns A v
def cirs (A : rn_L) : Nat := A.countP (fun B => B.isEmpty)
/-- T shows A: crossing x of A is f x there -/
def isoN (A : rn_L) (sg : Nat → Bool) (f : Nat → Nat) (T : ow_NT) : Prop := wkF A.flatten ∧ A.flatten.length = 2 * T.1 ∧ T.1 ≤ 12 ∧ (∀ v, v < A.flatten.length → f (crs A v) < T.1) ∧ (∀ v w, v < A.flatten.length → w < A.flatten.length → f (crs A v) = f (crs A w) → crs A v = crs A w) ∧ (∀ v, v < A.flatten.length → T.2.2.1.1 (lbv A f v) = lbv A f (rn_nx A v)) ∧ (∀ v, v < A.flatten.length → (T.2.2.2 (f (crs A v)) < 0 ↔ sg (crs A v) = true)) ∧ cirs A = T.2.1
section CI
variable {A : rn_L} {sg : Nat → Bool} {f : Nat → Nat} {T : ow_NT}
theorem uns_lt {v : Nat} (hF : wkF A.flatten) (hv : v < A.flatten.length) : uns A v < 2 := (hF.2 _ (List.mem_of_getElem? (vAt_of hv))).2.1
theorem lbv_lt {v : Nat} (h : isoN A sg f T) (hv : v < A.flatten.length) : lbv A f v < 2 * T.1 := by
  have := uns_lt h.1 hv
  have := h.2.2.2.1 v hv
  unfold lbv
  omega
theorem lbv_hf {v : Nat} (h : isoN A sg f T) (hv : v < A.flatten.length) : lbv A f v / 2 = f (crs A v) ∧ lbv A f v % 2 = uns A v := by
  have := uns_lt h.1 hv
  unfold lbv
  omega
theorem lbv_inj {v w : Nat} (h : isoN A sg f T) (hv : v < A.flatten.length) (hw : w < A.flatten.length) (e : lbv A f v = lbv A f w) : v = w := by
  have h1 := lbv_hf h hv
  have h2 := lbv_hf h hw
  have h3 : f (crs A v) = f (crs A w) := by omega
  have h4 := h.2.2.2.2.1 v w hv hw h3
  have h5 : uns A v = uns A w := by omega
  have h6 : vAt A v = vAt A w := Prod.ext h4 h5
  refine nodup_at h.1.1 (vAt_of hv) ?_
  rw [h6]
  exact vAt_of hw
theorem lbv_mt {v : Nat} (h : isoN A sg f T) (hv : v < A.flatten.length) : mtf A v < A.flatten.length ∧ crs A (mtf A v) = crs A v ∧ lbv A f (mtf A v) = mt (lbv A f v) ∧ mtf A v ≠ v := by
  have hm := mtf_mt (wkF_ok h.1) hv
  have hl := (rn_mt_lt hm).2
  obtain ⟨hne, p, q, e1, e2, e3⟩ := hm
  have c1 : crs A (mtf A v) = crs A v := by
    unfold crs
    rw [vAt_eq e1, vAt_eq e2]
    exact e3.symm
  have u1 := uns_lt h.1 hv
  have u2 := uns_lt h.1 hl
  have hu : uns A (mtf A v) ≠ uns A v := by
    intro e
    have h6 : vAt A (mtf A v) = vAt A v := Prod.ext c1 e
    refine hne (nodup_at h.1.1 (vAt_of hv) ?_)
    rw [← h6]
    exact vAt_of hl
  refine ⟨hl, c1, ?_, fun e => hne e.symm⟩
  have h1 := lbv_hf h hv
  unfold lbv
  rw [c1]
  unfold mt
  split <;> omega
theorem lbv_sur (h : isoN A sg f T) {k : Nat} (hk : k < 2 * T.1) : ∃ v, v < A.flatten.length ∧ lbv A f v = k := by
  apply Classical.byContradiction
  intro hn
  have h1 : ((List.range A.flatten.length).map (lbv A f)).Nodup := nodup_map List.nodup_range (fun a b ha hb e => lbv_inj h (List.mem_range.mp ha) (List.mem_range.mp hb) e)
  have h2 : (k :: (List.range A.flatten.length).map (lbv A f)).Nodup := by
    refine List.nodup_cons.mpr ⟨fun hm => ?_, h1⟩
    obtain ⟨v, hv, e⟩ := List.mem_map.mp hm
    exact hn ⟨v, List.mem_range.mp hv, e⟩
  have h3 := nodup_le _ (List.range (2 * T.1)) h2 (fun a ha => by
    rw [List.mem_range]
    rcases List.mem_cons.mp ha with e | e
    · omega
    · obtain ⟨v, hv, e9⟩ := List.mem_map.mp e
      rw [← e9]
      exact lbv_lt h (List.mem_range.mp hv))
  rw [List.length_cons, List.length_map, List.length_range, List.length_range, h.2.1] at h3
  omega
theorem gn_vs {S : List Nat} {w : Nat} (hS : tS A S) (hw : w < A.flatten.length) : gn A S (rn_c A w) = true ↔ w ∈ vsO A S := by
  unfold gn
  rw [decide_eq_true_iff]
  exact ⟨fun h => vsO_of hS hw h, fun h => (vsO_in hS h).2⟩
theorem tfL_vis {G : Nat → Int32} {P : tf_P} {v : Nat} : tfL (tf_vis G P v) = tfL P ++ [tf_cell G P v] := by
  show (List.range (P.len + 1)).map (nu P.T P.len (tf_cell G P v)) = (List.range P.len).map P.T ++ [tf_cell G P v]
  rw [List.range_succ, List.map_append]
  congr 1
  · apply List.map_congr_left
    intro j hj
    have := List.mem_range.mp hj
    exact nu_ne _ _ (by omega)
  · show [nu P.T P.len (tf_cell G P v) P.len] = _
    rw [nu_same]
theorem tfL_sep {P : tf_P} : tfL (tf_sep P) = tfL P ++ [0] := by
  show (List.range (P.len + 1)).map (nu P.T P.len 0) = (List.range P.len).map P.T ++ [0]
  rw [List.range_succ, List.map_append]
  congr 1
  · apply List.map_congr_left
    intro j hj
    have := List.mem_range.mp hj
    exact nu_ne _ _ (by omega)
  · show [nu P.T P.len 0 P.len] = _
    rw [nu_same]
/-- the machine has gone over the visits vs -/
def tJ (A : rn_L) (f : Nat → Nat) (vs cells : List Nat) (P : tf_P) : Prop := P.names = (fm A vs).length ∧ (∀ k w, (fm A vs)[k]? = some w → P.nam k = f (crs A w) ∧ P.num (f (crs A w)) = k + 1) ∧ (∀ v, v < A.flatten.length → crs A v ∉ vs.map (crs A) → P.num (f (crs A v)) = 0) ∧ (∀ v, v < A.flatten.length → (o_gn P.gone (lbv A f v) ↔ v ∈ vs)) ∧ tfL P = cells ∧ ∀ v, v ∈ vs → v < A.flatten.length
theorem tJ_num {vs cells : List Nat} {P : tf_P} {v : Nat} (h : tJ A f vs cells P) (hv : crs A v ∈ vs.map (crs A)) : P.num (f (crs A v)) = num A vs (crs A v) := by
  obtain ⟨w, e1, e2⟩ := num_at hv
  have h1 := (h.2.1 _ w e1).2
  have h2 := num_of e1
  rw [e2] at h1 h2
  omega
theorem tJ_vis {vs cells : List Nat} {P : tf_P} {v : Nat} (hi : isoN A sg f T) (h : tJ A f vs cells P) (hv : v < A.flatten.length) : tJ A f (vs ++ [v]) (cells ++ [tkn A sg (vs ++ [v]) v]) (tf_vis T.2.2.2 P (lbv A f v)) := by
  have hl := lbv_hf hi hv
  obtain ⟨a1, a2, a3, a4, a5, a6⟩ := id h
  have hgone : ∀ w, w < A.flatten.length → (o_gn (tf_vis T.2.2.2 P (lbv A f v)).gone (lbv A f w) ↔ w ∈ vs ++ [v]) := by
    intro w hw
    show o_gn (P.gone ||| 2 ^ lbv A f v) (lbv A f w) ↔ _
    rw [gn_or, a4 w hw, List.mem_append, List.mem_singleton]
    exact or_congr Iff.rfl ⟨fun e => lbv_inj hi hw hv e, fun e => by rw [e]⟩
  have hmem : ∀ w, w ∈ vs ++ [v] → w < A.flatten.length := by
    intro w hw
    rcases List.mem_append.mp hw with h9 | h9
    · exact a6 w h9
    · rw [List.mem_singleton.mp h9]
      exact hv
  have part : (tf_vis T.2.2.2 P (lbv A f v)).names = (fm A (vs ++ [v])).length ∧ (∀ k w, (fm A (vs ++ [v]))[k]? = some w → (tf_vis T.2.2.2 P (lbv A f v)).nam k = f (crs A w) ∧ (tf_vis T.2.2.2 P (lbv A f v)).num (f (crs A w)) = k + 1) ∧ (∀ w, w < A.flatten.length → crs A w ∉ (vs ++ [v]).map (crs A) → (tf_vis T.2.2.2 P (lbv A f v)).num (f (crs A w)) = 0) := by
    have e1 : (tf_vis T.2.2.2 P (lbv A f v)).num = (tf_name P (f (crs A v))).num := by
      rw [← hl.1]
      rfl
    have e2 : (tf_vis T.2.2.2 P (lbv A f v)).nam = (tf_name P (f (crs A v))).nam := by
      rw [← hl.1]
      rfl
    have e3 : (tf_vis T.2.2.2 P (lbv A f v)).names = (tf_name P (f (crs A v))).names := by
      rw [← hl.1]
      rfl
    rw [e1, e2, e3, fm_app]
    by_cases hc : crs A v ∈ (fm A vs).map (crs A)
    · have hc2 := (fm_cr vs).mp hc
      have hn : ¬ P.num (f (crs A v)) = 0 := by
        obtain ⟨w, q1, q2⟩ := num_at hc2
        have := (a2 _ w q1).2
        rw [q2] at this
        omega
      have e4 : tf_name P (f (crs A v)) = P := by
        unfold tf_name
        rw [if_neg hn]
      rw [e4, show fmA A (fm A vs) v = fm A vs from if_pos hc]
      refine ⟨a1, a2, fun w hw hx => a3 w hw (fun h9 => hx ?_)⟩
      rw [List.map_append]
      exact List.mem_append_left _ h9
    · have hc2 : crs A v ∉ vs.map (crs A) := fun h9 => hc ((fm_cr vs).mpr h9)
      have e4 : tf_name P (f (crs A v)) = ⟨nu P.num (f (crs A v)) (P.names + 1), nu P.nam P.names (f (crs A v)), P.names + 1, P.gone, P.T, P.len⟩ := by
        unfold tf_name
        rw [if_pos (a3 v hv hc2)]
      rw [e4, show fmA A (fm A vs) v = fm A vs ++ [v] from if_neg hc]
      refine ⟨?_, fun k w e => ?_, fun w hw hx => ?_⟩
      · show P.names + 1 = _
        rw [List.length_append, a1]
        rfl
      · show nu P.nam P.names (f (crs A v)) k = f (crs A w) ∧ nu P.num (f (crs A v)) (P.names + 1) (f (crs A w)) = k + 1
        by_cases hk : k < (fm A vs).length
        · rw [List.getElem?_append_left hk] at e
          have h9 := a2 k w e
          have hwm : w ∈ vs := fm_mem vs (List.mem_of_getElem? e)
          rw [nu_ne _ _ (by omega), nu_ne]
          · exact h9
          · intro e9
            have := hi.2.2.2.2.1 w v (a6 w hwm) hv e9
            exact hc2 (by rw [← this]; exact List.mem_map.mpr ⟨w, hwm, rfl⟩)
        · have h9 := (List.getElem?_eq_some_iff.mp e).1
          rw [List.length_append] at h9
          have h9' : k < (fm A vs).length + 1 := h9
          have ek : k = (fm A vs).length := by omega
          rw [ek, List.getElem?_append_right (Nat.le_refl _), Nat.sub_self] at e
          cases e
          rw [ek, ← a1, nu_same, nu_same]
          exact ⟨rfl, rfl⟩
      · show nu P.num (f (crs A v)) (P.names + 1) (f (crs A w)) = 0
        rw [List.map_append] at hx
        rw [nu_ne]
        · exact a3 w hw (fun h9 => hx (List.mem_append_left _ h9))
        · intro e9
          have := hi.2.2.2.2.1 w v hw hv e9
          exact hx (List.mem_append_right _ (by rw [this]; exact List.mem_singleton.mpr rfl))
  have hj0 : tJ A f (vs ++ [v]) (tfL (tf_vis T.2.2.2 P (lbv A f v))) (tf_vis T.2.2.2 P (lbv A f v)) := ⟨part.1, part.2.1, part.2.2, hgone, rfl, hmem⟩
  refine ⟨part.1, part.2.1, part.2.2, hgone, ?_, hmem⟩
  rw [tfL_vis, a5]
  congr 2
  have hnm := tJ_num (v := v) hj0 (by rw [List.map_append]; exact List.mem_append_right _ (List.mem_singleton.mpr rfl))
  have e1 : (tf_vis T.2.2.2 P (lbv A f v)).num = (tf_name P (f (crs A v))).num := by
    rw [← hl.1]
    rfl
  rw [e1] at hnm
  unfold tf_cell cd_first tkn
  rw [hl.1, hl.2, hnm]
  have h1 : 1 ≤ num A (vs ++ [v]) (crs A v) := by
    unfold num
    omega
  have h7 := hi.2.2.2.2.2.2.1 v hv
  by_cases h8 : sg (crs A v) = true
  · rw [if_pos (h7.mpr h8), if_pos h8]
    omega
  · rw [if_neg (fun h9 => h8 (h7.mp h9)), if_neg h8]
    omega
theorem tJ_sep {vs cells : List Nat} {P : tf_P} (h : tJ A f vs cells P) : tJ A f vs (cells ++ [0]) (tf_sep P) := by
  obtain ⟨a1, a2, a3, a4, a5, a6⟩ := h
  refine ⟨a1, a2, a3, a4, ?_, a6⟩
  rw [tfL_sep, a5]
/-- the visits of a ring up to j -/
def rgj (A : rn_L) (s j : Nat) : List Nat := (List.range j).map (rv A s)
theorem rgj_s {s j : Nat} : rgj A s (j + 1) = rgj A s j ++ [rv A s j] := by
  unfold rgj
  rw [List.range_succ, List.map_append]
  rfl
theorem rlen_le {s : Nat} (hs : s < A.flatten.length) : rlen A (rn_c A s) ≤ A.flatten.length := by
  have := rn_b_le A (rn_c A s + 1)
  unfold rlen
  omega
theorem tJ_ring {vs cells : List Nat} {s : Nat} (hi : isoN A sg f T) (hs : s < A.flatten.length) : ∀ (d j : Nat) (P : tf_P), j + d = rlen A (rn_c A s) → 0 < d → ∀ e, d ≤ e → tJ A f (vs ++ rgj A s j) (cells ++ (rgj A s j).map (tkn A sg (vs ++ rgj A s j))) P → tJ A f (vs ++ rgl A s) (cells ++ (rgl A s).map (tkn A sg (vs ++ rgl A s))) (tf_ring T.2.2.2 T.2.2.1.1 (lbv A f s) e (lbv A f (rv A s j)) P) := by
  intro d
  induction d with
  | zero => exact fun _ _ _ h => absurd h (Nat.lt_irrefl _)
  | succ d ih =>
    intro j P hj _ e he h
    obtain ⟨e1, rfl⟩ : ∃ e1, e = e1 + 1 := ⟨e - 1, by omega⟩
    have hjl : j < rlen A (rn_c A s) := by omega
    have hv := rv_lt hs hjl
    have hst := tJ_vis hi h hv
    have hN := hi.2.2.2.2.2.1 _ hv
    have hnx := rv_nx hs hjl
    have hcells : tJ A f (vs ++ rgj A s (j + 1)) (cells ++ (rgj A s (j + 1)).map (tkn A sg (vs ++ rgj A s (j + 1)))) (tf_vis T.2.2.2 P (lbv A f (rv A s j))) := by
      have e2 : vs ++ rgj A s (j + 1) = vs ++ rgj A s j ++ [rv A s j] := by rw [rgj_s, List.append_assoc]
      rw [e2]
      have e3 : cells ++ (rgj A s (j + 1)).map (tkn A sg (vs ++ rgj A s j ++ [rv A s j])) = cells ++ (rgj A s j).map (tkn A sg (vs ++ rgj A s j)) ++ [tkn A sg (vs ++ rgj A s j ++ [rv A s j]) (rv A s j)] := by
        have e9 : (rgj A s j).map (tkn A sg (vs ++ rgj A s j ++ [rv A s j])) = (rgj A s j).map (tkn A sg (vs ++ rgj A s j)) := by
          apply List.map_congr_left
          intro w hw
          exact tkn_st (List.mem_append_right _ hw)
        rw [rgj_s, List.map_append, e9, ← List.append_assoc]
        rfl
      rw [e3]
      exact hst
    rw [tf_ring]
    by_cases hjd : j + 1 = rlen A (rn_c A s)
    · rw [if_pos hjd] at hnx
      rw [if_pos (by rw [hN, hnx])]
      have e4 : rgj A s (j + 1) = rgl A s := by
        unfold rgj rgl
        rw [hjd]
      rw [e4] at hcells
      exact hcells
    · rw [if_neg hjd] at hnx
      have hne : ¬ T.2.2.1.1 (lbv A f (rv A s j)) = lbv A f s := by
        rw [hN, hnx]
        intro e5
        exact rv_ne hs (by omega) (by omega) (lbv_inj hi (rv_lt hs (by omega)) hs e5)
      rw [if_neg hne, hN, hnx]
      exact ih (j + 1) _ (by omega) (by omega) e1 (by omega) hcells
theorem tJ_comp {vs cells : List Nat} {P : tf_P} {s : Nat} (hi : isoN A sg f T) (hs : s < A.flatten.length) (h : tJ A f vs cells P) : tJ A f (vs ++ rgl A s) (cells ++ ((rgl A s).map (tkn A sg (vs ++ rgl A s)) ++ [0])) (tf_sep (tf_ring T.2.2.2 T.2.2.1.1 (lbv A f s) 24 (lbv A f s) P)) := by
  have h0 := rlen_pos hs
  have h1 := rlen_le hs
  have h2 := hi.2.1
  have h3 := hi.2.2.1
  have := tJ_ring (vs := vs) (cells := cells) hi hs (rlen A (rn_c A s)) 0 P (by omega) h0 24 (by omega) (by
    rw [show rgj A s 0 = [] from rfl, List.append_nil, List.map_nil, List.append_nil]
    exact h)
  rw [rv_0 hs] at this
  rw [← List.append_assoc]
  exact tJ_sep this
theorem tks_grow {S : List Nat} {s : Nat} : tks A sg (vsO A (S ++ [s])) (S ++ [s]) = tks A sg (vsO A S) S ++ ((rgl A s).map (tkn A sg (vsO A S ++ rgl A s)) ++ [0]) := by
  rw [tks_app, vsO_app, tks_st]
  exact fun t ht v hv => vsO_mem ht hv
theorem tJ_S {S : List Nat} {P : tf_P} {s : Nat} (hi : isoN A sg f T) (hs : s < A.flatten.length) (h : tJ A f (vsO A S) (tks A sg (vsO A S) S) P) : tJ A f (vsO A (S ++ [s])) (tks A sg (vsO A (S ++ [s])) (S ++ [s])) (tf_sep (tf_ring T.2.2.2 T.2.2.1.1 (lbv A f s) 24 (lbv A f s) P)) := by
  rw [tks_grow, vsO_app]
  exact tJ_comp hi hs h
/-- looking on from the names met -/
theorem tJ_look {S : List Nat} {cells : List Nat} {P : tf_P} (hi : isoN A sg f T) (hS : tS A S) (h : tJ A f (vsO A S) cells P) : ∀ d k, k + d = (fm A (vsO A S)).length → (∀ j w, j < k → (fm A (vsO A S))[j]? = some w → gn A S (rn_c A (mtf A w)) = true) → ((fm A (vsO A S)).drop k).find? (fun v => !gn A S (rn_c A (mtf A v))) = none ∧ (tf_look P d k).1 = none ∨ ∃ j v, (fm A (vsO A S))[j]? = some v ∧ ((fm A (vsO A S)).drop k).find? (fun v => !gn A S (rn_c A (mtf A v))) = some v ∧ tf_look P d k = (some (lbv A f (mtf A v)), j + 1) ∧ ∀ i w, i < j → (fm A (vsO A S))[i]? = some w → gn A S (rn_c A (mtf A w)) = true := by
  intro d
  induction d with
  | zero =>
    intro k hk hc
    refine Or.inl ⟨?_, rfl⟩
    rw [List.drop_of_length_le (by omega)]
    rfl
  | succ d ih =>
    intro k hk hc
    have hkl : k < (fm A (vsO A S)).length := by omega
    have e0 : (fm A (vsO A S))[k]? = some (fm A (vsO A S))[k] := List.getElem?_eq_getElem hkl
    have ed := List.drop_eq_getElem_cons hkl
    generalize hvv : (fm A (vsO A S))[k] = v at e0 ed
    have hvm : v ∈ vsO A S := fm_mem _ (List.mem_of_getElem? e0)
    have hv := h.2.2.2.2.2 v hvm
    have hnam := (h.2.1 k v e0).1
    have hg := (h.2.2.2.1 v hv).mpr hvm
    obtain ⟨m1, m2, m3, m4⟩ := lbv_mt hi hv
    have hgm := h.2.2.2.1 (mtf A v) m1
    have hgv := gn_vs hS m1
    have hl := lbv_hf hi hv
    have hu := uns_lt hi.1 hv
    have hlab : lbv A f v = 2 * P.nam k + uns A v := by rw [hnam]; rfl
    have hm0 : mt (2 * P.nam k) = 2 * P.nam k + 1 := by
      unfold mt
      rw [if_pos (by omega)]
    have hm1 : mt (2 * P.nam k + 1) = 2 * P.nam k := by
      unfold mt
      rw [if_neg (by omega)]
      rfl
    have hu2 : (lbv A f v = 2 * P.nam k ∧ lbv A f (mtf A v) = 2 * P.nam k + 1) ∨ (lbv A f v = 2 * P.nam k + 1 ∧ lbv A f (mtf A v) = 2 * P.nam k) := by
      rcases Nat.lt_or_ge (uns A v) 1 with h9 | h9
      · have e9 : uns A v = 0 := by omega
        rw [m3, hlab, e9, Nat.add_zero]
        exact Or.inl ⟨rfl, hm0⟩
      · have e9 : uns A v = 1 := by omega
        rw [m3, hlab, e9]
        exact Or.inr ⟨rfl, hm1⟩
    rw [ed, List.find?_cons, tf_look]
    unfold o_gn at hg hgm
    by_cases hp : gn A S (rn_c A (mtf A v)) = true
    · -- both visits gone
      have hgm2 := hgm.mpr (hgv.mp hp)
      have b1 : ¬ P.gone / 2 ^ (2 * P.nam k) % 2 = 0 ∧ ¬ P.gone / 2 ^ (2 * P.nam k + 1) % 2 = 0 := by
        rcases hu2 with ⟨q1, q2⟩ | ⟨q1, q2⟩
        · rw [q1] at hg
          rw [q2] at hgm2
          exact ⟨by omega, by omega⟩
        · rw [q1] at hg
          rw [q2] at hgm2
          exact ⟨by omega, by omega⟩
      rw [if_neg b1.1, if_neg b1.2, show (!gn A S (rn_c A (mtf A v))) = false from by rw [hp]; rfl]
      refine ih (k + 1) (by omega) (fun j w hj e => ?_)
      by_cases e9 : j = k
      · rw [e9, e0] at e
        cases e
        exact hp
      · exact hc j w (by omega) e
    · have hp2 : gn A S (rn_c A (mtf A v)) = false := by
        cases h9 : gn A S (rn_c A (mtf A v))
        · rfl
        · exact absurd h9 hp
      have hgm2 : P.gone / 2 ^ lbv A f (mtf A v) % 2 = 0 := by
        have : ¬ P.gone / 2 ^ lbv A f (mtf A v) % 2 = 1 := fun h9 => hp (hgv.mpr (hgm.mp h9))
        omega
      rw [show (!gn A S (rn_c A (mtf A v))) = true from by rw [hp2]; rfl]
      refine Or.inr ⟨k, v, e0, rfl, ?_, hc⟩
      rcases hu2 with ⟨q1, q2⟩ | ⟨q1, q2⟩
      · rw [q1] at hg
        rw [q2] at hgm2 ⊢
        rw [if_neg (by omega), if_pos hgm2]
      · rw [q2] at hgm2 ⊢
        rw [if_pos hgm2]
theorem tJ_out (hi : isoN A sg f T) : ∀ (d fu : Nat) (S : List Nat) (k : Nat) (P : tf_P), tS A S → tJ A f (vsO A S) (tks A sg (vsO A S) S) P → rem (gn A S) (fun _ => 1) A.length ≤ d → rem (gn A S) (fun _ => 1) A.length ≤ fu → k ≤ (fm A (vsO A S)).length → (∀ j w, j < k → (fm A (vsO A S))[j]? = some w → gn A S (rn_c A (mtf A w)) = true) → tJ A f (vsO A (trF A fu S)) (tks A sg (vsO A (trF A fu S)) (trF A fu S)) (tf_out T.2.2.2 T.2.2.1.1 d (tf_look P (P.names - k) k).1 (tf_look P (P.names - k) k).2 P) := by
  have hd := wkF_ok hi.1
  intro d
  induction d with
  | zero =>
    intro fu S k P hS hJ hr1 hr2 hk hc
    have hx : nxS A S = none := by
      cases hx : nxS A S with
      | none => rfl
      | some w =>
        obtain ⟨h1, h2, -⟩ := nxS_step hd hS hx
        have hw : w < A.flatten.length := h1.2 w (by simp)
        have h3 := rem_zero (g := gn A S) A.length (by omega) (rn_c A w) (rn_c_in A w hw).1
        rw [h2] at h3
        cases h3
    rw [trF_none hx]
    exact hJ
  | succ d ih =>
    intro fu S k P hS hJ hr1 hr2 hk hc
    have hfind : ((fm A (vsO A S)).drop k).find? (fun v => !gn A S (rn_c A (mtf A v))) = (fm A (vsO A S)).find? (fun v => !gn A S (rn_c A (mtf A v))) := by
      have : ((fm A (vsO A S)).take k ++ (fm A (vsO A S)).drop k).find? (fun v => !gn A S (rn_c A (mtf A v))) = ((fm A (vsO A S)).drop k).find? (fun v => !gn A S (rn_c A (mtf A v))) := by
        rw [List.find?_append]
        have h9 : ((fm A (vsO A S)).take k).find? (fun v => !gn A S (rn_c A (mtf A v))) = none := by
          rw [List.find?_eq_none]
          intro w hw h8
          obtain ⟨j, hj⟩ := List.getElem?_of_mem hw
          rw [List.getElem?_take] at hj
          by_cases h7 : j < k
          · rw [if_pos h7] at hj
            have := hc j w h7 hj
            rw [this] at h8
            cases h8
          · rw [if_neg h7] at hj
            cases hj
        rw [h9]
        rfl
      rw [List.take_append_drop] at this
      exact this.symm
    have hl := tJ_look hi hS hJ ((fm A (vsO A S)).length - k) k (by omega) hc
    rw [hJ.1]
    rcases hl with ⟨l1, l2⟩ | ⟨j, v, l1, l2, l3, l4⟩
    · rw [hfind] at l1
      have hx : nxS A S = none := by
        unfold nxS
        rw [l1]
        rfl
      rw [trF_none hx, l2]
      exact hJ
    · rw [hfind] at l2
      have hx : nxS A S = some (mtf A v) := by
        unfold nxS
        rw [l2]
        rfl
      obtain ⟨h1, h2, -⟩ := nxS_step hd hS hx
      have hw : mtf A v < A.flatten.length := h1.2 _ (by simp)
      have hrs := rem_st (f := fun _ => 1) h2 (fun b => gn_app (A := A) (S := S) (w := mtf A v) (b := b)) A.length (rn_c_in A _ hw).1
      obtain ⟨fu1, rfl⟩ : ∃ fu1, fu = fu1 + 1 := ⟨fu - 1, by omega⟩
      rw [trF_some hx, l3]
      have hJ2 := tJ_S hi hw hJ
      have hpre := fm_pre (A := A) (vsO A S) (rgl A (mtf A v))
      rw [← vsO_app] at hpre
      obtain ⟨us, hus⟩ := hpre
      have hjl := (List.getElem?_eq_some_iff.mp l1).1
      refine ih fu1 (S ++ [mtf A v]) (j + 1) _ h1 hJ2 (by omega) (by omega) ?_ (fun i w hij e => ?_)
      · rw [hus, List.length_append]
        omega
      · rw [hus, List.getElem?_append_left (by omega)] at e
        rw [gn_app]
        by_cases e9 : i = j
        · rw [e9, l1] at e
          cases e
          rw [decide_eq_true rfl, Bool.or_true]
        · rw [l4 i w (by omega) e]
          rfl
theorem iso_code {s : Nat} (hi : isoN A sg f T) (hA : A.length ≤ 23) (hs : s < A.flatten.length) : tfL (tf_code T.2.2.2 T.2.2.1.1 (lbv A f s)) = cdv A sg s := by
  have h0 : tJ A f (vsO A []) (tks A sg (vsO A []) []) tf_0 := by
    refine ⟨rfl, fun k w e => ?_, fun v hv _ => rfl, fun v hv => ?_, rfl, fun v hv => by cases hv⟩
    · rw [show fm A (vsO A []) = [] from rfl, List.getElem?_nil] at e
      cases e
    · refine ⟨fun h9 => ?_, fun h9 => by cases h9⟩
      have h8 : 0 / 2 ^ lbv A f v % 2 = 1 := h9
      rw [Nat.zero_div] at h8
      omega
  have h1 := tJ_S hi hs h0
  have hts : tS A [s] := ⟨List.nodup_cons.mpr ⟨fun h => (by cases h), List.nodup_nil⟩, fun t ht => by rw [List.mem_singleton.mp ht]; exact hs⟩
  have hrs := rem_st (g := gn A []) (f := fun _ => 1) (c := rn_c A s) rfl (fun b => gn_app (A := A) (S := []) (w := s) (b := b)) A.length (rn_c_in A _ hs).1
  have hr1 := rem_1 A.length
  have hr0 : rem (gn A []) (fun _ => 1) A.length = A.length := (rem_congr A.length (fun c _ => rfl)).trans hr1
  have h2 := tJ_out hi 23 A.length ([] ++ [s]) 0 _ hts h1 (by omega) (by omega) (Nat.zero_le _) (fun j w hj _ => absurd hj (Nat.not_lt_zero _))
  have h3 := h2.2.2.2.2.1
  exact h3
end CI
end
