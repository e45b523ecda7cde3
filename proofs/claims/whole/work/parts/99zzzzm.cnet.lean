/-! the class: rules for its rows, and what changes a net -/
section CW
variable {O : Type} {X : ow_Tb} {z : ow_MS} {h i len : Nat} {j x : Int32} {y : Int64} {Q : O → Prop}
theorem w_crI {E : Int32 → Nat → Nat → Option O} (hL : (X.2 h).2.1 = len) (hj : j = nI i) (hi : i < len) (he : z.2.1 h i = x) (H : Tt (E x) Q) (hb : len < 2 ^ 31 := by omega) : Tt (fun K k => crI X z h j (fun v => E v K k)) Q := w_rdI (E := E) hL hj hi he H hb
theorem w_ctI {E : ow_MS → Nat → Nat → Option O} (hL : (X.2 h).2.1 = len) (hj : j = nI i) (hi : i < len) (H : Tt (E (usI z h i x)) Q) (hb : len < 2 ^ 31 := by omega) : Tt (fun K k => ctI X z h j x (fun v => E v K k)) Q := w_wrI (E := E) hL hj hi H hb
theorem w_ctB {E : ow_MS → Nat → Nat → Option O} (hL : (X.2 h).2.1 = len) (hj : j = nI i) (hi : i < len) (H : Tt (E (usI z h i (vp_nar .byte x))) Q) (hb : len < 2 ^ 31 := by omega) : Tt (fun K k => ctB X z h j x (fun v => E v K k)) Q := w_wrI (E := E) hL hj hi H hb
theorem w_ctZ {E : ow_MS → Nat → Nat → Option O} (hL : (X.2 h).2.1 = len) (hj : j = nI i) (hi : i < len) (H : Tt (E (usI z h i (vp_nar .boolean x))) Q) (hb : len < 2 ^ 31 := by omega) : Tt (fun K k => ctZ X z h j x (fun v => E v K k)) Q := w_wrI (E := E) hL hj hi H hb
theorem w_crJ {E : Int64 → Nat → Nat → Option O} (hL : (X.2 h).2.1 = len) (hj : j = nI i) (hi : i < len) (he : z.2.2 h i = y) (H : Tt (E y) Q) (hb : len < 2 ^ 31 := by omega) : Tt (fun K k => crJ X z h j (fun v => E v K k)) Q := w_rdJ (E := E) hL hj hi he H hb
theorem w_ctJ {E : ow_MS → Nat → Nat → Option O} (hL : (X.2 h).2.1 = len) (hj : j = nI i) (hi : i < len) (H : Tt (E (usJ z h i y)) Q) (hb : len < 2 ^ 31 := by omega) : Tt (fun K k => ctJ X z h j y (fun v => E v K k)) Q := w_wrJ (E := E) hL hj hi H hb
theorem w_cpI {g a b n la lb : Nat} {sp dp m : Int32} {E : ow_MS → Nat → Nat → Option O} (hL : (X.2 h).2.1 = la) (hG : (X.2 g).2.1 = lb) (h1 : sp = nI a) (h2 : dp = nI b) (h3 : m = nI n) (ha : a + n ≤ la) (hb : b + n ≤ lb) (H : Tt (E (usR z g (va_cpy (z.2.1 h) (z.2.1 g) a b n))) Q) (hla : la < 2 ^ 31 := by omega) (hlb : lb < 2 ^ 31 := by omega) : Tt (fun K k => cpI X z h sp g dp m (fun v => E v K k)) Q := by
  have e : (fun K k => cpI X z h sp g dp m (fun v => E v K k)) = E (usR z g (va_cpy (z.2.1 h) (z.2.1 g) a b n)) := by
    funext K k
    unfold cpI uw_len
    rw [h1, h2, h3, nI_clamp (by omega), nI_clamp (by omega), nI_clamp (by omega), if_neg]
    rintro (h9 | h9 | h9 | h9 | h9)
    · exact nI_pos (by omega) h9
    · exact nI_pos (by omega) h9
    · exact nI_pos (by omega) h9
    · omega
    · omega
  rw [e]
  exact H
end CW
/-- the class's nets -/
def nHL : List Nat := [4000, 5000, 16000, 17000, 26000, 27000, 28000, 29000, 30000, 31000, 32000, 33000, 34000, 35000, 36000, 37000, 38000, 40000, 44000]
def nH (h : Nat) : Prop := h ∈ nHL
theorem nH_all {P : Nat → Prop} (h1 : P 4000 ∧ P 5000 ∧ P 16000 ∧ P 17000 ∧ P 26000 ∧ P 27000 ∧ P 28000 ∧ P 29000 ∧ P 30000 ∧ P 31000 ∧ P 32000 ∧ P 33000 ∧ P 34000 ∧ P 35000 ∧ P 36000 ∧ P 37000 ∧ P 38000 ∧ P 40000 ∧ P 44000) {h : Nat} (hh : nH h) : P h := by
  unfold nH nHL at hh
  simp only [List.mem_cons, List.not_mem_nil, or_false] at hh
  obtain ⟨a1, a2, a3, a4, a5, a6, a7, a8, a9, a10, a11, a12, a13, a14, a15, a16, a17, a18, a19⟩ := h1
  rcases hh with rfl | rfl | rfl | rfl | rfl | rfl | rfl | rfl | rfl | rfl | rfl | rfl | rfl | rfl | rfl | rfl | rfl | rfl | rfl <;> assumption
theorem nH_1 {vl : Nat → Nat} {h : Nat} (hh : nH h) : ((cX vl).2 (h + 1)).2.1 = 24 := nH_all (P := fun h => ((cX vl).2 (h + 1)).2.1 = 24) ⟨rfl, rfl, rfl, rfl, rfl, rfl, rfl, rfl, rfl, rfl, rfl, rfl, rfl, rfl, rfl, rfl, rfl, rfl, rfl⟩ hh
theorem nH_2 {vl : Nat → Nat} {h : Nat} (hh : nH h) : ((cX vl).2 (h + 2)).2.1 = 24 := nH_all (P := fun h => ((cX vl).2 (h + 2)).2.1 = 24) ⟨rfl, rfl, rfl, rfl, rfl, rfl, rfl, rfl, rfl, rfl, rfl, rfl, rfl, rfl, rfl, rfl, rfl, rfl, rfl⟩ hh
theorem nH_3 {vl : Nat → Nat} {h : Nat} (hh : nH h) : ((cX vl).2 (h + 3)).2.1 = 12 := nH_all (P := fun h => ((cX vl).2 (h + 3)).2.1 = 12) ⟨rfl, rfl, rfl, rfl, rfl, rfl, rfl, rfl, rfl, rfl, rfl, rfl, rfl, rfl, rfl, rfl, rfl, rfl, rfl⟩ hh
theorem nH_4 {vl : Nat → Nat} {h : Nat} (hh : nH h) : ((cX vl).2 (h + 4)).2.1 = 24 := nH_all (P := fun h => ((cX vl).2 (h + 4)).2.1 = 24) ⟨rfl, rfl, rfl, rfl, rfl, rfl, rfl, rfl, rfl, rfl, rfl, rfl, rfl, rfl, rfl, rfl, rfl, rfl, rfl⟩ hh
theorem nH_5 {vl : Nat → Nat} {h : Nat} (hh : nH h) : ((cX vl).2 (h + 5)).2.1 = 24 := nH_all (P := fun h => ((cX vl).2 (h + 5)).2.1 = 24) ⟨rfl, rfl, rfl, rfl, rfl, rfl, rfl, rfl, rfl, rfl, rfl, rfl, rfl, rfl, rfl, rfl, rfl, rfl, rfl⟩ hh
theorem nH_6 {vl : Nat → Nat} {h : Nat} (hh : nH h) : ((cX vl).2 (h + 6)).2.1 = 24 := nH_all (P := fun h => ((cX vl).2 (h + 6)).2.1 = 24) ⟨rfl, rfl, rfl, rfl, rfl, rfl, rfl, rfl, rfl, rfl, rfl, rfl, rfl, rfl, rfl, rfl, rfl, rfl, rfl⟩ hh
theorem nH_7 {vl : Nat → Nat} {h : Nat} (hh : nH h) : ((cX vl).2 (h + 7)).2.1 = 24 := nH_all (P := fun h => ((cX vl).2 (h + 7)).2.1 = 24) ⟨rfl, rfl, rfl, rfl, rfl, rfl, rfl, rfl, rfl, rfl, rfl, rfl, rfl, rfl, rfl, rfl, rfl, rfl, rfl⟩ hh
/-- a net of the class: crossings, circles, next and prev, signs -/
def cAt (y : ow_MS) (h : Nat) (T : ow_NT) : Prop := y.1 (h + 8) = nI T.1 ∧ y.1 (h + 9) = nI T.2.1 ∧ (∀ v, y.2.1 (h + 1) v = nI (T.2.2.1.1 v)) ∧ (∀ v, y.2.1 (h + 2) v = nI (T.2.2.1.2 v)) ∧ ∀ v, y.2.1 (h + 3) v = T.2.2.2 v
def cP (h g : Nat) : Prop := h + 1 ≤ g ∧ g ≤ h + 3 ∨ g = h + 8 ∨ g = h + 9
theorem cAt_fr {P : Nat → Prop} {y y1 : ow_MS} {h : Nat} {T : ow_NT} (hf : fr P y y1) (hP : ∀ g, cP h g → ¬ P g) (hy : cAt y h T) : cAt y1 h T := by
  obtain ⟨a, b, c, d, e⟩ := hy
  refine ⟨?_, ?_, fun v => ?_, fun v => ?_, fun v => ?_⟩
  · rw [(hf _ (hP _ (by unfold cP; omega))).1]
    exact a
  · rw [(hf _ (hP _ (by unfold cP; omega))).1]
    exact b
  · rw [(hf _ (hP _ (by unfold cP; omega))).2.1]
    exact c v
  · rw [(hf _ (hP _ (by unfold cP; omega))).2.1]
    exact d v
  · rw [(hf _ (hP _ (by unfold cP; omega))).2.1]
    exact e v
def ntS (T : ow_NT) (S : ow_NP) : ow_NT := (T.1, T.2.1, S, T.2.2.2)
section CN
variable {vl : Nat → Nat} {y : ow_MS} {h v w : Nat} {T : ow_NT}
theorem e_X7_link {vl : Nat → Nat} {r0 : Nat} {x1 : Int32} {x2 : Int32} {z : ow_MS} {Q : ow_MS → Prop} (H : Tt (fun K _ => cm_X7_link_0 vl K x1 x2 r0 z) Q) : Te (fun K => ce_X7_link vl K r0 x1 x2 z) Q := w_te0 H
theorem tc_link (hh : nH h) (hy : cAt y h T) (hv : v < 24) (hw : w < 24) : Te (fun K => ce_X7_link vl K h (nI v) (nI w) y) (fun y1 => cAt y1 h (ntS T (nl T.2.2.1 v w)) ∧ fr (cP h) y y1) := by
  obtain ⟨a, b, c, d, e⟩ := hy
  refine e_X7_link ?_; unfold cm_X7_link_0
  refine w_ctI (nH_1 hh) rfl hv (w_ctI (nH_2 hh) rfl hw (w_some ⟨⟨a, b, fun k => ?_, fun k => ?_, fun k => rd_ot (by omega) (rd_ot (by omega) (e k))⟩, fr_I2 (fr_I2 fr_rf (Or.inl (by omega))) (Or.inl (by omega))⟩))
  · refine rd_ot (by omega) ?_
    show _ = nI (if k = v then w else T.2.2.1.1 k)
    by_cases e1 : k = v
    · rw [if_pos e1, e1]
      exact po_usI_at
    · rw [if_neg e1]
      exact rd_ne e1 (c k)
  · show _ = nI (if k = w then v else T.2.2.1.2 k)
    by_cases e1 : k = w
    · rw [if_pos e1, e1]
      exact po_usI_at
    · rw [if_neg e1]
      exact rd_ne e1 (rd_ot (by omega) (d k))
theorem e_X7_exchange {vl : Nat → Nat} {r0 : Nat} {x1 : Int32} {x2 : Int32} {z : ow_MS} {Q : ow_MS → Prop} (H : Tt (fun K _ => cm_X7_exchange_0 vl K x1 x2 r0 z) Q) : Te (fun K => ce_X7_exchange vl K r0 x1 x2 z) Q := w_te0 H
theorem tc_exchange (hh : nH h) (hy : cAt y h T) (hb : ow_b24 T.2.2.1) (hv : v < 24) (hw : w < 24) : Te (fun K => ce_X7_exchange vl K h (nI v) (nI w) y) (fun y1 => cAt y1 h (ntS T (np_exchange T.2.2.1 v w)) ∧ fr (cP h) y y1) := by
  refine e_X7_exchange ?_; unfold cm_X7_exchange_0
  refine w_crI (nH_1 hh) rfl hv (hy.2.2.1 v) (w_crI (nH_1 hh) rfl hw (hy.2.2.1 w) (w_cs0 (tc_link hh hy hv (hb.1 w)) ?_))
  rintro y1 ⟨h1, f1⟩
  refine w_cs0 (tc_link hh h1 hw (hb.1 v)) ?_
  rintro y2 ⟨h2, f2⟩
  exact w_some ⟨h2, fr_tr f1 f2⟩
theorem e_X7_putBehind {vl : Nat → Nat} {r0 : Nat} {x1 : Int32} {x2 : Int32} {z : ow_MS} {Q : ow_MS → Prop} (H : Tt (fun K _ => cm_X7_putBehind_0 vl K x1 x2 r0 z) Q) : Te (fun K => ce_X7_putBehind vl K r0 x1 x2 z) Q := w_te0 H
theorem tc_putBehind (hh : nH h) (hy : cAt y h T) (hb : ow_b24 T.2.2.1) (hv : v < 24) (hw : w < 24) : Te (fun K => ce_X7_putBehind vl K h (nI v) (nI w) y) (fun y1 => cAt y1 h (ntS T (np_putBehind T.2.2.1 v w)) ∧ fr (cP h) y y1) := by
  refine e_X7_putBehind ?_; unfold cm_X7_putBehind_0
  refine w_crI (nH_1 hh) rfl hv (hy.2.2.1 v) (w_cs0 (tc_link hh hy hv hw) ?_)
  rintro y1 ⟨h1, f1⟩
  refine w_cs0 (tc_link hh h1 hw (hb.1 v)) ?_
  rintro y2 ⟨h2, f2⟩
  exact w_some ⟨h2, fr_tr f1 f2⟩
theorem cAt_o {o : Nat} (hy : cAt y h T) : cAt (usF y (h + 9) (nI o)) h (T.1, o, T.2.2) := by
  obtain ⟨a, b, c, d, e⟩ := hy
  exact ⟨rf_ot (by omega) a, po_usF_at, c, d, e⟩
theorem cAt_c {o : Nat} (hy : cAt y h T) : cAt (usF y (h + 8) (nI o)) h (o, T.2) := by
  obtain ⟨a, b, c, d, e⟩ := hy
  exact ⟨po_usF_at, rf_ot (by omega) b, c, d, e⟩
theorem e_X7_openCircle {vl : Nat → Nat} {r0 : Nat} {x1 : Int32} {z : ow_MS} {Q : ow_MS → Prop} (H : Tt (fun K _ => cm_X7_openCircle_0 vl K x1 r0 z) Q) : Te (fun K => ce_X7_openCircle vl K r0 x1 z) Q := w_te0 H
theorem tc_openCircle (hh : nH h) (hy : cAt y h T) (hv : v < 24) (ho : 1 ≤ T.2.1) : Te (fun K => ce_X7_openCircle vl K h (nI v) y) (fun y1 => cAt y1 h (T.1, T.2.1 - 1, nl T.2.2.1 v v, T.2.2.2) ∧ fr (cP h) y y1) := by
  refine e_X7_openCircle ?_; unfold cm_X7_openCircle_0
  refine w_rdF hy.2.1 ?_
  rw [show nI T.2.1 - 1 = nI (T.2.1 - 1) from pk_sub (b := 1) ho]
  refine w_wrF (w_cs0 (tc_link hh (cAt_o hy) hv hv) ?_)
  rintro y1 ⟨h1, f1⟩
  exact w_some ⟨h1, fr_tr (fr_F2 fr_rf (Or.inr (Or.inr rfl))) f1⟩
theorem e_X7_cut {vl : Nat → Nat} {r0 : Nat} {x1 : Int32} {z : ow_MS} {Q : ow_MS → Prop} (H : Tt (fun K _ => cm_X7_cut_0 vl K x1 r0 z) Q) : Te (fun K => ce_X7_cut vl K r0 x1 z) Q := w_te0 H
theorem tc_cut (hh : nH h) (hy : cAt y h T) (hb : ow_b24 T.2.2.1) (hv : v < 24) : Te (fun K => ce_X7_cut vl K h (nI v) y) (fun y1 => cAt y1 h (T.1, np_cutN T.2.2.1 v T.2.1, np_cut T.2.2.1 v, T.2.2.2) ∧ fr (cP h) y y1) := by
  have b1 := hb.1 v
  have b2 := hb.2 v
  refine e_X7_cut ?_; unfold cm_X7_cut_0
  refine w_crI (nH_1 hh) rfl hv (hy.2.2.1 v) (w_eqN (by omega) (by omega) (fun e => ?_) (fun e => ?_))
  · refine w_rdF hy.2.1 ?_
    rw [nI_1]
    refine w_wrF (w_some ⟨?_, fr_F2 fr_rf (Or.inr (Or.inr rfl))⟩)
    unfold np_cutN np_cut
    rw [if_pos e, if_pos e]
    exact cAt_o hy
  · refine w_crI (nH_2 hh) rfl hv (hy.2.2.2.1 v) (w_crI (nH_1 hh) rfl hv (hy.2.2.1 v) (w_cs0 (tc_link hh hy b2 b1) ?_))
    rintro y1 ⟨h1, f1⟩
    refine w_some ⟨?_, f1⟩
    unfold np_cutN np_cut
    rw [if_neg e, if_neg e]
    exact h1
theorem e_X7_rename {vl : Nat → Nat} {r0 : Nat} {x1 : Int32} {x2 : Int32} {z : ow_MS} {Q : ow_MS → Prop} (H : Tt (fun K _ => cm_X7_rename_0 vl K x1 x2 r0 z) Q) : Te (fun K => ce_X7_rename vl K r0 x1 x2 z) Q := w_te0 H
theorem tc_rename (hh : nH h) (hy : cAt y h T) (hb : ow_b24 T.2.2.1) (hv : v < 24) (hw : w < 24) : Te (fun K => ce_X7_rename vl K h (nI v) (nI w) y) (fun y1 => cAt y1 h (ntS T (np_rename T.2.2.1 v w)) ∧ fr (cP h) y y1) := by
  have b1 := hb.1 v
  have b2 := hb.2 v
  refine e_X7_rename ?_; unfold cm_X7_rename_0
  refine w_crI (nH_1 hh) rfl hv (hy.2.2.1 v) (w_eqN (by omega) (by omega) (fun e => ?_) (fun e => ?_))
  · refine w_cs0 (tc_link hh hy hw hw) ?_
    rintro y1 ⟨h1, f1⟩
    refine w_some ⟨?_, f1⟩
    unfold np_rename
    rw [if_pos e]
    exact h1
  · refine w_crI (nH_2 hh) rfl hv (hy.2.2.2.1 v) (w_cs0 (tc_link hh hy b2 hw) ?_)
    rintro y1 ⟨h1, f1⟩
    have b3 : (nl T.2.2.1 (T.2.2.1.2 v) w).1 v < 24 := by
      show (if v = T.2.2.1.2 v then w else T.2.2.1.1 v) < 24
      split
      · exact hw
      · exact b1
    refine w_crI (nH_1 hh) rfl hv (h1.2.2.1 v) (w_cs0 (tc_link hh h1 hw b3) ?_)
    rintro y2 ⟨h2, f2⟩
    refine w_some ⟨?_, fr_tr f1 f2⟩
    unfold np_rename
    rw [if_neg e]
    exact h2
theorem b24_nl {S : ow_NP} (hb : ow_b24 S) (hv : v < 24) (hw : w < 24) : ow_b24 (nl S v w) := by
  refine ⟨fun k => ?_, fun k => ?_⟩
  · show (if k = v then w else S.1 k) < 24
    split
    · exact hw
    · exact hb.1 k
  · show (if k = w then v else S.2 k) < 24
    split
    · exact hv
    · exact hb.2 k
theorem b24_cut {S : ow_NP} (hb : ow_b24 S) : ow_b24 (np_cut S v) := by
  unfold np_cut
  split
  · exact hb
  · exact b24_nl hb (hb.2 v) (hb.1 v)
theorem b24_rename {S : ow_NP} (hb : ow_b24 S) (hw : w < 24) : ow_b24 (np_rename S v w) := by
  unfold np_rename
  split
  · exact b24_nl hb hw hw
  · have := b24_nl hb (hb.2 v) hw
    exact b24_nl this hw (this.1 v)
theorem e_X7_removeCrossing {vl : Nat → Nat} {r0 : Nat} {x1 : Int32} {z : ow_MS} {Q : ow_MS → Prop} (H : Tt (fun K _ => cm_X7_removeCrossing_0 vl K x1 r0 z) Q) : Te (fun K => ce_X7_removeCrossing vl K r0 x1 z) Q := w_te0 H
theorem tc_removeCrossing {x : Nat} (hh : nH h) (hy : cAt y h T) (hb : ow_b24 T.2.2.1) (hx : x < T.1) (hT : T.1 ≤ 12) : Te (fun K => ce_X7_removeCrossing vl K h (nI x) y) (fun y1 => cAt y1 h (nt_rm T x) ∧ fr (cP h) y y1) := by
  refine e_X7_removeCrossing ?_; unfold cm_X7_removeCrossing_0
  rw [show (2 : Int32) * nI x = nI (2 * x) from pk_mul 2 x, nI_1]
  refine w_cs0 (tc_cut hh hy hb (show 2 * x < 24 by omega)) ?_
  rintro y1 ⟨h1, f1⟩
  refine w_cs0 (tc_cut hh h1 (b24_cut hb) (show 2 * x + 1 < 24 by omega)) ?_
  rintro y2 ⟨h2, f2⟩
  refine w_rdF h2.1 ?_
  rw [show nI T.1 - 1 = nI (T.1 - 1) from pk_sub (b := 1) (by omega)]
  refine w_wrF ?_
  have h3 := cAt_c (o := T.1 - 1) h2
  have f3 := fr_F2 (x := nI (T.1 - 1)) (fr_tr f1 f2) (Or.inr (Or.inl rfl))
  refine w_rdF h3.1 (w_eqN (by omega) (by omega) (fun e => ?_) (fun e => ?_))
  · refine w_some ⟨?_, f3⟩
    unfold nt_rm np_rmS np_rmG np_rmN
    rw [if_pos e, if_pos e]
    exact h3
  · refine w_rdF h3.1 ?_
    rw [show (2 : Int32) * nI (T.1 - 1) = nI (2 * (T.1 - 1)) from pk_mul 2 _]
    refine w_cs0 (tc_rename hh h3 (b24_cut (b24_cut hb)) (show 2 * (T.1 - 1) < 24 by omega) (show 2 * x < 24 by omega)) ?_
    rintro y4 ⟨h4, f4⟩
    refine w_rdF (x := nI (T.1 - 1)) h4.1 ?_
    rw [show (2 : Int32) * nI (T.1 - 1) = nI (2 * (T.1 - 1)) from pk_mul 2 _, nI_1]
    refine w_cs0 (tc_rename hh h4 (b24_rename (b24_cut (b24_cut hb)) (by omega)) (show 2 * (T.1 - 1) + 1 < 24 by omega) (show 2 * x + 1 < 24 by omega)) ?_
    rintro y5 ⟨h5, f5⟩
    refine w_rdF (x := nI (T.1 - 1)) h5.1 (w_crI (nH_3 hh) rfl (show T.1 - 1 < 12 by omega) (h5.2.2.2.2 _) (w_ctI (nH_3 hh) rfl (show x < 12 by omega) (w_some ⟨?_, fr_I2 (fr_tr (fr_tr f3 f4) f5) (Or.inl (by omega))⟩)))
    unfold nt_rm np_rmS np_rmG np_rmN
    rw [if_neg e, if_neg e]
    obtain ⟨a, b, c, d, e⟩ := h5
    refine ⟨a, b, fun k => rd_ot (by omega) (c k), fun k => rd_ot (by omega) (d k), fun k => ?_⟩
    show _ = if k = x then T.2.2.2 (T.1 - 1) else T.2.2.2 k
    by_cases e1 : k = x
    · rw [if_pos e1, e1]
      exact po_usI_at
    · rw [if_neg e1]
      exact rd_ne e1 (e k)
end CN
