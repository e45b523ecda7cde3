section
/-! 99zzzzt.load -/
/-! the class: a code read into a net -/
abbrev ow_LD := (ow_NP × (Nat → Int32) × (Nat → Int32) × (Nat → Int32)) × (Nat × Nat × Nat × Nat × Nat × Nat) × (Option Nat × Option Nat)
def ld_zero (S : ow_NP) (G Fo Fc : Nat → Int32) (ci co ba na lo cn : Nat) (fi la : Option Nat) : ow_LD := (((match fi with | none => S | some f => nl S (la.getD 0) f), G, Fo, Fc), ((match fi with | none => ci + 1 | some _ => ci), co + 1, (if lo = 0 then na else ba), na, lo, cn), (none, la))
def ld_visit (S : ow_NP) (G Fo Fc : Nat → Int32) (ci co ba na lo cn : Nat) (fi la : Option Nat) (x v : Nat) (g : Int32) : ow_LD := (((match fi with | none => S | some _ => nl S (la.getD 0) v), (if x < na then G else su G x g), su Fo cn (nI v), su Fc v (nI co)), (ci, co, ba, (if x < na then na else x + 1), (if x < na then lo - 1 else lo + 1), cn + 1), (some (fi.getD v), some v))
def ld_cell (t : ow_LD) (c : Nat) : Option ow_LD := match t with
  | ((S, G, Fo, Fc), (ci, co, ba, na, lo, cn), (fi, la)) =>
    if c = 0 then some (ld_zero S G Fo Fc ci co ba na lo cn fi la)
    else if 4 ≤ c ∧ ba + c / 4 - 1 < 12 ∧ cn < 24 ∧ (ba + c / 4 - 1 < na → 0 < lo) then some (ld_visit S G Fo Fc ci co ba na lo cn fi la (ba + c / 4 - 1) (2 * (ba + c / 4 - 1) + c / 2 % 2) (if c % 2 = 0 then 1 else -1))
    else none
theorem ld_cell_eq {S : ow_NP} {G Fo Fc : Nat → Int32} {ci co ba na lo cn c : Nat} {fi la : Option Nat} : ld_cell ((S, G, Fo, Fc), (ci, co, ba, na, lo, cn), (fi, la)) c = if c = 0 then some (ld_zero S G Fo Fc ci co ba na lo cn fi la) else if 4 ≤ c ∧ ba + c / 4 - 1 < 12 ∧ cn < 24 ∧ (ba + c / 4 - 1 < na → 0 < lo) then some (ld_visit S G Fo Fc ci co ba na lo cn fi la (ba + c / 4 - 1) (2 * (ba + c / 4 - 1) + c / 2 % 2) (if c % 2 = 0 then 1 else -1)) else none := rfl
theorem ld_zero_ci {S : ow_NP} {G Fo Fc : Nat → Int32} {ci co ba na lo cn : Nat} {fi la : Option Nat} : (ld_zero S G Fo Fc ci co ba na lo cn fi la).2.1.1 ≤ ci + 1 := by
  cases fi
  · exact Nat.le_refl _
  · exact Nat.le_succ _
def ldR : List Nat → ow_LD → Option ow_LD
  | [], t => some t
  | c :: L, t => (ld_cell t c).bind (ldR L)
def ld_init (S : ow_NP) (G Fo Fc : Nat → Int32) : ow_LD := ((S, G, Fo, Fc), (0, 0, 0, 0, 0, 0), (none, none))
def oI (o : Option Nat) : Int32 := match o with
  | none => -1
  | some a => nI a
theorem ld_c : ∀ c : Fin 64, nI c.val >>> ((2 : Int32) &&& 31) = nI (c.val / 4) ∧ ((nI c.val &&& 1) = 0 ↔ c.val % 2 = 0) ∧ ((nI c.val >>> ((1 : Int32) &&& 31)) &&& 1) = nI (c.val / 2 % 2) := by decide +kernel
/-- what a net's cells and the walk's numbers are while a code is read -/
def lds (y : ow_MS) (h c0 : Nat) (t : ow_LD) : Prop := cAt y h (c0, t.2.1.1, t.1.1, t.1.2.1) ∧ (∀ k, y.2.1 (h + 4) k = t.1.2.2.1 k) ∧ (∀ k, y.2.1 (h + 5) k = t.1.2.2.2 k) ∧ y.1 (h + 10) = nI t.2.1.2.1
def ldb (i : Nat) (t : ow_LD) : Prop := t.2.1.1 ≤ i ∧ t.2.1.2.1 ≤ i ∧ t.2.1.2.2.1 ≤ 12 ∧ t.2.1.2.2.2.1 ≤ 12 ∧ t.2.1.2.2.2.2.1 ≤ i ∧ t.2.1.2.2.2.2.2 ≤ 24 ∧ (∀ f, t.2.2.1 = some f → f < 24 ∧ ∃ l, t.2.2.2 = some l) ∧ ∀ l, t.2.2.2 = some l → l < 24
theorem nI_m {a : Nat} (h : 1 ≤ a) : nI a + -1 = nI (a - 1) := by
  rw [nI_iI, show (-1 : Int32) = iI (-1) from rfl, iI_add, nI_iI]
  congr 1
  omega
def cL (h q : Nat) : Prop := h + 1 ≤ q ∧ q ≤ h + 5 ∨ h + 8 ≤ q ∧ q ≤ h + 10
section CL
variable {vl : Nat → Nat} {y : ow_MS} {h g p s : Nat} {C : cdT} {T : ow_NT}
theorem u_X7_load_1 {vl : Nat → Nat} {x2 : Int32} {x3 : Int32} {x4 : Int32} {x5 : Int32} {x6 : Int32} {x7 : Int32} {x8 : Int32} {x9 : Int32} {x10 : Int32} {x11 : Int32} {x12 : Int32} {x13 : Int32} {r0 : Nat} {r1 : Nat} {t0 : Int32} {t1 : Int32} {z : ow_MS} {Q : ow_MS → Prop} (H : Tt (fun K k => cm_X7_load_1 vl K (c_X7_load vl K k) x2 x3 x4 x5 x6 x7 x8 x9 x10 x11 x12 x13 r0 r1 t0 t1 z) Q) : Tt (fun K k => c_X7_load vl K k 1 x2 x3 x4 x5 x6 x7 x8 x9 x10 x11 x12 x13 r0 r1 t0 t1 z) Q := w_un (fun _ _ => rfl) H
theorem u_X7_load_7 {vl : Nat → Nat} {x2 : Int32} {x3 : Int32} {x4 : Int32} {x5 : Int32} {x6 : Int32} {x7 : Int32} {x8 : Int32} {x9 : Int32} {x10 : Int32} {x11 : Int32} {x12 : Int32} {x13 : Int32} {r0 : Nat} {r1 : Nat} {t0 : Int32} {t1 : Int32} {z : ow_MS} {Q : ow_MS → Prop} (H : Tt (fun K k => cm_X7_load_7 vl K (c_X7_load vl K k) x2 x3 x4 x5 x6 x7 x8 x9 x10 x11 x12 x13 r0 r1 t0 t1 z) Q) : Tt (fun K k => c_X7_load vl K k 7 x2 x3 x4 x5 x6 x7 x8 x9 x10 x11 x12 x13 r0 r1 t0 t1 z) Q := w_un (fun _ _ => rfl) H
theorem u_X7_load_3 {vl : Nat → Nat} {x2 : Int32} {x3 : Int32} {x4 : Int32} {x5 : Int32} {x6 : Int32} {x7 : Int32} {x8 : Int32} {x9 : Int32} {x10 : Int32} {x11 : Int32} {x12 : Int32} {x13 : Int32} {r0 : Nat} {r1 : Nat} {t0 : Int32} {t1 : Int32} {z : ow_MS} {Q : ow_MS → Prop} (H : Tt (fun K k => cm_X7_load_3 vl K (c_X7_load vl K k) x2 x3 x4 x5 x6 x7 x8 x9 x10 x11 x12 x13 r0 r1 t0 t1 z) Q) : Tt (fun K k => c_X7_load vl K k 3 x2 x3 x4 x5 x6 x7 x8 x9 x10 x11 x12 x13 r0 r1 t0 t1 z) Q := w_un (fun _ _ => rfl) H
theorem u_X7_load_2 {vl : Nat → Nat} {x2 : Int32} {x3 : Int32} {x4 : Int32} {x5 : Int32} {x6 : Int32} {x7 : Int32} {x8 : Int32} {x9 : Int32} {x10 : Int32} {x11 : Int32} {x12 : Int32} {x13 : Int32} {r0 : Nat} {r1 : Nat} {t0 : Int32} {t1 : Int32} {z : ow_MS} {Q : ow_MS → Prop} (H : Tt (fun K k => cm_X7_load_2 vl K (c_X7_load vl K k) x2 x3 x4 x5 x6 x7 x8 x9 x10 x11 x12 x13 r0 r1 t0 t1 z) Q) : Tt (fun K k => c_X7_load vl K k 2 x2 x3 x4 x5 x6 x7 x8 x9 x10 x11 x12 x13 r0 r1 t0 t1 z) Q := w_un (fun _ _ => rfl) H
theorem u_X7_load_6 {vl : Nat → Nat} {x2 : Int32} {x3 : Int32} {x4 : Int32} {x5 : Int32} {x6 : Int32} {x7 : Int32} {x8 : Int32} {x9 : Int32} {x10 : Int32} {x11 : Int32} {x12 : Int32} {x13 : Int32} {r0 : Nat} {r1 : Nat} {t0 : Int32} {t1 : Int32} {z : ow_MS} {Q : ow_MS → Prop} (H : Tt (fun K k => cm_X7_load_6 vl K (c_X7_load vl K k) x2 x3 x4 x5 x6 x7 x8 x9 x10 x11 x12 x13 r0 r1 t0 t1 z) Q) : Tt (fun K k => c_X7_load vl K k 6 x2 x3 x4 x5 x6 x7 x8 x9 x10 x11 x12 x13 r0 r1 t0 t1 z) Q := w_un (fun _ _ => rfl) H
theorem u_X7_load_5 {vl : Nat → Nat} {x2 : Int32} {x3 : Int32} {x4 : Int32} {x5 : Int32} {x6 : Int32} {x7 : Int32} {x8 : Int32} {x9 : Int32} {x10 : Int32} {x11 : Int32} {x12 : Int32} {x13 : Int32} {r0 : Nat} {r1 : Nat} {t0 : Int32} {t1 : Int32} {z : ow_MS} {Q : ow_MS → Prop} (H : Tt (fun K k => cm_X7_load_5 vl K (c_X7_load vl K k) x2 x3 x4 x5 x6 x7 x8 x9 x10 x11 x12 x13 r0 r1 t0 t1 z) Q) : Tt (fun K k => c_X7_load vl K k 5 x2 x3 x4 x5 x6 x7 x8 x9 x10 x11 x12 x13 r0 r1 t0 t1 z) Q := w_un (fun _ _ => rfl) H
theorem u_X7_load_4 {vl : Nat → Nat} {x2 : Int32} {x3 : Int32} {x4 : Int32} {x5 : Int32} {x6 : Int32} {x7 : Int32} {x8 : Int32} {x9 : Int32} {x10 : Int32} {x11 : Int32} {x12 : Int32} {x13 : Int32} {r0 : Nat} {r1 : Nat} {t0 : Int32} {t1 : Int32} {z : ow_MS} {Q : ow_MS → Prop} (H : Tt (fun K k => cm_X7_load_4 vl K (c_X7_load vl K k) x2 x3 x4 x5 x6 x7 x8 x9 x10 x11 x12 x13 r0 r1 t0 t1 z) Q) : Tt (fun K k => c_X7_load vl K k 4 x2 x3 x4 x5 x6 x7 x8 x9 x10 x11 x12 x13 r0 r1 t0 t1 z) Q := w_un (fun _ _ => rfl) H
theorem e_X7_load {vl : Nat → Nat} {r0 : Nat} {r1 : Nat} {x2 : Int32} {z : ow_MS} {Q : ow_MS → Prop} (H : Tt (fun K k => c_X7_load vl K k 0 x2 0 0 0 0 0 0 0 0 0 0 0 r0 r1 0 0 z) Q) : Te (fun K => ce_X7_load vl K r0 r1 x2 z) Q := w_te H
theorem u_X7_load_0 {vl : Nat → Nat} {x2 : Int32} {x3 : Int32} {x4 : Int32} {x5 : Int32} {x6 : Int32} {x7 : Int32} {x8 : Int32} {x9 : Int32} {x10 : Int32} {x11 : Int32} {x12 : Int32} {x13 : Int32} {r0 : Nat} {r1 : Nat} {t0 : Int32} {t1 : Int32} {z : ow_MS} {Q : ow_MS → Prop} (H : Tt (fun K k => cm_X7_load_0 vl K (c_X7_load vl K k) x2 x3 x4 x5 x6 x7 x8 x9 x10 x11 x12 x13 r0 r1 t0 t1 z) Q) : Tt (fun K k => c_X7_load vl K k 0 x2 x3 x4 x5 x6 x7 x8 x9 x10 x11 x12 x13 r0 r1 t0 t1 z) Q := w_un (fun _ _ => rfl) H
theorem tc_load {Fo Fc : Nat → Int32} {t : ow_LD} (hh : nH h) (hg : tH g p) (hd : h + 12 ≤ g ∨ g + 6 ≤ h) (hs : s < p) (hC : slC y g s C) (oC : cOK C) (hy : cAt y h T) (h4 : ∀ k, y.2.1 (h + 4) k = Fo k) (h5 : ∀ k, y.2.1 (h + 5) k = Fc k) (ht : ldR C.2 (ld_init T.2.2.1 T.2.2.2 Fo Fc) = some t) : Te (fun K => ce_X7_load vl K h g (nI s) y) (fun y1 => lds y1 h C.1 t ∧ fr (cL h) y y1) := by
  have hp := tH_p hg
  obtain ⟨o1, o2, o3⟩ := oC
  let Q : ow_MS → Prop := fun y1 => lds y1 h C.1 t ∧ fr (cL h) y y1
  have slf : ∀ {y1 : ow_MS}, fr (cL h) y y1 → slC y1 g s C := fun hf => slC_fr hf (fun q hq hl => by unfold cW at hq; unfold cL at hl; omega) hC
  have c1 : ∀ (L : List Nat) (i : Nat) (u : ow_LD) (y1 : ow_MS), C.2.drop i = L → i ≤ C.2.length → ldR L u = some t → lds y1 h C.1 u → ldb i u → fr (cL h) y y1 → Tt (fun K k => c_X7_load vl K k 1 (nI s) (nI (30 * s)) (nI u.2.1.2.2.1) (nI u.2.1.2.2.2.1) (nI u.2.1.2.2.2.2.1) (nI u.2.1.2.2.2.2.2) (oI u.2.2.1) (oI u.2.2.2) (nI i) 0 0 0 h g 0 0 y1) Q := by
    intro L
    induction L with
    | nil =>
      intro i u y1 hL hi hr hl hb hf
      have e : i = C.2.length := by
        have := List.drop_eq_nil_iff.mp hL
        omega
      have hu : u = t := Option.some.inj hr
      subst hu
      refine u_X7_load_1 ?_; unfold cm_X7_load_1
      exact w_crI (tH_2 hg) rfl hs (slf hf).2.1 (w_leT (by omega) (by omega) (w_some ⟨hl, hf⟩))
    | cons c L ih =>
      intro i u y1 hL hi hr hl hb hf
      have hil : i < C.2.length := by
        refine Nat.lt_of_le_of_ne hi (fun e => ?_)
        rw [List.drop_of_length_le (by omega)] at hL
        cases hL
      have dc := List.drop_eq_getElem_cons hil
      rw [hL] at dc
      have ec : C.2[i]? = some c := by
        rw [List.getElem?_eq_getElem hil]
        injection dc with d1 d2
        rw [d1]
      have hL2 : C.2.drop (i + 1) = L := by
        injection dc with d1 d2
        exact d2.symm
      have hc64 := o3 c (List.mem_of_getElem? ec)
      obtain ⟨l1, l2, l3⟩ := ld_c ⟨c, hc64⟩
      obtain ⟨⟨S, G, Fo', Fc'⟩, ⟨ci, co, ba, na, lo, cn⟩, fi, la⟩ := u
      obtain ⟨g1, g2, g3, g4⟩ := hl
      obtain ⟨b1, b2, b3, b4, b5, b6, b7, b8⟩ := hb
      dsimp only at g1 g2 g3 g4 b1 b2 b3 b4 b5 b6 b7 b8 ⊢
      have hr : (ld_cell ((S, G, Fo', Fc'), (ci, co, ba, na, lo, cn), (fi, la)) c).bind (ldR L) = some t := hr
      have k7 : ∀ (u : ow_LD) (y1 : ow_MS) (x11 : Int32), ldR L u = some t → lds y1 h C.1 u → ldb (i + 1) u → fr (cL h) y y1 → Tt (fun K k => c_X7_load vl K k 7 (nI s) (nI (30 * s)) (nI u.2.1.2.2.1) (nI u.2.1.2.2.2.1) (nI u.2.1.2.2.2.2.1) (nI u.2.1.2.2.2.2.2) (oI u.2.2.1) (oI u.2.2.2) (nI i) x11 0 0 h g 0 0 y1) Q := by
        intro u y1 x11 h1 h2 h3 h9
        refine u_X7_load_7 ?_; unfold cm_X7_load_7
        rw [nI_1]
        exact ih (i + 1) u y1 hL2 (by omega) h1 h2 h3 h9
      refine u_X7_load_1 ?_; unfold cm_X7_load_1
      rw [nI_add]
      refine w_crI (tH_2 hg) rfl hs (slf hf).2.1 (w_leF (by omega) (by omega) (w_crI (tH_1 hg) rfl (by omega) ((slf hf).2.2 i c ec) (w_eqN (b := 0) (by omega) (by omega) (fun e0 => ?_) (fun e0 => ?_))))
      · have hr : ldR L (ld_zero S G Fo' Fc' ci co ba na lo cn fi la) = some t := by
          rw [ld_cell_eq, if_pos e0] at hr
          exact hr
        have k2 : ∀ (y1 : ow_MS) (x8 : Int32), cAt y1 h (C.1, (ld_zero S G Fo' Fc' ci co ba na lo cn fi la).2.1.1, (ld_zero S G Fo' Fc' ci co ba na lo cn fi la).1.1, G) → (∀ k, y1.2.1 (h + 4) k = Fo' k) → (∀ k, y1.2.1 (h + 5) k = Fc' k) → y1.1 (h + 10) = nI co → fr (cL h) y y1 → Tt (fun K k => c_X7_load vl K k 2 (nI s) (nI (30 * s)) (nI ba) (nI na) (nI lo) (nI cn) x8 (oI la) (nI i) (nI c) 0 0 h g 0 0 y1) Q := by
          intro y1 x8 g1 g2 g3 g4 hf
          have h7 := k7 (ld_zero S G Fo' Fc' ci co ba na lo cn fi la) (usF y1 (h + 10) (nI (co + 1))) (nI c) hr ⟨cAt_F (Or.inl rfl) g1, g2, g3, po_usF_at⟩ (by
            refine ⟨?_, ?_, ?_, b4, ?_, b6, (fun f hf => by cases hf), b8⟩
            · exact Nat.le_trans ld_zero_ci (by omega)
            · show co + 1 ≤ i + 1
              omega
            · show (if lo = 0 then na else ba) ≤ 12
              split
              · exact b4
              · exact b3
            · show lo ≤ i + 1
              omega) (fr_F2 hf (Or.inr (by omega)))
          have h3 : ∀ t0 : Int32, t0 = nI (if lo = 0 then na else ba) → Tt (fun K k => c_X7_load vl K k 3 (nI s) (nI (30 * s)) (nI ba) (nI na) (nI lo) (nI cn) (-1) (oI la) (nI i) (nI c) 0 0 h g t0 0 (usF y1 (h + 10) (nI (co + 1)))) Q := by
            intro t0 e9
            subst e9
            refine u_X7_load_3 ?_; unfold cm_X7_load_3
            exact h7
          refine u_X7_load_2 ?_; unfold cm_X7_load_2
          refine w_rdF g4 ?_
          rw [nI_1]
          refine w_wrF (w_eqN (b := 0) (by omega) (by omega) (fun e => h3 _ ?_) (fun e => h3 _ ?_))
          · rw [if_pos e]
          · rw [if_neg e]
        cases fi with
        | none =>
          refine w_ifT rfl (w_rdF g1.2.1 ?_)
          rw [nI_1]
          exact w_wrF (k2 _ _ (cAt_o g1) g2 g3 (rf_ot (by omega) g4) (fr_F2 hf (Or.inr (by omega))))
        | some f =>
          obtain ⟨f1, l, hl⟩ := b7 f rfl
          have hl24 := b8 l hl
          subst hl
          refine w_ifF (rn_neg1 (v := f) (by omega)) (w_cs0 (tc_link hh g1 hl24 f1) ?_)
          rintro y2 ⟨q1, q2⟩
          have q3 : ∀ q, q = h + 4 ∨ q = h + 5 ∨ q = h + 10 → ¬ cP h q := fun q hq h9 => by unfold cP at h9; omega
          exact k2 y2 _ q1 (fun k => by rw [(q2 _ (q3 _ (by omega))).2.1]; exact g2 k) (fun k => by rw [(q2 _ (q3 _ (by omega))).2.1]; exact g3 k) (by rw [(q2 _ (q3 _ (by omega))).1]; exact g4) (fr_tr hf (fr_mono (fun q hq => by unfold cP at hq; unfold cL; omega) q2))
      · rw [ld_cell_eq, if_neg e0] at hr
        by_cases hcd : 4 ≤ c ∧ ba + c / 4 - 1 < 12 ∧ cn < 24 ∧ (ba + c / 4 - 1 < na → 0 < lo)
        · rw [if_pos hcd] at hr
          obtain ⟨d1, d2, d3, d4⟩ := hcd
          dsimp only at l1 l2 l3
          rw [l1, nI_add, show nI (ba + c / 4) - 1 = nI (ba + c / 4 - 1) from pk_sub (b := 1) (by omega), nI_1 (ba + c / 4 - 1), nI_1 lo]
          generalize hx : ba + c / 4 - 1 = x at *
          have hr : ldR L (ld_visit S G Fo' Fc' ci co ba na lo cn fi la x (2 * x + c / 2 % 2) (if c % 2 = 0 then 1 else -1)) = some t := hr
          have hv24 : 2 * x + c / 2 % 2 < 24 := by omega
          have k5 : ∀ (y1 : ow_MS) (na' lo' : Nat), na' = (if x < na then na else x + 1) → lo' = (if x < na then lo - 1 else lo + 1) → cAt y1 h (C.1, ci, S, (if x < na then G else su G x (if c % 2 = 0 then 1 else -1))) → (∀ k, y1.2.1 (h + 4) k = Fo' k) → (∀ k, y1.2.1 (h + 5) k = Fc' k) → y1.1 (h + 10) = nI co → fr (cL h) y y1 → Tt (fun K k => c_X7_load vl K k 5 (nI s) (nI (30 * s)) (nI ba) (nI na') (nI lo') (nI cn) (oI fi) (oI la) (nI i) (nI c) (nI x) 0 h g 0 0 y1) Q := by
            intro y1 na' lo' ena elo g1 g2 g3 g4 hf
            have hbv : ldb (i + 1) (ld_visit S G Fo' Fc' ci co ba na lo cn fi la x (2 * x + c / 2 % 2) (if c % 2 = 0 then 1 else -1)) := by
              refine ⟨?_, ?_, b3, ?_, ?_, ?_, (fun f hf => ⟨?_, _, rfl⟩), (fun l hl => ?_)⟩
              · show ci ≤ i + 1
                omega
              · show co ≤ i + 1
                omega
              · show (if x < na then na else x + 1) ≤ 12
                split <;> omega
              · show (if x < na then lo - 1 else lo + 1) ≤ i + 1
                split <;> omega
              · show cn + 1 ≤ 24
                omega
              · have hf : some (fi.getD (2 * x + c / 2 % 2)) = some f := hf
                injection hf with hf
                rw [← hf]
                cases fi with
                | none => exact hv24
                | some f' => exact (b7 f' rfl).1
              · have hl : some (2 * x + c / 2 % 2) = some l := hl
                injection hl with hl
                omega
            generalize hv : 2 * x + c / 2 % 2 = v at *
            have k6 : ∀ (y1 : ow_MS), lds y1 h C.1 (ld_visit S G Fo' Fc' ci co ba na lo cn fi la x v (if c % 2 = 0 then 1 else -1)) → fr (cL h) y y1 → Tt (fun K k => c_X7_load vl K k 6 (nI s) (nI (30 * s)) (nI ba) (nI na') (nI lo') (nI (cn + 1)) (nI (fi.getD v)) (oI la) (nI i) (nI c) (nI x) (nI v) h g 0 0 y1) Q := by
              intro y1 h1 hf
              rw [ena, elo]
              refine u_X7_load_6 ?_; unfold cm_X7_load_6
              exact k7 (ld_visit S G Fo' Fc' ci co ba na lo cn fi la x v (if c % 2 = 0 then 1 else -1)) y1 _ hr h1 hbv hf
            refine u_X7_load_5 ?_; unfold cm_X7_load_5
            rw [l3, show (2 : Int32) * nI x = nI (2 * x) from pk_mul 2 x, nI_add, hv, nI_1 cn]
            have y2c : cAt (usI (usI y1 (h + 4) cn (nI v)) (h + 5) v (nI co)) h (C.1, ci, S, (if x < na then G else su G x (if c % 2 = 0 then 1 else -1))) := cAt_I (Or.inr (Or.inl rfl)) (cAt_I (Or.inl rfl) g1)
            have y24 : ∀ k, (usI (usI y1 (h + 4) cn (nI v)) (h + 5) v (nI co)).2.1 (h + 4) k = su Fo' cn (nI v) k := fun k => rd_ot (by omega) (rwC_su (F := Fo') g2 k)
            have y25 : ∀ k, (usI (usI y1 (h + 4) cn (nI v)) (h + 5) v (nI co)).2.1 (h + 5) k = su Fc' v (nI co) k := fun k => rwC_su (F := Fc') (y := usI y1 (h + 4) cn (nI v)) (fun k => rd_ot (by omega) (g3 k)) k
            have y2f : fr (cL h) y (usI (usI y1 (h + 4) cn (nI v)) (h + 5) v (nI co)) := fr_I2 (fr_I2 hf (Or.inl (by omega))) (Or.inl (by omega))
            refine w_ctI (nH_4 hh) rfl (by omega) (w_rdF (x := nI co) g4 (w_ctI (nH_5 hh) rfl hv24 ?_))
            cases fi with
            | none => exact w_ifT rfl (k6 _ ⟨y2c, y24, y25, g4⟩ y2f)
            | some f =>
              obtain ⟨f1, l, hl⟩ := b7 f rfl
              have hl24 := b8 l hl
              subst hl
              refine w_ifF (rn_neg1 (v := f) (by omega)) (w_cs0 (tc_link hh y2c hl24 hv24) ?_)
              rintro y3 ⟨q1, q2⟩
              have q3 : ∀ q, q = h + 4 ∨ q = h + 5 ∨ q = h + 10 → ¬ cP h q := fun q hq h9 => by unfold cP at h9; omega
              exact k6 y3 ⟨q1, fun k => by rw [(q2 _ (q3 _ (by omega))).2.1]; exact y24 k, fun k => by rw [(q2 _ (q3 _ (by omega))).2.1]; exact y25 k, by rw [(q2 _ (q3 _ (by omega))).1]; exact g4⟩ (fr_tr y2f (fr_mono (fun q hq => by unfold cP at hq; unfold cL; omega) q2))
          refine w_lt (by omega) (by omega) (fun hxn => ?_) (fun hxn => ?_)
          · rw [nI_m (d4 hxn)]
            exact k5 y1 na (lo - 1) (by rw [if_pos hxn]) (by rw [if_pos hxn]) (by rw [if_pos hxn]; exact g1) g2 g3 g4 hf
          · have k4 : ∀ w : Int32, w = (if c % 2 = 0 then 1 else -1) → Tt (fun K k => c_X7_load vl K k 4 (nI s) (nI (30 * s)) (nI ba) (nI (x + 1)) (nI (lo + 1)) (nI cn) (oI fi) (oI la) (nI i) (nI c) (nI x) 0 h g w (nI x) y1) Q := by
              intro w ew
              subst ew
              refine u_X7_load_4 ?_; unfold cm_X7_load_4
              refine w_ctI (nH_3 hh) rfl d2 (k5 _ (x + 1) (lo + 1) (by rw [if_neg (by omega)]) (by rw [if_neg (by omega)]) ?_ (fun k => rd_ot (by omega) (g2 k)) (fun k => rd_ot (by omega) (g3 k)) g4 (fr_I2 hf (Or.inl (by omega))))
              rw [if_neg (show ¬ x < na by omega)]
              obtain ⟨a, b, c', d, e⟩ := g1
              exact ⟨a, b, fun k => rd_ot (by omega) (c' k), fun k => rd_ot (by omega) (d k), fun k => rwC_su (F := G) e k⟩
            refine w_if (fun e1 => k4 _ ?_) (fun e1 => k4 _ ?_)
            · rw [if_pos (l2.mp e1)]
            · rw [if_neg (fun h9 => e1 (l2.mpr h9))]
        · rw [if_neg hcd] at hr
          cases hr
  refine e_X7_load ?_
  refine u_X7_load_0 ?_; unfold cm_X7_load_0
  rw [mul30]
  refine w_crI (tH_3 hg) rfl hs hC.1 (w_wrF (w_wrF (w_wrF ?_)))
  refine c1 C.2 0 (ld_init T.2.2.1 T.2.2.2 Fo Fc) _ (List.drop_zero) (by omega) ht ⟨cAt_F (Or.inl rfl) (cAt_o (o := 0) (cAt_c (o := C.1) hy)), h4, h5, po_usF_at⟩ ⟨Nat.le_refl _, Nat.le_refl _, by show 0 ≤ 12; omega, by show 0 ≤ 12; omega, Nat.le_refl _, by show 0 ≤ 24; omega, (fun f hf => by cases hf), (fun l hl => by cases hl)⟩ (fr_F2 (fr_F2 (fr_F2 fr_rf (Or.inr (by omega))) (Or.inr (by omega))) (Or.inr (by omega)))
end CL
end
section
/-! 99zzzzu.cface -/
/-! the class: sides and faces -/
def fH (f : Nat) : Prop := f = 6000 ∨ f = 18000 ∨ f = 19000
theorem fH_1 {vl : Nat → Nat} {f : Nat} (h : fH f) : ((cX vl).2 (f + 1)).2.1 = 48 := by
  rcases h with rfl | rfl | rfl <;> rfl
theorem sd_c : ∀ s : Fin 48, ((nI s.val &&& 1) = 0 ↔ s.val % 2 = 0) ∧ nI s.val >>> ((1 : Int32) &&& 31) = nI (s.val / 2) := by decide +kernel
section CF
variable {vl : Nat → Nat} {y : ow_MS} {h f : Nat} {T : ow_NT}
theorem e_X4_endOf {vl : Nat → Nat} {r0 : Nat} {x1 : Int32} {z : ow_MS} {Q : (Int32 × ow_MS) → Prop} (H : Tt (fun K _ => cm_X4_endOf_0 vl K x1 r0 z) Q) : Te (fun K => ce_X4_endOf vl K r0 x1 z) Q := w_te0 H
theorem tc_endOf {s : Nat} (hh : nH h) (hy : cAt y h T) (hs : s < 48) : Te (fun K => ce_X4_endOf vl K h (nI s) y) (fun r => r.1 = nI (fc_end T.2.2.1.1 s) ∧ r.2 = y) := by
  obtain ⟨l1, l2⟩ := sd_c ⟨s, hs⟩
  dsimp only at l1 l2
  refine e_X4_endOf ?_; unfold cm_X4_endOf_0
  rw [l2]
  unfold fc_end
  refine w_if (fun e => w_crI (nH_1 hh) rfl (by omega) (hy.2.2.1 _) (w_some ⟨?_, rfl⟩)) (fun e => w_some ⟨?_, rfl⟩)
  · rw [if_pos (l1.mp e)]
  · rw [if_neg (fun h9 => e (l1.mpr h9))]
theorem bd_eq {a b : Bool} : ((if a then (1 : Int32) else 0) = (if b then 1 else 0)) ↔ (a == b) = true := by
  cases a <;> cases b <;> decide
theorem u_X4_onward_5 {vl : Nat → Nat} {x1 : Int32} {x2 : Int32} {x3 : Int32} {x4 : Int32} {r0 : Nat} {t0 : Int32} {t1 : Int32} {z : ow_MS} {Q : (Int32 × ow_MS) → Prop} (H : Tt (fun K k => cm_X4_onward_5 vl K (c_X4_onward vl K k) x1 x2 x3 x4 r0 t0 t1 z) Q) : Tt (fun K k => c_X4_onward vl K k 5 x1 x2 x3 x4 r0 t0 t1 z) Q := w_un (fun _ _ => rfl) H
theorem u_X4_onward_4 {vl : Nat → Nat} {x1 : Int32} {x2 : Int32} {x3 : Int32} {x4 : Int32} {r0 : Nat} {t0 : Int32} {t1 : Int32} {z : ow_MS} {Q : (Int32 × ow_MS) → Prop} (H : Tt (fun K k => cm_X4_onward_4 vl K (c_X4_onward vl K k) x1 x2 x3 x4 r0 t0 t1 z) Q) : Tt (fun K k => c_X4_onward vl K k 4 x1 x2 x3 x4 r0 t0 t1 z) Q := w_un (fun _ _ => rfl) H
theorem u_X4_onward_3 {vl : Nat → Nat} {x1 : Int32} {x2 : Int32} {x3 : Int32} {x4 : Int32} {r0 : Nat} {t0 : Int32} {t1 : Int32} {z : ow_MS} {Q : (Int32 × ow_MS) → Prop} (H : Tt (fun K k => cm_X4_onward_3 vl K (c_X4_onward vl K k) x1 x2 x3 x4 r0 t0 t1 z) Q) : Tt (fun K k => c_X4_onward vl K k 3 x1 x2 x3 x4 r0 t0 t1 z) Q := w_un (fun _ _ => rfl) H
theorem u_X4_onward_2 {vl : Nat → Nat} {x1 : Int32} {x2 : Int32} {x3 : Int32} {x4 : Int32} {r0 : Nat} {t0 : Int32} {t1 : Int32} {z : ow_MS} {Q : (Int32 × ow_MS) → Prop} (H : Tt (fun K k => cm_X4_onward_2 vl K (c_X4_onward vl K k) x1 x2 x3 x4 r0 t0 t1 z) Q) : Tt (fun K k => c_X4_onward vl K k 2 x1 x2 x3 x4 r0 t0 t1 z) Q := w_un (fun _ _ => rfl) H
theorem e_X4_onward {vl : Nat → Nat} {r0 : Nat} {x1 : Int32} {z : ow_MS} {Q : (Int32 × ow_MS) → Prop} (H : Tt (fun K k => c_X4_onward vl K k 0 x1 0 0 0 r0 0 0 z) Q) : Te (fun K => ce_X4_onward vl K r0 x1 z) Q := w_te H
theorem u_X4_onward_0 {vl : Nat → Nat} {x1 : Int32} {x2 : Int32} {x3 : Int32} {x4 : Int32} {r0 : Nat} {t0 : Int32} {t1 : Int32} {z : ow_MS} {Q : (Int32 × ow_MS) → Prop} (H : Tt (fun K k => cm_X4_onward_0 vl K (c_X4_onward vl K k) x1 x2 x3 x4 r0 t0 t1 z) Q) : Tt (fun K k => c_X4_onward vl K k 0 x1 x2 x3 x4 r0 t0 t1 z) Q := w_un (fun _ _ => rfl) H
theorem u_X4_onward_1 {vl : Nat → Nat} {x1 : Int32} {x2 : Int32} {x3 : Int32} {x4 : Int32} {r0 : Nat} {t0 : Int32} {t1 : Int32} {z : ow_MS} {Q : (Int32 × ow_MS) → Prop} (H : Tt (fun K k => cm_X4_onward_1 vl K (c_X4_onward vl K k) x1 x2 x3 x4 r0 t0 t1 z) Q) : Tt (fun K k => c_X4_onward vl K k 1 x1 x2 x3 x4 r0 t0 t1 z) Q := w_un (fun _ _ => rfl) H
theorem tc_onward {s : Nat} (hh : nH h) (hy : cAt y h T) (hb : ow_b24 T.2.2.1) (hs : s < 48) : Te (fun K => ce_X4_onward vl K h (nI s) y) (fun r => r.1 = nI (fc_on T.2.2.1 T.2.2.2 s) ∧ r.2 = y) := by
  obtain ⟨l1, l2⟩ := sd_c ⟨s, hs⟩
  dsimp only at l1 l2
  let Q : Int32 × ow_MS → Prop := fun r => r.1 = nI (fc_on T.2.2.1 T.2.2.2 s) ∧ r.2 = y
  have hv24 : fc_end T.2.2.1.1 s < 24 := by
    unfold fc_end
    split
    · exact hb.1 _
    · omega
  have efc : fc_on T.2.2.1 T.2.2.2 s = if (decide (fc_end T.2.2.1.1 s % 2 = 0) == decide (0 < T.2.2.2 (fc_end T.2.2.1.1 s / 2))) == decide (s % 2 = 0) then 2 * mt (fc_end T.2.2.1.1 s) else 2 * T.2.2.1.2 (mt (fc_end T.2.2.1.1 s)) + 1 := rfl
  obtain ⟨m1, m2⟩ := sd_c ⟨fc_end T.2.2.1.1 s, by omega⟩
  have hx := xor1 ⟨fc_end T.2.2.1.1 s, hv24⟩
  have hm24 : mt (fc_end T.2.2.1.1 s) < 24 := mt_lt (c := 12) (by omega)
  dsimp only at m1 m2 hx
  generalize hve : fc_end T.2.2.1.1 s = v at *
  have k5 : ∀ t0 x2 : Int32, t0 = (if (decide (v % 2 = 0) == decide (0 < T.2.2.2 (v / 2))) then 1 else 0) → x2 = (if decide (s % 2 = 0) then 1 else 0) → Tt (fun K k => c_X4_onward vl K k 5 (nI s) x2 (nI v) (nI (mt v)) h t0 0 y) Q := by
    intro t0 x2 e1 e2
    subst e1
    subst e2
    refine u_X4_onward_5 ?_; unfold cm_X4_onward_5
    refine w_if (fun e => ?_) (fun e => w_crI (nH_2 hh) rfl hm24 (hy.2.2.2.1 _) ?_)
    · refine w_some ⟨?_, rfl⟩
      show (2 : Int32) * nI (mt v) = _
      rw [efc, if_pos (bd_eq.mp e), show (2 : Int32) * nI (mt v) = nI (2 * mt v) from pk_mul 2 _]
    · refine w_some ⟨?_, rfl⟩
      show (2 : Int32) * nI (T.2.2.1.2 (mt v)) + 1 = _
      rw [efc, if_neg (fun h9 => e (bd_eq.mpr h9)), show (2 : Int32) * nI (T.2.2.1.2 (mt v)) = nI (2 * T.2.2.1.2 (mt v)) from pk_mul 2 _, nI_1]
  have k4 : ∀ t0 t1 x2 : Int32, t1 = (if decide (v % 2 = 0) then 1 else 0) → t0 = (if decide (0 < T.2.2.2 (v / 2)) then 1 else 0) → x2 = (if decide (s % 2 = 0) then 1 else 0) → Tt (fun K k => c_X4_onward vl K k 4 (nI s) x2 (nI v) (nI (mt v)) h t0 t1 y) Q := by
    intro t0 t1 x2 e1 e0 e2
    subst e1
    subst e0
    refine u_X4_onward_4 ?_; unfold cm_X4_onward_4
    refine w_if (fun e => k5 _ _ ?_ e2) (fun e => k5 _ _ ?_ e2)
    · rw [if_pos (bd_eq.mp e)]
    · rw [if_neg (fun h9 => e (bd_eq.mpr h9))]
  have k3 : ∀ t0 x2 : Int32, t0 = (if decide (v % 2 = 0) then 1 else 0) → x2 = (if decide (s % 2 = 0) then 1 else 0) → Tt (fun K k => c_X4_onward vl K k 3 (nI s) x2 (nI v) (nI (mt v)) h t0 0 y) Q := by
    intro t0 x2 e1 e2
    refine u_X4_onward_3 ?_; unfold cm_X4_onward_3
    rw [m2]
    refine w_crI (nH_3 hh) rfl (by omega) (hy.2.2.2.2 _) (w_if (fun e => k4 _ _ _ e1 ?_ e2) (fun e => k4 _ _ _ e1 ?_ e2))
    · rw [decide_eq_false (Int32.not_lt.mpr e)]
      rfl
    · rw [decide_eq_true (Int32.not_le.mp e)]
      rfl
  have k2 : ∀ x2 : Int32, x2 = (if decide (s % 2 = 0) then 1 else 0) → Tt (fun K k => c_X4_onward vl K k 2 (nI s) x2 0 0 h (nI v) 0 y) Q := by
    intro x2 e2
    refine u_X4_onward_2 ?_; unfold cm_X4_onward_2
    rw [hx]
    refine w_if (fun e => k3 _ _ ?_ e2) (fun e => k3 _ _ ?_ e2)
    · rw [decide_eq_true (m1.mp e)]
      rfl
    · rw [decide_eq_false (fun h9 => e (m1.mpr h9))]
      rfl
  refine e_X4_onward ?_
  refine u_X4_onward_0 ?_; unfold cm_X4_onward_0
  refine w_if (fun e => ?_) (fun e => ?_)
  · refine u_X4_onward_1 ?_; unfold cm_X4_onward_1
    rw [l2]
    have hse := l1.mp e
    have : T.2.2.1.1 (s / 2) = v := by
      rw [← hve]
      unfold fc_end
      rw [if_pos hse]
    refine w_ifF (by decide) (w_crI (nH_1 hh) rfl (by omega) (hy.2.2.1 _) ?_)
    rw [this]
    exact k2 _ (by rw [decide_eq_true hse]; rfl)
  · refine u_X4_onward_1 ?_; unfold cm_X4_onward_1
    rw [l2]
    have hse : ¬ s % 2 = 0 := fun h9 => e (l1.mpr h9)
    have : s / 2 = v := by
      rw [← hve]
      unfold fc_end
      rw [if_neg hse]
    refine w_ifT rfl ?_
    rw [this]
    exact k2 _ (by rw [decide_eq_false hse]; rfl)
end CF
end
section
/-! 99zzzzv.cplane -/
/-! the class: faces marked, isPlane -/
def cF (f q : Nat) : Prop := q = f + 1 ∨ q = f + 2
section CP
variable {vl : Nat → Nat} {y : ow_MS} {h f : Nat} {T : ow_NT}
theorem u_X4_mark_1 {vl : Nat → Nat} {x2 : Int32} {x3 : Int32} {x4 : Int32} {x5 : Int32} {r0 : Nat} {r1 : Nat} {z : ow_MS} {Q : ow_MS → Prop} (H : Tt (fun K k => cm_X4_mark_1 vl K (c_X4_mark vl K k) x2 x3 x4 x5 r0 r1 z) Q) : Tt (fun K k => c_X4_mark vl K k 1 x2 x3 x4 x5 r0 r1 z) Q := w_un (fun _ _ => rfl) H
theorem u_X4_mark_4 {vl : Nat → Nat} {x2 : Int32} {x3 : Int32} {x4 : Int32} {x5 : Int32} {r0 : Nat} {r1 : Nat} {z : ow_MS} {Q : ow_MS → Prop} (H : Tt (fun K k => cm_X4_mark_4 vl K (c_X4_mark vl K k) x2 x3 x4 x5 r0 r1 z) Q) : Tt (fun K k => c_X4_mark vl K k 4 x2 x3 x4 x5 r0 r1 z) Q := w_un (fun _ _ => rfl) H
theorem u_X4_mark_3 {vl : Nat → Nat} {x2 : Int32} {x3 : Int32} {x4 : Int32} {x5 : Int32} {r0 : Nat} {r1 : Nat} {z : ow_MS} {Q : ow_MS → Prop} (H : Tt (fun K k => cm_X4_mark_3 vl K (c_X4_mark vl K k) x2 x3 x4 x5 r0 r1 z) Q) : Tt (fun K k => c_X4_mark vl K k 3 x2 x3 x4 x5 r0 r1 z) Q := w_un (fun _ _ => rfl) H
theorem u_X4_mark_2 {vl : Nat → Nat} {x2 : Int32} {x3 : Int32} {x4 : Int32} {x5 : Int32} {r0 : Nat} {r1 : Nat} {z : ow_MS} {Q : ow_MS → Prop} (H : Tt (fun K k => cm_X4_mark_2 vl K (c_X4_mark vl K k) x2 x3 x4 x5 r0 r1 z) Q) : Tt (fun K k => c_X4_mark vl K k 2 x2 x3 x4 x5 r0 r1 z) Q := w_un (fun _ _ => rfl) H
theorem e_X4_mark {vl : Nat → Nat} {r0 : Nat} {r1 : Nat} {z : ow_MS} {Q : ow_MS → Prop} (H : Tt (fun K k => c_X4_mark vl K k 0 0 0 0 0 r0 r1 z) Q) : Te (fun K => ce_X4_mark vl K r0 r1 z) Q := w_te H
theorem u_X4_mark_0 {vl : Nat → Nat} {x2 : Int32} {x3 : Int32} {x4 : Int32} {x5 : Int32} {r0 : Nat} {r1 : Nat} {z : ow_MS} {Q : ow_MS → Prop} (H : Tt (fun K k => cm_X4_mark_0 vl K (c_X4_mark vl K k) x2 x3 x4 x5 r0 r1 z) Q) : Tt (fun K k => c_X4_mark vl K k 0 x2 x3 x4 x5 r0 r1 z) Q := w_un (fun _ _ => rfl) H
theorem tc_faces (hh : nH h) (hF : fH f) (hd : h + 12 ≤ f ∨ f + 9 ≤ h) (hy : cAt y h T) (hb : ow_b24 T.2.2.1) (hv : vn T.1 T.2.2.1) (hT : T.1 ≤ 12) : Te (fun K => ce_X4_mark vl K f h y) (fun y1 => rwC y1 (f + 1) (mr_out (fc_on T.2.2.1 T.2.2.2) (4 * T.1) (np_fill (y.2.1 (f + 1)) 0 (4 * T.1) (-1)) (4 * T.1)).1 ∧ y1.1 (f + 2) = nI (mr_out (fc_on T.2.2.1 T.2.2.2) (4 * T.1) (np_fill (y.2.1 (f + 1)) 0 (4 * T.1) (-1)) (4 * T.1)).2 ∧ fr (cF f) y y1) := by
  generalize hF0 : np_fill (y.2.1 (f + 1)) 0 (4 * T.1) (-1) = F0
  let N := fc_on T.2.2.1 T.2.2.2
  generalize hvv : 4 * T.1 = vs at *
  let Q : ow_MS → Prop := fun y1 => rwC y1 (f + 1) (mr_out N vs F0 vs).1 ∧ y1.1 (f + 2) = nI (mr_out N vs F0 vs).2 ∧ fr (cF f) y y1
  have hvs : vs ≤ 48 := by omega
  have hNv : ∀ k, k < vs → N k < vs := fun k hk => by rw [← hvv]; exact fc_on_vn hv _ (by omega)
  have cAy : ∀ {y1 : ow_MS}, fr (cF f) y y1 → cAt y1 h T := fun hf => cAt_fr hf (fun q hq hr => by unfold cP at hq; unfold cF at hr; omega) hy
  have c1 : ∀ (d s : Nat) (y1 : ow_MS), s + d = vs → rwC y1 (f + 1) (mr_out N vs F0 s).1 → y1.1 (f + 2) = nI (mr_out N vs F0 s).2 → fr (cF f) y y1 → Tt (fun K t => c_X4_mark vl K t 1 (nI vs) (nI s) 0 0 f h y1) Q := by
    intro d
    induction d with
    | zero =>
      intro s y1 hs h1 h2 hf
      have e : s = vs := by omega
      rw [e] at h1 h2
      refine u_X4_mark_1 ?_; unfold cm_X4_mark_1
      exact w_leT (by omega) (by omega) (w_some ⟨h1, h2, hf⟩)
    | succ d ih =>
      intro s y1 hs h1 h2 hf
      have hle := mr_out_le N vs F0 s
      have eo : mr_out N vs F0 (s + 1) = if (mr_out N vs F0 s).1 s = -1 then (mr_in N (nI (mr_out N vs F0 s).2) vs (mr_out N vs F0 s).1 s, (mr_out N vs F0 s).2 + 1) else mr_out N vs F0 s := rfl
      have k4 : ∀ (y1 : ow_MS), rwC y1 (f + 1) (mr_out N vs F0 (s + 1)).1 → y1.1 (f + 2) = nI (mr_out N vs F0 (s + 1)).2 → fr (cF f) y y1 → Tt (fun K t => c_X4_mark vl K t 4 (nI vs) (nI s) 0 0 f h y1) Q := by
        intro y1 h1 h2 hf
        refine u_X4_mark_4 ?_; unfold cm_X4_mark_4
        rw [nI_1]
        exact ih (s + 1) y1 (by omega) h1 h2 hf
      refine u_X4_mark_1 ?_; unfold cm_X4_mark_1
      refine w_leF (by omega) (by omega) (w_crI (fH_1 hF) rfl (by omega) (h1 s) (w_if (fun e => ?_) (fun e => ?_)))
      · rw [if_pos e] at eo
        generalize (mr_out N vs F0 s).2 = q at *
        have k3 : ∀ (x3 x4 : Int32) (y1 : ow_MS), rwC y1 (f + 1) (mr_out N vs F0 (s + 1)).1 → y1.1 (f + 2) = nI q → fr (cF f) y y1 → Tt (fun K t => c_X4_mark vl K t 3 (nI vs) (nI s) x3 x4 f h y1) Q := by
          intro x3 x4 y1 h1 h2 hf
          refine u_X4_mark_3 ?_; unfold cm_X4_mark_3
          refine w_rdF h2 ?_
          rw [nI_1]
          refine w_wrF (k4 _ h1 ?_ (fr_F2 hf (Or.inr rfl)))
          rw [eo]
          exact po_usF_at
        have c2 : ∀ (e i v : Nat) (F : Nat → Int32) (y1 : ow_MS), i + e = vs → v < vs → rwC y1 (f + 1) F → y1.1 (f + 2) = nI q → fr (cF f) y y1 → mr_in N (nI q) e F v = (mr_out N vs F0 (s + 1)).1 → Tt (fun K t => c_X4_mark vl K t 2 (nI vs) (nI s) (nI v) (nI i) f h y1) Q := by
          intro e
          induction e with
          | zero =>
            intro i v F y1 hi hv h1 h2 hf hm
            have hm : F = _ := hm
            refine u_X4_mark_2 ?_; unfold cm_X4_mark_2
            exact w_leT (by omega) (by omega) (k3 _ _ y1 (by rw [← hm]; exact h1) h2 hf)
          | succ e ihe =>
            intro i v F y1 hi hv h1 h2 hf hm
            have hm : (if F v = -1 then mr_in N (nI q) e (su F v (nI q)) (N v) else F) = _ := hm
            refine u_X4_mark_2 ?_; unfold cm_X4_mark_2
            refine w_leF (by omega) (by omega) (w_crI (fH_1 hF) rfl (by omega) (h1 v) (w_if (fun e1 => ?_) (fun e1 => ?_)))
            · rw [if_pos e1] at hm
              have hf2 : fr (cF f) y (usI y1 (f + 1) v (nI q)) := fr_I2 hf (Or.inl rfl)
              refine w_rdF h2 (w_ctI (fH_1 hF) rfl (by omega) (w_cs1 (tc_onward hh (cAy hf2) hb (show v < 48 by omega)) ?_))
              rintro a y2 ⟨r1, r2⟩
              dsimp only at r1 r2
              subst r1
              subst r2
              rw [nI_1]
              exact ihe (i + 1) _ _ _ (by omega) (hNv v hv) (rwC_su h1) h2 hf2 hm
            · rw [if_neg e1] at hm
              exact k3 _ _ y1 (by rw [← hm]; exact h1) h2 hf
        exact c2 vs 0 s _ y1 (by omega) (by omega) h1 h2 hf (by rw [eo])
      · rw [if_neg e] at eo
        refine k4 y1 ?_ ?_ hf
        · rw [eo]
          exact h1
        · rw [eo]
          exact h2
  refine e_X4_mark ?_
  refine u_X4_mark_0 ?_; unfold cm_X4_mark_0
  refine w_rdF hy.1 ?_
  rw [show (4 : Int32) * nI T.1 = nI (4 * T.1) from pk_mul 4 _, hvv]
  refine w_cs0 (tc_fill (a := 0) (fH_1 hF) (by omega) hvs (by omega)) ?_
  rintro y1 ⟨h1, f1⟩
  refine w_wrF (c1 vs 0 _ (by omega) (fun k => ?_) po_usF_at (fr_F2 (fr_mono (fun g hg => Or.inl hg) f1) (Or.inr rfl)))
  rw [← hF0]
  exact h1 k
theorem e_X4_isPlane {vl : Nat → Nat} {r0 : Nat} {r1 : Nat} {z : ow_MS} {Q : (Int32 × ow_MS) → Prop} (H : Tt (fun K _ => cm_X4_isPlane_0 vl K r0 r1 z) Q) : Te (fun K => ce_X4_isPlane vl K r0 r1 z) Q := w_te0 H
theorem tc_isPlane (hh : nH h) (hF : fH f) (hd : h + 12 ≤ f ∨ f + 9 ≤ h) (hy : cAt y h T) (hb : ow_b24 T.2.2.1) (hv : vn T.1 T.2.2.1) (hT : T.1 ≤ 12) : Te (fun K => ce_X4_isPlane vl K f h y) (fun r => (∃ a b : Nat, a ≤ 48 ∧ b ≤ 24 ∧ a = (mr_out (fc_on T.2.2.1 T.2.2.2) (4 * T.1) (np_fill (y.2.1 (f + 1)) 0 (4 * T.1) (-1)) (4 * T.1)).2 ∧ b = (mp_out T.2.2.1.1 (2 * T.1) (np_fill (y.2.1 (h + 6)) 0 (2 * T.1) (-1)) (2 * T.1)).2 ∧ r.1 = (if a = T.1 + 2 * b then 1 else 0)) ∧ fr (fun q => cQ h q ∨ cF f q) y r.2) := by
  refine e_X4_isPlane ?_; unfold cm_X4_isPlane_0
  refine w_cs0 (tc_markParts hh hy (fun k hk => (hv k hk).1) hT) ?_
  rintro y1 ⟨p1, p2, p3⟩
  have hy1 : cAt y1 h T := cAt_fr p3 (fun q hq hr => by unfold cP at hq; unfold cQ at hr; omega) hy
  have e1 : y1.2.1 (f + 1) = y.2.1 (f + 1) := (p3 _ (fun h9 => by unfold cQ at h9; omega)).2.1
  refine w_cs0 (tc_faces hh hF hd hy1 hb hv hT) ?_
  rintro y2 ⟨q1, q2, q3⟩
  rw [e1] at q2
  have hb1 := mr_out_le (fc_on T.2.2.1 T.2.2.2) (4 * T.1) (np_fill (y.2.1 (f + 1)) 0 (4 * T.1) (-1)) (4 * T.1)
  have hb2 := mp_out_le T.2.2.1.1 (2 * T.1) (np_fill (y.2.1 (h + 6)) 0 (2 * T.1) (-1)) (2 * T.1)
  have hy2 : cAt y2 h T := cAt_fr q3 (fun q hq hr => by unfold cP at hq; unfold cF at hr; omega) hy1
  have e11 : y2.1 (h + 11) = nI (mp_out T.2.2.1.1 (2 * T.1) (np_fill (y.2.1 (h + 6)) 0 (2 * T.1) (-1)) (2 * T.1)).2 := by
    rw [(q3 _ (fun h9 => by unfold cF at h9; omega)).1]
    exact p2
  have hf : fr (fun q => cQ h q ∨ cF f q) y y2 := fr_tr (fr_mono (fun q hq => Or.inl hq) p3) (fr_mono (fun q hq => Or.inr hq) q3)
  generalize ea : (mr_out (fc_on T.2.2.1 T.2.2.2) (4 * T.1) (np_fill (y.2.1 (f + 1)) 0 (4 * T.1) (-1)) (4 * T.1)).2 = a at *
  generalize eb : (mp_out T.2.2.1.1 (2 * T.1) (np_fill (y.2.1 (h + 6)) 0 (2 * T.1) (-1)) (2 * T.1)).2 = b at *
  refine w_rdF q2 (w_rdF hy2.1 (w_rdF e11 ?_))
  rw [show (2 : Int32) * nI b = nI (2 * b) from pk_mul 2 _, nI_add]
  refine w_eqN (by omega) (by omega) (fun e => w_okZ (Or.inr rfl) (w_some ⟨⟨a, b, by omega, by omega, rfl, rfl, ?_⟩, hf⟩)) (fun e => w_okZ (Or.inl rfl) (w_some ⟨⟨a, b, by omega, by omega, rfl, rfl, ?_⟩, hf⟩))
  · rw [if_pos e]
  · rw [if_neg e]
end CP
end
section
/-! 99zzzzw.cpart -/
/-! the class: append, partOnce, partAll -/
def np_app (N M : Nat → Nat) (o n : Nat) : Nat → Nat := fun k => if o ≤ k ∧ k < o + n then o + M (k - o) else N k
theorem app_0 {N M : Nat → Nat} {o k : Nat} : np_app N M o 0 k = N k := by
  unfold np_app
  rw [if_neg (by omega)]
section CA
variable {vl : Nat → Nat} {y : ow_MS} {h g : Nat} {T R : ow_NT}
theorem app_st {F : Nat → Int32} {N M : Nat → Nat} {o n : Nat} {y : ow_MS} {q : Nat} (hF : ∀ k, y.2.1 q k = nI (np_app N M o n k)) : ∀ k, (usI y q (o + n) (nI (o + M n))).2.1 q k = nI (np_app N M o (n + 1) k) := by
  intro k
  by_cases e : k = o + n
  · rw [e]
    unfold np_app
    rw [if_pos (by omega), show o + n - o = n by omega]
    exact po_usI_at
  · refine rd_ne e ((hF k).trans ?_)
    unfold np_app
    by_cases h1 : o ≤ k ∧ k < o + n
    · rw [if_pos h1, if_pos (by omega)]
    · rw [if_neg h1, if_neg (by omega)]
theorem u_X7_append_1 {vl : Nat → Nat} {x2 : Int32} {x3 : Int32} {r0 : Nat} {r1 : Nat} {z : ow_MS} {Q : ow_MS → Prop} (H : Tt (fun K k => cm_X7_append_1 vl K (c_X7_append vl K k) x2 x3 r0 r1 z) Q) : Tt (fun K k => c_X7_append vl K k 1 x2 x3 r0 r1 z) Q := w_un (fun _ _ => rfl) H
theorem e_X7_append {vl : Nat → Nat} {r0 : Nat} {r1 : Nat} {z : ow_MS} {Q : ow_MS → Prop} (H : Tt (fun K k => c_X7_append vl K k 0 0 0 r0 r1 z) Q) : Te (fun K => ce_X7_append vl K r0 r1 z) Q := w_te H
theorem u_X7_append_0 {vl : Nat → Nat} {x2 : Int32} {x3 : Int32} {r0 : Nat} {r1 : Nat} {z : ow_MS} {Q : ow_MS → Prop} (H : Tt (fun K k => cm_X7_append_0 vl K (c_X7_append vl K k) x2 x3 r0 r1 z) Q) : Tt (fun K k => c_X7_append vl K k 0 x2 x3 r0 r1 z) Q := w_un (fun _ _ => rfl) H
theorem tc_append (hh : nH h) (hg : nH g) (hd : nDj h g) (hy : cAt y h T) (hr : cAt y g R) (hT : T.1 + R.1 ≤ 12) : Te (fun K => ce_X7_append vl K h g y) (fun y1 => cAt y1 h (T.1 + R.1, T.2.1 + R.2.1, (np_app T.2.2.1.1 R.2.2.1.1 (2 * T.1) (2 * R.1), np_app T.2.2.1.2 R.2.2.1.2 (2 * T.1) (2 * R.1)), va_cpy R.2.2.2 T.2.2.2 0 T.1 R.1) ∧ fr (cP h) y y1) := by
  unfold nDj at hd
  let Q : ow_MS → Prop := fun y1 => cAt y1 h (T.1 + R.1, T.2.1 + R.2.1, (np_app T.2.2.1.1 R.2.2.1.1 (2 * T.1) (2 * R.1), np_app T.2.2.1.2 R.2.2.1.2 (2 * T.1) (2 * R.1)), va_cpy R.2.2.2 T.2.2.2 0 T.1 R.1) ∧ fr (cP h) y y1
  have gR : ∀ {y1 : ow_MS}, fr (cP h) y y1 → cAt y1 g R := fun hf => cAt_fr hf (fun q hq hr => by unfold cP at hq hr; omega) hr
  have c1 : ∀ (d i : Nat) (y1 : ow_MS), i + d = 2 * R.1 → cAt y1 h (T.1, T.2.1, (np_app T.2.2.1.1 R.2.2.1.1 (2 * T.1) i, np_app T.2.2.1.2 R.2.2.1.2 (2 * T.1) i), T.2.2.2) → fr (cP h) y y1 → Tt (fun K t => c_X7_append vl K t 1 (nI (2 * T.1)) (nI i) h g y1) Q := by
    intro d
    induction d with
    | zero =>
      intro i y1 hi h1 hf
      have ei : i = 2 * R.1 := by omega
      subst ei
      obtain ⟨a, b, c, d, e⟩ := h1
      obtain ⟨a', b', c', d', e'⟩ := gR hf
      refine u_X7_append_1 ?_; unfold cm_X7_append_1
      refine w_rdF a' ?_
      rw [show (2 : Int32) * nI R.1 = nI (2 * R.1) from pk_mul 2 _]
      refine w_leT (by omega) (by omega) (w_rdF (x := nI T.1) a (w_rdF a' (w_cpI (a := 0) (nH_3 hg) (nH_3 hh) rfl rfl rfl (by omega) (by omega) (w_rdF (x := nI T.1) a (w_rdF (x := nI R.1) a' ?_)))))
      rw [nI_add]
      refine w_wrF (w_rdF (x := nI T.2.1) (rf_ot (by omega) b) (w_rdF (x := nI R.2.1) (rf_ot (by omega) b') ?_))
      rw [nI_add]
      refine w_wrF (w_some ⟨⟨rf_ot (by omega) po_usF_at, po_usF_at, fun k => ?_, fun k => ?_, fun k => ?_⟩, fr_F2 (fr_F2 (fr_R2 hf (Or.inl (by omega))) (Or.inr (Or.inl rfl))) (Or.inr (Or.inr rfl))⟩)
      · show (usR y1 (h + 3) _).2.1 (h + 1) k = _
        rw [usR_ot (by omega)]
        exact c k
      · show (usR y1 (h + 3) _).2.1 (h + 2) k = _
        rw [usR_ot (by omega)]
        exact d k
      · show (usR y1 (h + 3) _).2.1 (h + 3) k = _
        rw [usR_at]
        exact cpy_eq e' e
    | succ d ih =>
      intro i y1 hi h1 hf
      obtain ⟨a, b, c, d9, e⟩ := h1
      obtain ⟨a', b', c', d', e'⟩ := gR hf
      refine u_X7_append_1 ?_; unfold cm_X7_append_1
      refine w_rdF a' ?_
      rw [show (2 : Int32) * nI R.1 = nI (2 * R.1) from pk_mul 2 _, nI_add (2 * T.1) i, nI_1]
      refine w_leF (by omega) (by omega) (w_crI (nH_1 hg) rfl (by omega) (c' i) ?_)
      rw [nI_add]
      refine w_ctI (nH_1 hh) rfl (by omega) (w_crI (nH_2 hg) rfl (by omega) (rd_ot (by omega) (d' i)) ?_)
      rw [nI_add]
      exact w_ctI (nH_2 hh) rfl (by omega) (ih (i + 1) _ (by omega) ⟨a, b, fun k => rd_ot (by omega) (app_st (F := fun _ => 0) c k), app_st (F := fun _ => 0) (fun k => rd_ot (by omega) (d9 k)), fun k => rd_ot (by omega) (rd_ot (by omega) (e k))⟩ (fr_I2 (fr_I2 hf (Or.inl (by omega))) (Or.inl (by omega))))
  refine e_X7_append ?_
  refine u_X7_append_0 ?_; unfold cm_X7_append_0
  refine w_rdF hy.1 ?_
  rw [show (2 : Int32) * nI T.1 = nI (2 * T.1) from pk_mul 2 _]
  obtain ⟨a, b, c, d, e⟩ := hy
  refine c1 (2 * R.1) 0 y (by omega) ⟨a, b, fun k => ?_, fun k => ?_, e⟩ fr_rf
  · show _ = nI (np_app _ _ _ 0 k)
    rw [app_0]
    exact c k
  · show _ = nI (np_app _ _ _ 0 k)
    rw [app_0]
    exact d k
end CA
end
section
/-! 99zzzzx.conce -/
/-! the class: partOnce, partAll -/
def po_w (P : Nat → Bool) : Nat → Nat → Option Nat
  | 0, _ => none
  | d + 1, w => if P w then some w else po_w P d (w + 1)
def po_in (P : Nat → Nat → Bool) (n d1 v : Nat) (nx : Nat → Option (Nat × Nat)) (q : Option Nat) : Option (Nat × Nat) := match q with
  | some w => some (v, w)
  | none => nx (v + 1)
def po_v (P : Nat → Nat → Bool) (n : Nat) : Nat → Nat → Option (Nat × Nat)
  | 0, _ => none
  | d + 1, v => po_in P n d v (po_v P n d) (po_w (P v) (n - (v + 1)) (v + 1))
def po_P (c : Nat) (S : ow_NP) (v w : Nat) : Bool := decide ((np_rings c S.1).1 v = (np_rings c S.1).1 w ∧ (np_parts c S.1).2 < (np_parts c (np_exchange S v w).1).2)
/-- the first two visits whose exchange parts a part -/
def np_once (c : Nat) (S : ow_NP) : Option (Nat × Nat) := po_v (po_P c S) (2 * c) (2 * c) 0
def np_onceS (S : ow_NP) (q : Option (Nat × Nat)) : ow_NP := match q with
  | none => S
  | some q => np_exchange S q.1 q.2
def cO (h q : Nat) : Prop := cP h q ∨ cR h q ∨ cQ h q
section CO
variable {vl : Nat → Nat} {y : ow_MS} {h : Nat} {T : ow_NT}
theorem u_X7_partOnce_1 {vl : Nat → Nat} {x1 : Int32} {x2 : Int32} {x3 : Int32} {r0 : Nat} {z : ow_MS} {Q : (Int32 × ow_MS) → Prop} (H : Tt (fun K k => cm_X7_partOnce_1 vl K (c_X7_partOnce vl K k) x1 x2 x3 r0 z) Q) : Tt (fun K k => c_X7_partOnce vl K k 1 x1 x2 x3 r0 z) Q := w_un (fun _ _ => rfl) H
theorem u_X7_partOnce_2 {vl : Nat → Nat} {x1 : Int32} {x2 : Int32} {x3 : Int32} {r0 : Nat} {z : ow_MS} {Q : (Int32 × ow_MS) → Prop} (H : Tt (fun K k => cm_X7_partOnce_2 vl K (c_X7_partOnce vl K k) x1 x2 x3 r0 z) Q) : Tt (fun K k => c_X7_partOnce vl K k 2 x1 x2 x3 r0 z) Q := w_un (fun _ _ => rfl) H
theorem u_X7_partOnce_3 {vl : Nat → Nat} {x1 : Int32} {x2 : Int32} {x3 : Int32} {r0 : Nat} {z : ow_MS} {Q : (Int32 × ow_MS) → Prop} (H : Tt (fun K k => cm_X7_partOnce_3 vl K (c_X7_partOnce vl K k) x1 x2 x3 r0 z) Q) : Tt (fun K k => c_X7_partOnce vl K k 3 x1 x2 x3 r0 z) Q := w_un (fun _ _ => rfl) H
theorem e_X7_partOnce {vl : Nat → Nat} {r0 : Nat} {z : ow_MS} {Q : (Int32 × ow_MS) → Prop} (H : Tt (fun K k => c_X7_partOnce vl K k 0 0 0 0 r0 z) Q) : Te (fun K => ce_X7_partOnce vl K r0 z) Q := w_te H
theorem u_X7_partOnce_0 {vl : Nat → Nat} {x1 : Int32} {x2 : Int32} {x3 : Int32} {r0 : Nat} {z : ow_MS} {Q : (Int32 × ow_MS) → Prop} (H : Tt (fun K k => cm_X7_partOnce_0 vl K (c_X7_partOnce vl K k) x1 x2 x3 r0 z) Q) : Tt (fun K k => c_X7_partOnce vl K k 0 x1 x2 x3 r0 z) Q := w_un (fun _ _ => rfl) H
theorem tc_partOnce (hh : nH h) (hy : cAt y h T) (hb : ow_b24 T.2.2.1) (hv : vn T.1 T.2.2.1) (hT : T.1 ≤ 12) : Te (fun K => ce_X7_partOnce vl K h y) (fun r => r.1 = (if (np_once T.1 T.2.2.1).isSome then 1 else 0) ∧ cAt r.2 h (ntS T (np_onceS T.2.2.1 (np_once T.1 T.2.2.1))) ∧ fr (cO h) y r.2) := by
  generalize hA : np_once T.1 T.2.2.1 = A
  let Q : Int32 × ow_MS → Prop := fun r => r.1 = (if A.isSome then 1 else 0) ∧ cAt r.2 h (ntS T (np_onceS T.2.2.1 A)) ∧ fr (cO h) y r.2
  have hN : ∀ k, k < 2 * T.1 → T.2.2.1.1 k < 2 * T.1 := fun k hk => (hv k hk).1
  have hpb : ∀ N, (np_parts T.1 N).2 ≤ 24 := fun N => by
    have := mp_out_le N (2 * T.1) (fun _ => -1) (2 * T.1)
    unfold np_parts
    omega
  have hp0 := hpb T.2.2.1.1
  have k1 : ∀ (d v : Nat) (y1 : ow_MS), v + d = 2 * T.1 → po_v (po_P T.1 T.2.2.1) (2 * T.1) d v = A → cAt y1 h T → rl (2 * T.1) (y1.2.1 (h + 5)) (np_rings T.1 T.2.2.1.1).1 → fr (cO h) y y1 → Tt (fun K t => c_X7_partOnce vl K t 1 (nI (np_parts T.1 T.2.2.1.1).2) (nI v) 0 h y1) Q := by
    intro d
    induction d with
    | zero =>
      intro v y1 hd hP h1 h5 hf
      have hP : none = A := hP
      subst hP
      refine u_X7_partOnce_1 ?_; unfold cm_X7_partOnce_1
      refine w_rdF h1.1 ?_
      rw [show (2 : Int32) * nI T.1 = nI (2 * T.1) from pk_mul 2 _]
      exact w_leT (by omega) (by omega) (w_okZ (Or.inl rfl) (w_some ⟨rfl, h1, hf⟩))
    | succ d ih =>
      intro v y1 hd hP h1 h5 hf
      have hP : po_in (po_P T.1 T.2.2.1) (2 * T.1) d v (po_v (po_P T.1 T.2.2.1) (2 * T.1) d) (po_w (po_P T.1 T.2.2.1 v) (2 * T.1 - (v + 1)) (v + 1)) = A := hP
      have k2 : ∀ (e w : Nat) (y1 : ow_MS), w + e = 2 * T.1 → po_in (po_P T.1 T.2.2.1) (2 * T.1) d v (po_v (po_P T.1 T.2.2.1) (2 * T.1) d) (po_w (po_P T.1 T.2.2.1 v) e w) = A → cAt y1 h T → rl (2 * T.1) (y1.2.1 (h + 5)) (np_rings T.1 T.2.2.1.1).1 → fr (cO h) y y1 → Tt (fun K t => c_X7_partOnce vl K t 2 (nI (np_parts T.1 T.2.2.1.1).2) (nI v) (nI w) h y1) Q := by
        intro e
        induction e with
        | zero =>
          intro w y1 hw hP h1 h5 hf
          refine u_X7_partOnce_2 ?_; unfold cm_X7_partOnce_2
          refine w_rdF h1.1 ?_
          rw [show (2 : Int32) * nI T.1 = nI (2 * T.1) from pk_mul 2 _, nI_1 v]
          exact w_leT (by omega) (by omega) (ih (v + 1) y1 (by omega) hP h1 h5 hf)
        | succ e ihe =>
          intro w y1 hw hP h1 h5 hf
          have hP : po_in (po_P T.1 T.2.2.1) (2 * T.1) d v (po_v (po_P T.1 T.2.2.1) (2 * T.1) d) (if po_P T.1 T.2.2.1 v w then some w else po_w (po_P T.1 T.2.2.1 v) e (w + 1)) = A := hP
          have k3 : ∀ (y1 : ow_MS), po_P T.1 T.2.2.1 v w = false → cAt y1 h T → rl (2 * T.1) (y1.2.1 (h + 5)) (np_rings T.1 T.2.2.1.1).1 → fr (cO h) y y1 → Tt (fun K t => c_X7_partOnce vl K t 3 (nI (np_parts T.1 T.2.2.1.1).2) (nI v) (nI w) h y1) Q := by
            intro y1 hpw h1 h5 hf
            rw [hpw] at hP
            refine u_X7_partOnce_3 ?_; unfold cm_X7_partOnce_3
            rw [nI_1]
            exact ihe (w + 1) y1 (by omega) hP h1 h5 hf
          have hv2 : v < 2 * T.1 := by omega
          have hw2 : w < 2 * T.1 := by omega
          refine u_X7_partOnce_2 ?_; unfold cm_X7_partOnce_2
          refine w_rdF h1.1 ?_
          rw [show (2 : Int32) * nI T.1 = nI (2 * T.1) from pk_mul 2 _]
          refine w_leF (by omega) (by omega) (w_crI (nH_5 hh) rfl (by omega) (h5 v hv2) (w_crI (nH_5 hh) rfl (by omega) (h5 w hw2) (w_if (fun em => ?_) (fun em => ?_))))
          · refine w_cs0 (tc_exchange hh h1 hb (show v < 24 by omega) (show w < 24 by omega)) ?_
            rintro y2 ⟨q1, q2⟩
            have hv' := vn_exchange hv hv2 hw2
            have hb' := b24_exchange hb (show v < 24 by omega) (show w < 24 by omega)
            refine w_cs0 (tc_markParts hh q1 (fun k hk => (hv' k hk).1) hT) ?_
            rintro y3 ⟨r1, r2, r3⟩
            have hpo := (np_parts_of (N := (np_exchange T.2.2.1 v w).1) (fun k hk => (hv' k hk).1) hT (y2.2.1 (h + 6))).2
            have r2 : y3.1 (h + 11) = nI (np_parts T.1 (np_exchange T.2.2.1 v w).1).2 := r2.trans (congrArg nI hpo)
            have hp1 := hpb (np_exchange T.2.2.1 v w).1
            have q3 : cAt y3 h (ntS T (np_exchange T.2.2.1 v w)) := cAt_fr r3 (fun q hq hr => by unfold cP at hq; unfold cQ at hr; omega) q1
            have f3 : fr (cO h) y y3 := fr_tr (fr_tr hf (fr_mono (fun q hq => Or.inl hq) q2)) (fr_mono (fun q hq => Or.inr (Or.inr hq)) r3)
            have e5 : ∀ k, y3.2.1 (h + 5) k = y1.2.1 (h + 5) k := fun k => by
              rw [(r3 _ (fun h9 => by unfold cQ at h9; omega)).2.1, (q2 _ (fun h9 => by unfold cP at h9; omega)).2.1]
            refine w_rdF r2 (w_le (by omega) (by omega) (fun hle => ?_) (fun hgt => ?_))
            · refine w_cs0 (tc_exchange hh q3 hb' (show v < 24 by omega) (show w < 24 by omega)) ?_
              rintro y4 ⟨s1, s2⟩
              have es : np_exchange (np_exchange T.2.2.1 v w) v w = T.2.2.1 := np_exchange_twice hv hv2 hw2
              have s1 : cAt y4 h (ntS T (np_exchange (np_exchange T.2.2.1 v w) v w)) := s1
              rw [es] at s1
              refine k3 y4 ?_ s1 (fun k hk => ?_) (fr_tr f3 (fr_mono (fun q hq => Or.inl hq) s2))
              · exact decide_eq_false (fun h9 => by have := h9.2; omega)
              · rw [(s2 _ (fun h9 => by unfold cP at h9; omega)).2.1, e5]
                exact h5 k hk
            · have hpt : po_P T.1 T.2.2.1 v w = true := decide_eq_true ⟨em, hgt⟩
              rw [hpt] at hP
              have hP : some (v, w) = A := hP
              subst hP
              exact w_okZ (Or.inr rfl) (w_some ⟨rfl, q3, f3⟩)
          · exact k3 y1 (decide_eq_false (fun h9 => em h9.1)) h1 h5 hf
      refine u_X7_partOnce_1 ?_; unfold cm_X7_partOnce_1
      refine w_rdF h1.1 ?_
      rw [show (2 : Int32) * nI T.1 = nI (2 * T.1) from pk_mul 2 _, nI_1]
      exact w_leF (by omega) (by omega) (k2 (2 * T.1 - (v + 1)) (v + 1) y1 (by omega) hP h1 h5 hf)
  refine e_X7_partOnce ?_
  refine u_X7_partOnce_0 ?_; unfold cm_X7_partOnce_0
  refine w_cs0 (tc_markRings hh hy hb hT) ?_
  rintro y1 ⟨a1, a2, a3⟩
  have h1 : cAt y1 h T := cAt_fr a3 (fun q hq hr => by unfold cP at hq; unfold cR at hr; omega) hy
  refine w_cs0 (tc_markParts hh h1 hN hT) ?_
  rintro y2 ⟨b1, b2, b3⟩
  have h2 : cAt y2 h T := cAt_fr b3 (fun q hq hr => by unfold cP at hq; unfold cQ at hr; omega) h1
  have e1 := (np_rings_of (N := T.2.2.1.1) hN (y.2.1 (h + 5))).1
  have e2 := (np_parts_of (N := T.2.2.1.1) hN hT (y1.2.1 (h + 6))).2
  refine w_rdF (b2.trans (congrArg nI e2)) (k1 (2 * T.1) 0 y2 (by omega) hA h2 (fun k hk => ?_) (fr_tr (fr_mono (fun q hq => Or.inr (Or.inl hq)) a3) (fr_mono (fun q hq => Or.inr (Or.inr hq)) b3)))
  rw [(b3 _ (fun h9 => by unfold cQ at h9; omega)).2.1, a1 k]
  exact e1 k hk
end CO
/-- parted d times at most -/
def np_all (c : Nat) : Nat → ow_NP → ow_NP
  | 0, S => S
  | d + 1, S => if (np_once c S).isSome then np_all c d (np_onceS S (np_once c S)) else S
theorem po_w_in {P : Nat → Bool} : ∀ (d w : Nat) {r : Nat}, po_w P d w = some r → w ≤ r ∧ r < w + d
  | 0, _, _, h => by cases h
  | d + 1, w, r, h => by
    have h : (if P w then some w else po_w P d (w + 1)) = some r := h
    split at h
    · injection h with h
      omega
    · have := po_w_in d (w + 1) h
      omega
theorem po_v_in {P : Nat → Nat → Bool} {n : Nat} : ∀ (d v : Nat) {q : Nat × Nat}, v + d ≤ n → po_v P n d v = some q → q.1 < n ∧ q.2 < n
  | 0, _, _, _, h => by cases h
  | d + 1, v, q, hd, h => by
    have h : po_in P n d v (po_v P n d) (po_w (P v) (n - (v + 1)) (v + 1)) = some q := h
    cases e : po_w (P v) (n - (v + 1)) (v + 1) with
    | none =>
      rw [e] at h
      exact po_v_in d (v + 1) (by omega) h
    | some w =>
      rw [e] at h
      have h : some (v, w) = some q := h
      injection h with h
      have := po_w_in _ _ e
      rw [← h]
      show v < n ∧ w < n
      omega
theorem once_vn {c : Nat} {S : ow_NP} (hv : vn c S) : vn c (np_onceS S (np_once c S)) := by
  cases e : np_once c S with
  | none => exact hv
  | some q =>
    have := po_v_in (2 * c) 0 (by omega) e
    exact vn_exchange hv this.1 this.2
theorem once_b24 {c : Nat} {S : ow_NP} (hc : c ≤ 12) (hb : ow_b24 S) : ow_b24 (np_onceS S (np_once c S)) := by
  cases e : np_once c S with
  | none => exact hb
  | some q =>
    have := po_v_in (2 * c) 0 (by omega) e
    exact b24_exchange hb (by omega) (by omega)
section CO2
variable {vl : Nat → Nat} {y : ow_MS} {h : Nat} {T : ow_NT}
theorem u_X7_partAll_1 {vl : Nat → Nat} {x1 : Int32} {r0 : Nat} {z : ow_MS} {Q : ow_MS → Prop} (H : Tt (fun K k => cm_X7_partAll_1 vl K (c_X7_partAll vl K k) x1 r0 z) Q) : Tt (fun K k => c_X7_partAll vl K k 1 x1 r0 z) Q := w_un (fun _ _ => rfl) H
theorem e_X7_partAll {vl : Nat → Nat} {r0 : Nat} {z : ow_MS} {Q : ow_MS → Prop} (H : Tt (fun K k => c_X7_partAll vl K k 0 0 r0 z) Q) : Te (fun K => ce_X7_partAll vl K r0 z) Q := w_te H
theorem u_X7_partAll_0 {vl : Nat → Nat} {x1 : Int32} {r0 : Nat} {z : ow_MS} {Q : ow_MS → Prop} (H : Tt (fun K k => cm_X7_partAll_0 vl K (c_X7_partAll vl K k) x1 r0 z) Q) : Tt (fun K k => c_X7_partAll vl K k 0 x1 r0 z) Q := w_un (fun _ _ => rfl) H
theorem tc_partAll (hh : nH h) (hy : cAt y h T) (hb : ow_b24 T.2.2.1) (hv : vn T.1 T.2.2.1) (hT : T.1 ≤ 12) : Te (fun K => ce_X7_partAll vl K h y) (fun y1 => cAt y1 h (ntS T (np_all T.1 12 T.2.2.1)) ∧ fr (cO h) y y1) := by
  generalize hA : np_all T.1 12 T.2.2.1 = A
  let Q : ow_MS → Prop := fun y1 => cAt y1 h (ntS T A) ∧ fr (cO h) y y1
  have c1 : ∀ (d i : Nat) (S : ow_NP) (y1 : ow_MS), i + d = 12 → np_all T.1 d S = A → cAt y1 h (ntS T S) → ow_b24 S → vn T.1 S → fr (cO h) y y1 → Tt (fun K t => c_X7_partAll vl K t 1 (nI i) h y1) Q := by
    intro d
    induction d with
    | zero =>
      intro i S y1 hi hS h1 _ _ hf
      have hS : S = A := hS
      subst hS
      refine u_X7_partAll_1 ?_; unfold cm_X7_partAll_1
      exact w_leT (a := 12) (by omega) (by omega) (w_some ⟨h1, hf⟩)
    | succ d ih =>
      intro i S y1 hi hS h1 hb1 hv1 hf
      have hS : (if (np_once T.1 S).isSome then np_all T.1 d (np_onceS S (np_once T.1 S)) else S) = A := hS
      refine u_X7_partAll_1 ?_; unfold cm_X7_partAll_1
      refine w_leF (a := 12) (by omega) (by omega) (w_cs1 (tc_partOnce hh h1 hb1 hv1 hT) ?_)
      rintro r y2 ⟨k1, k2, e3⟩
      have m1 : r = (if (np_once T.1 S).isSome then 1 else 0) := k1
      have e2 : cAt y2 h (ntS T (np_onceS S (np_once T.1 S))) := k2
      have b2 := once_b24 (c := T.1) hT hb1
      have v2 := once_vn hv1
      rw [m1, nI_1]
      cases e : np_once T.1 S with
      | none =>
        rw [e] at hS e2
        have hS : S = A := hS
        subst hS
        exact w_ifT rfl (w_some ⟨e2, fr_tr hf e3⟩)
      | some q =>
        rw [e] at hS e2 b2 v2
        exact w_ifF (show ¬ (1 : Int32) = 0 by decide) (ih (i + 1) _ y2 (by omega) hS e2 b2 v2 (fr_tr hf e3))
  refine e_X7_partAll ?_
  refine u_X7_partAll_0 ?_; unfold cm_X7_partAll_0
  exact c1 12 0 T.2.2.1 y (by omega) hA hy hb hv fr_rf
end CO2
end
section
/-! 99zzzzy.coder -/
/-! the class: Coder, the first cells -/
section CK
variable {vl : Nat → Nat} {y : ow_MS} {h : Nat} {T : ow_NT}
theorem an1_c : ∀ v : Fin 24, (nI v.val &&& 1) = nI (v.val % 2) := by decide +kernel
theorem e_X2_firstCell {vl : Nat → Nat} {r0 : Nat} {x1 : Int32} {z : ow_MS} {Q : (Int32 × ow_MS) → Prop} (H : Tt (fun K _ => cm_X2_firstCell_0 vl K x1 r0 z) Q) : Te (fun K => ce_X2_firstCell vl K r0 x1 z) Q := w_te0 H
theorem tc_firstCell {v : Nat} (hh : nH h) (hy : cAt y h T) (hv : v < 24) : Te (fun K => ce_X2_firstCell vl K h (nI v) y) (fun r => r.1 = nI (cd_first T.2.2.2 v) ∧ r.2 = y) := by
  refine e_X2_firstCell ?_; unfold cm_X2_firstCell_0
  rw [shr1v ⟨v, hv⟩, an1_c ⟨v, hv⟩, show (2 : Int32) * nI (v % 2) = nI (2 * (v % 2)) from pk_mul 2 _, show (4 : Int32) + nI (2 * (v % 2)) = nI (4 + 2 * (v % 2)) from nI_add 4 _]
  refine w_crI (nH_3 hh) rfl (by omega) (hy.2.2.2.2 _) (w_if (fun e => w_some ⟨?_, rfl⟩) (fun e => w_some ⟨?_, rfl⟩))
  · show nI (4 + 2 * (v % 2)) + 0 = nI (4 + 2 * (v % 2) + (if T.2.2.2 (v / 2) < 0 then 1 else 0))
    rw [if_neg (Int32.not_lt.mpr e)]
    exact nI_add _ 0
  · show nI (4 + 2 * (v % 2)) + 1 = nI (4 + 2 * (v % 2) + (if T.2.2.2 (v / 2) < 0 then 1 else 0))
    rw [if_pos (Int32.not_le.mp e), nI_1]
theorem first_b {G : Nat → Int32} {v : Nat} : 4 ≤ cd_first G v ∧ cd_first G v ≤ 7 := by
  unfold cd_first
  split <;> omega
/-- the least first cell of the visits below n with mark p -/
def lfc (G P : Nat → Int32) (p : Int32) : Nat → Nat
  | 0 => 8
  | v + 1 => if P v = p then (if cd_first G v < lfc G P p v then cd_first G v else lfc G P p v) else lfc G P p v
theorem lfc_b {G P : Nat → Int32} {p : Int32} : ∀ n, lfc G P p n ≤ 8
  | 0 => Nat.le_refl _
  | v + 1 => by
    have := lfc_b (G := G) (P := P) (p := p) v
    have := first_b (G := G) (v := v)
    show (if P v = p then (if cd_first G v < lfc G P p v then cd_first G v else lfc G P p v) else lfc G P p v) ≤ 8
    split
    · split <;> omega
    · omega
theorem u_X2_leastFirstCell_1 {vl : Nat → Nat} {x1 : Int32} {x2 : Int32} {x3 : Int32} {r0 : Nat} {z : ow_MS} {Q : (Int32 × ow_MS) → Prop} (H : Tt (fun K k => cm_X2_leastFirstCell_1 vl K (c_X2_leastFirstCell vl K k) x1 x2 x3 r0 z) Q) : Tt (fun K k => c_X2_leastFirstCell vl K k 1 x1 x2 x3 r0 z) Q := w_un (fun _ _ => rfl) H
theorem u_X2_leastFirstCell_2 {vl : Nat → Nat} {x1 : Int32} {x2 : Int32} {x3 : Int32} {r0 : Nat} {z : ow_MS} {Q : (Int32 × ow_MS) → Prop} (H : Tt (fun K k => cm_X2_leastFirstCell_2 vl K (c_X2_leastFirstCell vl K k) x1 x2 x3 r0 z) Q) : Tt (fun K k => c_X2_leastFirstCell vl K k 2 x1 x2 x3 r0 z) Q := w_un (fun _ _ => rfl) H
theorem e_X2_leastFirstCell {vl : Nat → Nat} {r0 : Nat} {x1 : Int32} {z : ow_MS} {Q : (Int32 × ow_MS) → Prop} (H : Tt (fun K k => c_X2_leastFirstCell vl K k 0 x1 0 0 r0 z) Q) : Te (fun K => ce_X2_leastFirstCell vl K r0 x1 z) Q := w_te H
theorem u_X2_leastFirstCell_0 {vl : Nat → Nat} {x1 : Int32} {x2 : Int32} {x3 : Int32} {r0 : Nat} {z : ow_MS} {Q : (Int32 × ow_MS) → Prop} (H : Tt (fun K k => cm_X2_leastFirstCell_0 vl K (c_X2_leastFirstCell vl K k) x1 x2 x3 r0 z) Q) : Tt (fun K k => c_X2_leastFirstCell vl K k 0 x1 x2 x3 r0 z) Q := w_un (fun _ _ => rfl) H
theorem tc_leastFirstCell {p : Int32} {P : Nat → Int32} (hh : nH h) (hy : cAt y h T) (hT : T.1 ≤ 12) (h6 : ∀ k, k < 2 * T.1 → y.2.1 (h + 6) k = P k) : Te (fun K => ce_X2_leastFirstCell vl K h p y) (fun r => r.1 = nI (lfc T.2.2.2 P p (2 * T.1)) ∧ r.2 = y) := by
  let Q : Int32 × ow_MS → Prop := fun r => r.1 = nI (lfc T.2.2.2 P p (2 * T.1)) ∧ r.2 = y
  have c1 : ∀ (d v : Nat), v + d = 2 * T.1 → Tt (fun K t => c_X2_leastFirstCell vl K t 1 p (nI (lfc T.2.2.2 P p v)) (nI v) h y) Q := by
    intro d
    induction d with
    | zero =>
      intro v hv
      have e : v = 2 * T.1 := by omega
      subst e
      refine u_X2_leastFirstCell_1 ?_; unfold cm_X2_leastFirstCell_1
      refine w_rdF hy.1 ?_
      rw [show (2 : Int32) * nI T.1 = nI (2 * T.1) from pk_mul 2 _]
      exact w_leT (by omega) (by omega) (w_some ⟨rfl, rfl⟩)
    | succ d ih =>
      intro v hv
      have b1 := lfc_b (G := T.2.2.2) (P := P) (p := p) v
      have b2 := first_b (G := T.2.2.2) (v := v)
      have k2 : ∀ x2 : Int32, x2 = nI (lfc T.2.2.2 P p (v + 1)) → Tt (fun K t => c_X2_leastFirstCell vl K t 2 p x2 (nI v) h y) Q := by
        intro x2 e
        subst e
        refine u_X2_leastFirstCell_2 ?_; unfold cm_X2_leastFirstCell_2
        rw [nI_1]
        exact ih (v + 1) (by omega)
      have eo : lfc T.2.2.2 P p (v + 1) = if P v = p then (if cd_first T.2.2.2 v < lfc T.2.2.2 P p v then cd_first T.2.2.2 v else lfc T.2.2.2 P p v) else lfc T.2.2.2 P p v := rfl
      refine u_X2_leastFirstCell_1 ?_; unfold cm_X2_leastFirstCell_1
      refine w_rdF hy.1 ?_
      rw [show (2 : Int32) * nI T.1 = nI (2 * T.1) from pk_mul 2 _]
      refine w_leF (by omega) (by omega) (w_crI (nH_6 hh) rfl (by omega) (h6 v (by omega)) (w_if (fun e => ?_) (fun e => ?_)))
      · refine w_cs1 (tc_firstCell hh hy (show v < 24 by omega)) ?_
        rintro r y1 ⟨e1, e2⟩
        dsimp only at e1 e2
        subst e1
        subst e2
        refine k2 _ ?_
        rw [eo, if_pos e]
        by_cases h9 : cd_first T.2.2.2 v < lfc T.2.2.2 P p v
        · rw [if_pos h9, if_pos (nI_lt h9 (by omega))]
        · rw [if_neg h9, if_neg (nI_nlt (by omega) (by omega))]
      · refine k2 _ ?_
        rw [eo, if_neg e]
  refine e_X2_leastFirstCell ?_
  refine u_X2_leastFirstCell_0 ?_; unfold cm_X2_leastFirstCell_0
  exact c1 (2 * T.1) 0 (by omega)
end CK
end
section
/-! 99zzzzz.chouse -/
/-! the class: KnotHouse's own small methods -/
/-- every place of the diagrams is empty or holds a code -/
def dgE (y : ow_MS) : Prop := ∀ d, d < 40 → y.2.1 1002 d = 0 ∨ ∃ C, slC y 1000 d C ∧ cOK C ∧ 0 < C.2.length
/-- every place of the braids: strands (0: empty) -/
def brE (y : ow_MS) : Prop := ∀ b, b < 20 → ∃ n, n ≤ 5 ∧ y.2.1 15 b = nI n
def isD (y : ow_MS) (x : Int32) : Prop := ∃ d C, d < 40 ∧ x = nI d ∧ slC y 1000 d C ∧ cOK C ∧ 0 < C.2.length
def isB (y : ow_MS) (x : Int32) : Prop := ∃ b n, b < 20 ∧ x = nI b ∧ y.2.1 15 b = nI n ∧ 1 ≤ n ∧ n ≤ 5
section CH
variable {vl : Nat → Nat} {y : ow_MS} {x : Int32}
theorem ch_15 : ((cX vl).2 15).2.1 = 20 := rfl
theorem ch_1000 : tH 1000 40 := by
  unfold tH tHL
  exact List.mem_cons_self
theorem e_X11_hasDiagram {vl : Nat → Nat} {r0 : Nat} {x1 : Int32} {z : ow_MS} {Q : (Int32 × ow_MS) → Prop} (H : Tt (fun K _ => cm_X11_hasDiagram_0 vl K x1 r0 z) Q) : Te (fun K => ce_X11_hasDiagram vl K r0 x1 z) Q := w_te0 H
theorem tc_hasDiagram (hy : dgE y) : Te (fun K => ce_X11_hasDiagram vl K 0 x y) (fun r => (r.1 = 1 ∧ isD y x ∨ r.1 = 0 ∧ ∀ d, d < 40 → x = nI d → y.2.1 1002 d = 0) ∧ r.2 = y) := by
  refine e_X11_hasDiagram ?_; unfold cm_X11_hasDiagram_0
  refine w_if (fun e => w_okZ (Or.inl rfl) (w_some ⟨Or.inr ⟨rfl, fun d hd ex => ?_⟩, rfl⟩)) (fun e => ?_)
  · rw [ex] at e
    exact absurd e (nI_pos (by omega))
  · obtain ⟨d, d31, rfl⟩ := nI_of e
    refine w_le (a := 40) (by omega) d31 (fun h9 => w_okZ (Or.inl rfl) (w_some ⟨Or.inr ⟨rfl, fun d' hd ex => ?_⟩, rfl⟩)) (fun h9 => ?_)
    · have := (nI_eq d31 (by omega)).mp ex
      omega
    · rcases hy d h9 with h0 | ⟨C, c1, c2, c3⟩
      · refine w_crI (tH_2 ch_1000) rfl h9 h0 (w_ifT (by decide) (w_okZ (Or.inl rfl) (w_some ⟨Or.inr ⟨rfl, fun d' hd ex => ?_⟩, rfl⟩)))
        rw [← (nI_eq d31 (by omega)).mp ex]
        exact h0
      · have := c2.2.1
        exact w_crI (tH_2 ch_1000) rfl h9 c1.2.1 (w_leF (b := 0) (by omega) c3 (w_okZ (Or.inr rfl) (w_some ⟨Or.inl ⟨rfl, d, C, h9, rfl, c1, c2, c3⟩, rfl⟩)))
theorem e_X11_hasBraid {vl : Nat → Nat} {r0 : Nat} {x1 : Int32} {z : ow_MS} {Q : (Int32 × ow_MS) → Prop} (H : Tt (fun K _ => cm_X11_hasBraid_0 vl K x1 r0 z) Q) : Te (fun K => ce_X11_hasBraid vl K r0 x1 z) Q := w_te0 H
theorem tc_hasBraid (hy : brE y) : Te (fun K => ce_X11_hasBraid vl K 0 x y) (fun r => (r.1 = 1 ∧ isB y x ∨ r.1 = 0 ∧ ∀ b, b < 20 → x = nI b → y.2.1 15 b = 0) ∧ r.2 = y) := by
  refine e_X11_hasBraid ?_; unfold cm_X11_hasBraid_0
  refine w_if (fun e => w_okZ (Or.inl rfl) (w_some ⟨Or.inr ⟨rfl, fun d hd ex => ?_⟩, rfl⟩)) (fun e => ?_)
  · rw [ex] at e
    exact absurd e (nI_pos (by omega))
  · obtain ⟨d, d31, rfl⟩ := nI_of e
    refine w_le (a := 20) (by omega) d31 (fun h9 => w_okZ (Or.inl rfl) (w_some ⟨Or.inr ⟨rfl, fun d' hd ex => ?_⟩, rfl⟩)) (fun h9 => ?_)
    · have := (nI_eq d31 (by omega)).mp ex
      omega
    · obtain ⟨n, n5, en⟩ := hy d h9
      refine w_crI ch_15 rfl h9 en (w_le (b := 0) (by omega) (by omega) (fun h0 => w_okZ (Or.inl rfl) (w_some ⟨Or.inr ⟨rfl, fun d' hd ex => ?_⟩, rfl⟩)) (fun h0 => w_okZ (Or.inr rfl) (w_some ⟨Or.inl ⟨rfl, d, n, h9, rfl, en, h0, n5⟩, rfl⟩)))
      rw [← (nI_eq d31 (by omega)).mp ex, en, show n = 0 by omega]
      rfl
theorem e_X11_drop {vl : Nat → Nat} {r0 : Nat} {x1 : Int32} {z : ow_MS} {Q : (Int32 × ow_MS) → Prop} (H : Tt (fun K _ => cm_X11_drop_0 vl K x1 r0 z) Q) : Te (fun K => ce_X11_drop vl K r0 x1 z) Q := w_te0 H
theorem e_X11_dropBraid {vl : Nat → Nat} {r0 : Nat} {x1 : Int32} {z : ow_MS} {Q : (Int32 × ow_MS) → Prop} (H : Tt (fun K _ => cm_X11_dropBraid_0 vl K x1 r0 z) Q) : Te (fun K => ce_X11_dropBraid vl K r0 x1 z) Q := w_te0 H
end CH
end
section
/-! 99zzzzza.cfeed -/
/-! the class: feed, end, free places -/
section CH2
variable {vl : Nat → Nat} {y : ow_MS} {x : Int32}
theorem ch_11002 : ((cX vl).2 11002).2.1 = 400 := rfl
/-- byte i of a number as the tape holds it -/
def bT (x : Int32) (i : Nat) : Int32 := vp_nar .byte ((x >>> ((nI (24 - 8 * i)) &&& 31)).toInt8.toInt32)
def tpP (q : Nat) : Prop := q = 11001 ∨ q = 11002
theorem u_X9_take_1 {vl : Nat → Nat} {x1 : Int32} {x2 : Int32} {r0 : Nat} {z : ow_MS} {Q : ow_MS → Prop} (H : Tt (fun K k => cm_X9_take_1 vl K (c_X9_take vl K k) x1 x2 r0 z) Q) : Tt (fun K k => c_X9_take vl K k 1 x1 x2 r0 z) Q := w_un (fun _ _ => rfl) H
theorem e_X9_take {vl : Nat → Nat} {r0 : Nat} {x1 : Int32} {z : ow_MS} {Q : ow_MS → Prop} (H : Tt (fun K k => c_X9_take vl K k 0 x1 0 r0 z) Q) : Te (fun K => ce_X9_take vl K r0 x1 z) Q := w_te H
theorem u_X9_take_0 {vl : Nat → Nat} {x1 : Int32} {x2 : Int32} {r0 : Nat} {z : ow_MS} {Q : ow_MS → Prop} (H : Tt (fun K k => cm_X9_take_0 vl K (c_X9_take vl K k) x1 x2 r0 z) Q) : Tt (fun K k => c_X9_take vl K k 0 x1 x2 r0 z) Q := w_un (fun _ _ => rfl) H
theorem tc_take {t : Nat} (ht : y.1 11001 = nI t) (h4 : t + 4 ≤ 400) : Te (fun K => ce_X9_take vl K 11000 x y) (fun y1 => y1.1 11001 = nI (t + 4) ∧ (∀ i, i < 4 → y1.2.1 11002 (t + i) = bT x i) ∧ (∀ k, k < t → y1.2.1 11002 k = y.2.1 11002 k) ∧ fr tpP y y1) := by
  let Q : ow_MS → Prop := fun y1 => y1.1 11001 = nI (t + 4) ∧ (∀ i, i < 4 → y1.2.1 11002 (t + i) = bT x i) ∧ (∀ k, k < t → y1.2.1 11002 k = y.2.1 11002 k) ∧ fr tpP y y1
  have c1 : ∀ (d i : Nat) (y1 : ow_MS), i + d = 4 → y1.1 11001 = nI (t + i) → (∀ j, j < i → y1.2.1 11002 (t + j) = bT x j) → (∀ k, k < t → y1.2.1 11002 k = y.2.1 11002 k) → fr tpP y y1 → Tt (fun K k => c_X9_take vl K k 1 x (iI (24 - 8 * (i : Int))) 11000 y1) Q := by
    intro d
    induction d with
    | zero =>
      intro i y1 hi h1 h2 h3 hf
      have e : i = 4 := by omega
      subst e
      refine u_X9_take_1 ?_; unfold cm_X9_take_1
      exact w_ifT (by decide) (w_some ⟨h1, h2, h3, hf⟩)
    | succ d ih =>
      intro i y1 hi h1 h2 h3 hf
      refine u_X9_take_1 ?_; unfold cm_X9_take_1
      rw [show iI (24 - 8 * (i : Int)) + -8 = iI (24 - 8 * ((i + 1 : Nat) : Int)) from by
        rw [show (-8 : Int32) = iI (-8) from rfl, iI_add]
        congr 1
        omega]
      have e24 : iI (24 - 8 * (i : Int)) = nI (24 - 8 * i) := iI_nI (by omega)
      rw [e24]
      refine w_ltF (b := 0) (by omega) (by omega) (w_rdF h1 (w_leF (a := 400) (by omega) (by omega) (w_rdF h1 (w_ctB (i := t + i) ch_11002 rfl (by omega) (w_rdF (x := nI (t + i)) h1 ?_)))))
      rw [nI_1]
      refine w_wrF (ih (i + 1) _ (by omega) po_usF_at (fun j hj => ?_) (fun k hk => ?_) (fr_F2 (fr_I2 hf (Or.inr rfl)) (Or.inl rfl)))
      · by_cases e : j = i
        · rw [e]
          exact po_usI_at
        · exact rd_ne (by omega) (h2 j (by omega))
      · exact rd_ne (by omega) (h3 k hk)
  refine e_X9_take ?_
  refine u_X9_take_0 ?_; unfold cm_X9_take_0
  exact c1 4 0 y (by omega) ht (fun j hj => by omega) (fun k hk => rfl) fr_rf
theorem e_X11_feed {vl : Nat → Nat} {r0 : Nat} {x1 : Int32} {x2 : Int32} {x3 : Int32} {x4 : Int32} {x5 : Int32} {z : ow_MS} {Q : (Nat × Int32 × ow_MS) → Prop} (H : Tt (fun K _ => cm_X11_feed_0 vl K x1 x2 x3 x4 x5 r0 z) Q) : Te (fun K => ce_X11_feed vl K r0 x1 x2 x3 x4 x5 z) Q := w_te0 H
theorem tc_feed {x1 x2 x3 x4 x5 : Int32} {t : Nat} (ht : y.1 11001 = nI t) (h4 : t ≤ 400) : Te (fun K => ce_X11_feed vl K 0 x1 x2 x3 x4 x5 y) (fun r => (t + 20 ≤ 400 ∧ r.1 = 0 ∧ r.2.1 = nI (t + 20) ∧ r.2.2.1 11001 = nI (t + 20) ∧ (∀ i, i < 4 → r.2.2.2.1 11002 (t + i) = bT x1 i ∧ r.2.2.2.1 11002 (t + 4 + i) = bT x2 i ∧ r.2.2.2.1 11002 (t + 8 + i) = bT x3 i ∧ r.2.2.2.1 11002 (t + 12 + i) = bT x4 i ∧ r.2.2.2.1 11002 (t + 16 + i) = bT x5 i) ∧ (∀ k, k < t → r.2.2.2.1 11002 k = y.2.1 11002 k) ∨ 400 < t + 20 ∧ r.1 = 3 ∧ r.2.2 = y) ∧ fr tpP y r.2.2) := by
  refine e_X11_feed ?_; unfold cm_X11_feed_0
  refine w_rdF ht ?_
  rw [show nI t + 20 = nI (t + 20) from nI_add t 20]
  refine w_le (b := 400) (by omega) (by omega) (fun hle => ?_) (fun hgt => w_some ⟨Or.inr ⟨hgt, rfl, rfl⟩, fr_rf⟩)
  refine w_cs0 (tc_take ht (by omega)) ?_
  rintro y1 ⟨a1, a2, a3, a4⟩
  refine w_cs0 (tc_take a1 (by omega)) ?_
  rintro y2 ⟨b1, b2, b3, b4⟩
  refine w_cs0 (tc_take b1 (by omega)) ?_
  rintro y3 ⟨c1, c2, c3, c4⟩
  refine w_cs0 (tc_take c1 (by omega)) ?_
  rintro y4 ⟨d1, d2, d3, d4⟩
  refine w_cs0 (tc_take d1 (by omega)) ?_
  rintro y5 ⟨e1, e2, e3, e4⟩
  refine w_rdF e1 (w_some ⟨Or.inl ⟨hle, rfl, rfl, e1, fun i hi => ⟨?_, ?_, ?_, ?_, ?_⟩, fun k hk => ?_⟩, fr_tr (fr_tr (fr_tr (fr_tr a4 b4) c4) d4) e4⟩)
  · exact (e3 _ (by omega)).trans ((d3 _ (by omega)).trans ((c3 _ (by omega)).trans ((b3 _ (by omega)).trans (a2 i hi))))
  · exact (e3 _ (by omega)).trans ((d3 _ (by omega)).trans ((c3 _ (by omega)).trans (b2 i hi)))
  · exact (e3 _ (by omega)).trans ((d3 _ (by omega)).trans (c2 i hi))
  · exact (e3 _ (by omega)).trans (d2 i hi)
  · exact e2 i hi
  · exact (e3 _ (by omega)).trans ((d3 _ (by omega)).trans ((c3 _ (by omega)).trans ((b3 _ (by omega)).trans (a3 k hk))))
theorem e_X11_end {vl : Nat → Nat} {r0 : Nat} {x1 : Int32} {z : ow_MS} {Q : (Nat × ow_MS) → Prop} (H : Tt (fun K _ => cm_X11_end_0 vl K x1 r0 z) Q) : Te (fun K => ce_X11_end vl K r0 x1 z) Q := w_te0 H
theorem tc_end {t : Nat} (ht : y.1 11001 = nI t) (h4 : t ≤ 400) : Te (fun K => ce_X11_end vl K 0 x y) (fun r => ((∃ u, u ≤ t ∧ x = nI u ∧ r.1 = 0 ∧ r.2.1 11001 = nI u) ∨ (∀ u, u ≤ t → x ≠ nI u) ∧ r.1 = 2 ∧ r.2 = y) ∧ fr (fun q => q = 11001) y r.2) := by
  refine e_X11_end ?_; unfold cm_X11_end_0
  refine w_if (fun e => w_some ⟨Or.inr ⟨fun u hu ex => ?_, rfl, rfl⟩, fr_rf⟩) (fun e => ?_)
  · rw [ex] at e
    exact nI_pos (by omega) e
  · obtain ⟨u, u31, rfl⟩ := nI_of e
    refine w_rdF ht (w_le u31 (by omega) (fun hle => w_wrF (w_some ⟨Or.inl ⟨u, hle, rfl, rfl, po_usF_at⟩, fr_F2 fr_rf rfl⟩)) (fun hgt => w_some ⟨Or.inr ⟨fun v hv ex => ?_, rfl, rfl⟩, fr_rf⟩))
    have := (nI_eq u31 (by omega)).mp ex
    omega
theorem u_X11_freeDiagram_1 {vl : Nat → Nat} {x1 : Int32} {r0 : Nat} {z : ow_MS} {Q : (Nat × Int32 × ow_MS) → Prop} (H : Tt (fun K k => cm_X11_freeDiagram_1 vl K (c_X11_freeDiagram vl K k) x1 r0 z) Q) : Tt (fun K k => c_X11_freeDiagram vl K k 1 x1 r0 z) Q := w_un (fun _ _ => rfl) H
theorem e_X11_freeDiagram {vl : Nat → Nat} {r0 : Nat} {z : ow_MS} {Q : (Nat × Int32 × ow_MS) → Prop} (H : Tt (fun K k => c_X11_freeDiagram vl K k 0 0 r0 z) Q) : Te (fun K => ce_X11_freeDiagram vl K r0 z) Q := w_te H
theorem u_X11_freeDiagram_0 {vl : Nat → Nat} {x1 : Int32} {r0 : Nat} {z : ow_MS} {Q : (Nat × Int32 × ow_MS) → Prop} (H : Tt (fun K k => cm_X11_freeDiagram_0 vl K (c_X11_freeDiagram vl K k) x1 r0 z) Q) : Tt (fun K k => c_X11_freeDiagram vl K k 0 x1 r0 z) Q := w_un (fun _ _ => rfl) H
theorem tc_freeDiagram (hy : dgE y) : Te (fun K => ce_X11_freeDiagram vl K 0 y) (fun r => ((∃ d, d < 40 ∧ r.1 = 0 ∧ r.2.1 = nI d ∧ y.2.1 1002 d = 0 ∧ ∀ e, e < d → y.2.1 1002 e ≠ 0) ∨ r.1 = 3 ∧ ∀ e, e < 40 → y.2.1 1002 e ≠ 0) ∧ r.2.2 = y) := by
  let Q : Nat × Int32 × ow_MS → Prop := fun r => ((∃ d, d < 40 ∧ r.1 = 0 ∧ r.2.1 = nI d ∧ y.2.1 1002 d = 0 ∧ ∀ e, e < d → y.2.1 1002 e ≠ 0) ∨ r.1 = 3 ∧ ∀ e, e < 40 → y.2.1 1002 e ≠ 0) ∧ r.2.2 = y
  have c1 : ∀ (d i : Nat), i + d = 40 → (∀ e, e < i → y.2.1 1002 e ≠ 0) → Tt (fun K k => c_X11_freeDiagram vl K k 1 (nI i) 0 y) Q := by
    intro d
    induction d with
    | zero =>
      intro i hi hn
      refine u_X11_freeDiagram_1 ?_; unfold cm_X11_freeDiagram_1
      exact w_leT (a := 40) (by omega) (by omega) (w_some ⟨Or.inr ⟨rfl, fun e he => hn e (by omega)⟩, rfl⟩)
    | succ d ih =>
      intro i hi hn
      refine u_X11_freeDiagram_1 ?_; unfold cm_X11_freeDiagram_1
      rw [nI_1]
      refine w_leF (a := 40) (by omega) (by omega) (w_crI (x := y.2.1 1002 i) (tH_2 ch_1000) rfl (by omega) rfl (w_if (fun e => w_some ⟨Or.inl ⟨i, by omega, rfl, rfl, e, hn⟩, rfl⟩) (fun e => ih (i + 1) (by omega) (fun j hj => ?_))))
      by_cases ej : j = i
      · rw [ej]
        exact e
      · exact hn j (by omega)
  refine e_X11_freeDiagram ?_
  refine u_X11_freeDiagram_0 ?_; unfold cm_X11_freeDiagram_0
  exact c1 40 0 (by omega) (fun e he => by omega)
theorem u_X11_freeBraid_1 {vl : Nat → Nat} {x1 : Int32} {r0 : Nat} {z : ow_MS} {Q : (Nat × Int32 × ow_MS) → Prop} (H : Tt (fun K k => cm_X11_freeBraid_1 vl K (c_X11_freeBraid vl K k) x1 r0 z) Q) : Tt (fun K k => c_X11_freeBraid vl K k 1 x1 r0 z) Q := w_un (fun _ _ => rfl) H
theorem e_X11_freeBraid {vl : Nat → Nat} {r0 : Nat} {z : ow_MS} {Q : (Nat × Int32 × ow_MS) → Prop} (H : Tt (fun K k => c_X11_freeBraid vl K k 0 0 r0 z) Q) : Te (fun K => ce_X11_freeBraid vl K r0 z) Q := w_te H
theorem u_X11_freeBraid_0 {vl : Nat → Nat} {x1 : Int32} {r0 : Nat} {z : ow_MS} {Q : (Nat × Int32 × ow_MS) → Prop} (H : Tt (fun K k => cm_X11_freeBraid_0 vl K (c_X11_freeBraid vl K k) x1 r0 z) Q) : Tt (fun K k => c_X11_freeBraid vl K k 0 x1 r0 z) Q := w_un (fun _ _ => rfl) H
theorem tc_freeBraid : Te (fun K => ce_X11_freeBraid vl K 0 y) (fun r => ((∃ d, d < 20 ∧ r.1 = 0 ∧ r.2.1 = nI d ∧ y.2.1 15 d = 0 ∧ ∀ e, e < d → y.2.1 15 e ≠ 0) ∨ r.1 = 3 ∧ ∀ e, e < 20 → y.2.1 15 e ≠ 0) ∧ r.2.2 = y) := by
  let Q : Nat × Int32 × ow_MS → Prop := fun r => ((∃ d, d < 20 ∧ r.1 = 0 ∧ r.2.1 = nI d ∧ y.2.1 15 d = 0 ∧ ∀ e, e < d → y.2.1 15 e ≠ 0) ∨ r.1 = 3 ∧ ∀ e, e < 20 → y.2.1 15 e ≠ 0) ∧ r.2.2 = y
  have c1 : ∀ (d i : Nat), i + d = 20 → (∀ e, e < i → y.2.1 15 e ≠ 0) → Tt (fun K k => c_X11_freeBraid vl K k 1 (nI i) 0 y) Q := by
    intro d
    induction d with
    | zero =>
      intro i hi hn
      refine u_X11_freeBraid_1 ?_; unfold cm_X11_freeBraid_1
      exact w_leT (a := 20) (by omega) (by omega) (w_some ⟨Or.inr ⟨rfl, fun e he => hn e (by omega)⟩, rfl⟩)
    | succ d ih =>
      intro i hi hn
      refine u_X11_freeBraid_1 ?_; unfold cm_X11_freeBraid_1
      rw [nI_1]
      refine w_leF (a := 20) (by omega) (by omega) (w_crI (x := y.2.1 15 i) ch_15 rfl (by omega) rfl (w_if (fun e => w_some ⟨Or.inl ⟨i, by omega, rfl, rfl, e, hn⟩, rfl⟩) (fun e => ih (i + 1) (by omega) (fun j hj => ?_))))
      by_cases ej : j = i
      · rw [ej]
        exact e
      · exact hn j (by omega)
  refine e_X11_freeBraid ?_
  refine u_X11_freeBraid_0 ?_; unfold cm_X11_freeBraid_0
  exact c1 20 0 (by omega) (fun e he => by omega)
end CH2
end
section
/-! 99zzzzzb.calike -/
/-! the class: alike, needDiagram, needBraid -/
section CH3
variable {vl : Nat → Nat} {y : ow_MS} {x x' : Int32}
theorem e_X11_alike {vl : Nat → Nat} {r0 : Nat} {x1 : Int32} {x2 : Int32} {z : ow_MS} {Q : (Int32 × ow_MS) → Prop} (H : Tt (fun K _ => cm_X11_alike_0 vl K x1 x2 r0 z) Q) : Te (fun K => ce_X11_alike vl K r0 x1 x2 z) Q := w_te0 H
theorem e_X11_needDiagram {vl : Nat → Nat} {r0 : Nat} {x1 : Int32} {z : ow_MS} {Q : (Nat × ow_MS) → Prop} (H : Tt (fun K _ => cm_X11_needDiagram_0 vl K x1 r0 z) Q) : Te (fun K => ce_X11_needDiagram vl K r0 x1 z) Q := w_te0 H
theorem tc_needDiagram (hy : dgE y) : Te (fun K => ce_X11_needDiagram vl K 0 x y) (fun r => (r.1 = 0 ∧ isD y x ∨ r.1 = 1 ∧ ∀ d, d < 40 → x = nI d → y.2.1 1002 d = 0) ∧ r.2 = y) := by
  refine e_X11_needDiagram ?_; unfold cm_X11_needDiagram_0
  refine w_cs1 (tc_hasDiagram hy) ?_
  rintro v y1 ⟨hv, e2⟩
  dsimp only at hv e2
  subst e2
  rcases hv with ⟨rfl, h1⟩ | ⟨rfl, h1⟩
  · exact w_ifF (by decide) (w_some ⟨Or.inl ⟨rfl, h1⟩, rfl⟩)
  · exact w_ifT rfl (w_some ⟨Or.inr ⟨rfl, h1⟩, rfl⟩)
theorem e_X11_needBraid {vl : Nat → Nat} {r0 : Nat} {x1 : Int32} {z : ow_MS} {Q : (Nat × ow_MS) → Prop} (H : Tt (fun K _ => cm_X11_needBraid_0 vl K x1 r0 z) Q) : Te (fun K => ce_X11_needBraid vl K r0 x1 z) Q := w_te0 H
theorem tc_needBraid (hy : brE y) : Te (fun K => ce_X11_needBraid vl K 0 x y) (fun r => (r.1 = 0 ∧ isB y x ∨ r.1 = 1 ∧ ∀ b, b < 20 → x = nI b → y.2.1 15 b = 0) ∧ r.2 = y) := by
  refine e_X11_needBraid ?_; unfold cm_X11_needBraid_0
  refine w_cs1 (tc_hasBraid hy) ?_
  rintro v y1 ⟨hv, e2⟩
  dsimp only at hv e2
  subst e2
  rcases hv with ⟨rfl, h1⟩ | ⟨rfl, h1⟩
  · exact w_ifF (by decide) (w_some ⟨Or.inl ⟨rfl, h1⟩, rfl⟩)
  · exact w_ifT rfl (w_some ⟨Or.inr ⟨rfl, h1⟩, rfl⟩)
end CH3
end
section
/-! 99zzzzzc.ctry -/
/-! the class: Coder.tryFrom -/
theorem cd_first_lt (G : Nat → Int32) (v : Nat) : 4 ≤ cd_first G v ∧ cd_first G v < 8 := by
  unfold cd_first
  split <;> omega
def tf_rest (G : Nat → Int32) (N : Nat → Nat) (d k : Nat) (P : tf_P) : tf_P := tf_out G N d (tf_look (tf_sep P) ((tf_sep P).names - k) k).1 (tf_look (tf_sep P) ((tf_sep P).names - k) k).2 (tf_sep P)
/-- the cells so far stay -/
def tf_ext (P Q : tf_P) : Prop := P.len ≤ Q.len ∧ ∀ j, j < P.len → Q.T j = P.T j
theorem tf_ext_rf (P : tf_P) : tf_ext P P := ⟨Nat.le_refl _, fun _ _ => rfl⟩
theorem tf_ext_tr {P Q R : tf_P} (h : tf_ext P Q) (k : tf_ext Q R) : tf_ext P R := ⟨Nat.le_trans h.1 k.1, fun j hj => (k.2 j (Nat.lt_of_lt_of_le hj h.1)).trans (h.2 j hj)⟩
theorem tf_vis_ext (G : Nat → Int32) (P : tf_P) (v : Nat) : tf_ext P (tf_vis G P v) := ⟨Nat.le_succ _, fun j hj => nu_ne _ _ (by omega)⟩
theorem tf_sep_ext (P : tf_P) : tf_ext P (tf_sep P) := ⟨Nat.le_succ _, fun j hj => nu_ne _ _ (by omega)⟩
theorem tf_ring_ext (G : Nat → Int32) (N : Nat → Nat) (f : Nat) : ∀ (d v : Nat) (P : tf_P), tf_ext P (tf_ring G N f d v P) := by
  intro d
  induction d with
  | zero => intro v P; exact tf_ext_rf P
  | succ d ih =>
    intro v P
    rw [tf_ring]
    split
    · exact tf_vis_ext G P v
    · exact tf_ext_tr (tf_vis_ext G P v) (ih _ _)
theorem tf_out_ext (G : Nat → Int32) (N : Nat → Nat) : ∀ (d : Nat) (f : Option Nat) (k : Nat) (P : tf_P), tf_ext P (tf_out G N d f k P) := by
  intro d
  induction d with
  | zero => intro f k P; exact tf_ext_rf P
  | succ d ih =>
    intro f k P
    cases f with
    | none => exact tf_ext_rf P
    | some f => exact tf_ext_tr (tf_ext_tr (tf_ring_ext G N f 24 f P) (tf_sep_ext _)) (ih _ _ _)
theorem tf_rest_ext (G : Nat → Int32) (N : Nat → Nat) (d k : Nat) (P : tf_P) : tf_ext (tf_sep P) (tf_rest G N d k P) := tf_out_ext _ _ _ _ _ _
/-- how many places are 0 -/
def cntZ (M : Nat → Nat) : Nat → Nat
  | 0 => 0
  | n + 1 => cntZ M n + (if M n = 0 then 1 else 0)
theorem cntZ_nu {M : Nat → Nat} {j w : Nat} : ∀ n, (j < n → M j = 0 → 0 < w → cntZ (nu M j w) n + 1 = cntZ M n) ∧ (n ≤ j → cntZ (nu M j w) n = cntZ M n) := by
  intro n
  induction n with
  | zero => exact ⟨fun h => absurd h (Nat.not_lt_zero _), fun _ => rfl⟩
  | succ n ih =>
    constructor
    · intro h h0 hw
      show cntZ (nu M j w) n + (if nu M j w n = 0 then 1 else 0) + 1 = cntZ M n + (if M n = 0 then 1 else 0)
      by_cases e : n = j
      · rw [show nu M j w n = w from by rw [e, nu_same], if_neg (by omega), show M n = 0 from by rw [e]; exact h0, if_pos rfl, ih.2 (by omega)]
      · rw [nu_ne _ _ e, ← ih.1 (by omega) h0 hw]; omega
    · intro h
      show cntZ (nu M j w) n + (if nu M j w n = 0 then 1 else 0) = cntZ M n + (if M n = 0 then 1 else 0)
      rw [ih.2 (by omega), nu_ne _ _ (by omega : n ≠ j)]
def tf_ok (P : tf_P) : Prop := (∀ k, P.num k ≤ P.names) ∧ P.names + cntZ P.num 12 ≤ 12 ∧ (∀ k, P.nam k < 12) ∧ P.gone < 2 ^ 24
theorem tf_ok_0 : tf_ok tf_0 := ⟨fun _ => Nat.le_refl 0, by decide, fun _ => Nat.succ_pos 11, by decide⟩
theorem tf_name_ok {P : tf_P} {x : Nat} (h : tf_ok P) (hx : x < 12) : tf_ok (tf_name P x) ∧ 0 < (tf_name P x).num x := by
  unfold tf_name
  split
  · rename_i h0
    have hc := (cntZ_nu (M := P.num) (j := x) (w := P.names + 1) 12).1 hx h0 (Nat.succ_pos _)
    have h2 := h.2.1
    refine ⟨⟨fun k => ?_, ?_, fun k => ?_, h.2.2.2⟩, ?_⟩
    · show (if k = x then P.names + 1 else P.num k) ≤ P.names + 1
      split
      · exact Nat.le_refl _
      · exact Nat.le_succ_of_le (h.1 k)
    · show P.names + 1 + cntZ (nu P.num x (P.names + 1)) 12 ≤ 12
      omega
    · show (if k = P.names then x else P.nam k) < 12
      split
      · exact hx
      · exact h.2.2.1 k
    · show 0 < nu P.num x (P.names + 1) x
      rw [nu_same]; exact Nat.succ_pos _
  · rename_i h0
    exact ⟨h, Nat.pos_of_ne_zero h0⟩
theorem tf_name_lt {P : tf_P} {x : Nat} (h : tf_ok P) (hx : x < 12) (h0 : P.num x = 0) : P.names < 12 := by
  have hc := (cntZ_nu (M := P.num) (j := x) (w := 1) 12).1 hx h0 (Nat.succ_pos _)
  have h2 := h.2.1
  omega
theorem tf_vis_ok {G : Nat → Int32} {P : tf_P} {v : Nat} (h : tf_ok P) (hv : v < 24) : tf_ok (tf_vis G P v) := by
  have hn := (tf_name_ok (x := v / 2) h (by omega)).1
  exact ⟨hn.1, hn.2.1, hn.2.2.1, Nat.or_lt_two_pow h.2.2.2 (Nat.pow_lt_pow_right (by decide) hv)⟩
theorem tf_sep_ok {P : tf_P} (h : tf_ok P) : tf_ok (tf_sep P) := h
theorem tf_ok_le {P : tf_P} (h : tf_ok P) : P.names ≤ 12 := by
  have := h.2.1
  omega
/-- the first cell that differs is less -/
def cd_lt (K B : Nat → Nat) (n : Nat) : Prop := ∃ j, j < n ∧ K j < B j ∧ ∀ i, i < j → K i = B i
theorem cd_lt_no {K B : Nat → Nat} {n k : Nat} (h : ∀ i, i < k → K i = B i) (h2 : n ≤ k ∨ B k < K k) : ¬ cd_lt K B n := by
  intro ⟨j, hj, hlt, hb⟩
  rcases Nat.lt_trichotomy j k with q | q | q
  · have := h j q
    omega
  · rw [q] at hlt hj
    omega
  · have := hb k q
    omega
/-- what 'tied' says -/
def tf_td (B : Nat → Nat) (l0 : Nat) (P : tf_P) (x : Int32) : Prop := (x = 1 ∧ 0 < l0 ∧ ∀ j, j < P.len → P.T j = B j) ∨ (x = 0 ∧ (l0 = 0 ∨ cd_lt P.T B P.len))
theorem cd_lt_up {K Q B : Nat → Nat} {n m : Nat} (h : cd_lt K B n) (hm : n ≤ m) (hq : ∀ j, j < n → Q j = K j) : cd_lt Q B m := by
  obtain ⟨j, hj, hl, hb⟩ := h
  exact ⟨j, Nat.lt_of_lt_of_le hj hm, by rw [hq j hj]; exact hl, fun i hi => (hq i (Nat.lt_trans hi hj)).trans (hb i hi)⟩
theorem tf_td_0 (B : Nat → Nat) {l0 : Nat} (P : tf_P) (h : P.len = 0) : tf_td B l0 P (if 0 < l0 then 1 else 0) := by
  split
  · rename_i q
    exact Or.inl ⟨rfl, q, fun j hj => absurd hj (by omega)⟩
  · exact Or.inr ⟨rfl, Or.inl (by omega)⟩
/-- one cell more: the tie goes on or the row is less -/
theorem tf_td_s {B : Nat → Nat} {l0 : Nat} {P Q : tf_P} {x : Int32} (h : tf_td B l0 P x) (he : tf_ext P Q) (hl : Q.len = P.len + 1) (hn : x = 1 → Q.T P.len ≤ B P.len) : tf_td B l0 Q (if x = 1 ∧ Q.T P.len = B P.len then 1 else 0) := by
  rcases h with ⟨hx, h0, h1⟩ | ⟨hx, h1⟩
  · have hle := hn hx
    by_cases e : Q.T P.len = B P.len
    · rw [if_pos ⟨hx, e⟩]
      refine Or.inl ⟨rfl, h0, fun j hj => ?_⟩
      rcases Nat.lt_or_ge j P.len with q | q
      · rw [he.2 j q]; exact h1 j q
      · have : j = P.len := by omega
        rw [this]; exact e
    · rw [if_neg (fun q => e q.2)]
      exact Or.inr ⟨rfl, Or.inr ⟨P.len, by omega, by omega, fun i hi => (he.2 i hi).trans (h1 i hi)⟩⟩
  · rw [if_neg (fun q => by rw [hx] at q; exact absurd q.1 (by decide))]
    refine Or.inr ⟨rfl, ?_⟩
    rcases h1 with h1 | h1
    · exact Or.inl h1
    · exact Or.inr (cd_lt_up h1 he.1 he.2)
theorem ow_shlb {v : Nat} (hv : v < 24) : (1 : Int32) <<< (nI v &&& 31) = nI (2 ^ v) := by
  have key : ∀ i : Fin 24, (1 : Int32) <<< (nI i.1 &&& 31) = nI (2 ^ i.1) := by decide +kernel
  exact key ⟨v, hv⟩
theorem ow_shrb {n v : Nat} (hn : n < 2 ^ 31) (hv : v < 32) : nI n >>> (nI v &&& 31) = nI (n / 2 ^ v) := by
  have key : ∀ i : Fin 32, ((nI i.1 &&& 31).toBitVec.smod 32).toNat = i.1 := by decide +kernel
  exact pk_shrN hn _ v (key ⟨v, hv⟩)
theorem ow_or {a b : Nat} (ha : a < 2 ^ 32) (hb : b < 2 ^ 32) : nI a ||| nI b = nI (a ||| b) := by
  apply Int32.toBitVec_inj.mp
  apply BitVec.eq_of_toNat_eq
  rw [Int32.toBitVec_or, BitVec.toNat_or, pk_tn ha, pk_tn hb, pk_tn (Nat.or_lt_two_pow ha hb)]
theorem tf_code_pos (G : Nat → Int32) (N : Nat → Nat) (v : Nat) : 0 < (tf_code G N v).len := Nat.lt_of_lt_of_le (Nat.succ_pos _) (tf_rest_ext G N 23 0 (tf_ring G N v 24 v tf_0)).1
/-- the two coders -/
def kH (k : Nat) : Prop := k = 7000 ∨ k = 20000
theorem kH_4 {vl : Nat → Nat} {k : Nat} (h : kH k) : ((cX vl).2 (k + 4)).2.1 = 48 := by
  rcases h with rfl | rfl <;> rfl
theorem kH_5 {vl : Nat → Nat} {k : Nat} (h : kH k) : ((cX vl).2 (k + 5)).2.1 = 12 := by
  rcases h with rfl | rfl <;> rfl
theorem kH_6 {vl : Nat → Nat} {k : Nat} (h : kH k) : ((cX vl).2 (k + 6)).2.1 = 12 := by
  rcases h with rfl | rfl <;> rfl
theorem kH_out {k : Nat} (h : kH k) : tH (k + 1000) 1 := by
  rcases h with rfl | rfl <;> (unfold tH; decide)
theorem kH_one {k : Nat} (h : kH k) : tH (k + 2000) 1 := by
  rcases h with rfl | rfl <;> (unfold tH; decide)
theorem kH_sort {k : Nat} (h : kH k) : tH (k + 3000) 12 := by
  rcases h with rfl | rfl <;> (unfold tH; decide)
theorem kH_dj {k h : Nat} (hk : kH k) (hh : nH h) : h + 12 ≤ k ∨ k + 3012 ≤ h := by
  rcases hk with rfl | rfl
  · exact nH_all (P := fun h => h + 12 ≤ 7000 ∨ 7000 + 3012 ≤ h) (by decide) hh
  · exact nH_all (P := fun h => h + 12 ≤ 20000 ∨ 20000 + 3012 ≤ h) (by decide) hh
def tfP (k g : Nat) : Prop := k + 4 ≤ g ∧ g ≤ k + 6
theorem cell64 {G : Nat → Int32} {P : tf_P} {v : Nat} (h : tf_ok P) (hv : v < 24) : tf_cell G P v < 64 := by
  have hn := (tf_name_ok (x := v / 2) h (by omega)).1
  have h1 := hn.1 (v / 2)
  have h2 := hn.2.1
  have h3 := first_b (G := G) (v := v)
  unfold tf_cell
  omega
theorem i2b64 : ∀ w : Fin 64, vp_nar .byte (nI w.1).toInt8.toInt32 = nI w.1 ∧ (nI w.1).toInt8.toInt32 = nI w.1 := by decide +kernel
theorem gbit {g v : Nat} (hg : g < 2 ^ 24) (hv : v < 24) : (nI g >>> (nI v &&& 31)) &&& 1 = nI (g / 2 ^ v % 2) := by
  have hq : g / 2 ^ v < 2 ^ 24 := Nat.lt_of_le_of_lt (Nat.div_le_self _ _) hg
  rw [ow_shrb (by omega) (by omega)]
  apply Int32.toBitVec_inj.mp
  apply BitVec.eq_of_toNat_eq
  rw [Int32.toBitVec_and, BitVec.toNat_and, pk_tn (by omega), pk_tn (by omega)]
  exact Nat.and_one_is_mod _
section CT
variable {vl : Nat → Nat} {y : ow_MS} {h k : Nat} {T : ow_NT}
theorem u_J7_fill_53178_1 {vl : Nat → Nat} {x1 : Int32} {x2 : Int32} {x3 : Int32} {r0 : Nat} {z : ow_MS} {Q : ow_MS → Prop} (H : Tt (fun K k => cm_J7_fill_53178_1 vl K (c_J7_fill_53178 vl K k) x1 x2 x3 r0 z) Q) : Tt (fun K k => c_J7_fill_53178 vl K k 1 x1 x2 x3 r0 z) Q := w_un (fun _ _ => rfl) H
theorem e_J7_fill_53178 {vl : Nat → Nat} {r0 : Nat} {x1 : Int32} {z : ow_MS} {Q : ow_MS → Prop} (H : Tt (fun K k => c_J7_fill_53178 vl K k 0 x1 0 0 r0 z) Q) : Te (fun K => ce_J7_fill_53178 vl K r0 x1 z) Q := w_te H
theorem u_J7_fill_53178_0 {vl : Nat → Nat} {x1 : Int32} {x2 : Int32} {x3 : Int32} {r0 : Nat} {z : ow_MS} {Q : ow_MS → Prop} (H : Tt (fun K k => cm_J7_fill_53178_0 vl K (c_J7_fill_53178 vl K k) x1 x2 x3 r0 z) Q) : Tt (fun K k => c_J7_fill_53178 vl K k 0 x1 x2 x3 r0 z) Q := w_un (fun _ _ => rfl) H
theorem tc_fillA {g l : Nat} {x : Int32} (hL : ((cX vl).2 g).2.1 = l) (hl : l < 2 ^ 31) : Te (fun K => ce_J7_fill_53178 vl K g x y) (fun y1 => (∀ j, j < l → y1.2.1 g j = x) ∧ fr (fun q => q = g) y y1) := by
  let Q : ow_MS → Prop := fun y1 => (∀ j, j < l → y1.2.1 g j = x) ∧ fr (fun q => q = g) y y1
  have c1 : ∀ (d i : Nat) (y1 : ow_MS), i + d = l → (∀ j, j < i → y1.2.1 g j = x) → fr (fun q => q = g) y y1 → Tt (fun K t => c_J7_fill_53178 vl K t 1 x (nI i) (nI l) g y1) Q := by
    intro d
    induction d with
    | zero =>
      intro i y1 hi h1 h2
      refine u_J7_fill_53178_1 ?_; unfold cm_J7_fill_53178_1
      exact w_leT (by omega) (by omega) (w_some ⟨fun j hj => h1 j (by omega), h2⟩)
    | succ d ih =>
      intro i y1 hi h1 h2
      refine u_J7_fill_53178_1 ?_; unfold cm_J7_fill_53178_1
      refine w_leF (by omega) (by omega) (w_ctI hL rfl (by omega) ?_)
      rw [nI_1]
      refine ih (i + 1) _ (by omega) (fun j hj => ?_) (fr_I2 h2 rfl)
      by_cases e : j = i
      · rw [e]; exact po_usI_at
      · exact rd_ne e (h1 j (by omega))
  refine e_J7_fill_53178 ?_
  refine u_J7_fill_53178_0 ?_; unfold cm_J7_fill_53178_0
  rw [show uw_len (cX vl) y g = l from hL]
  exact c1 l 0 y (by omega) (fun j hj => absurd hj (by omega)) fr_rf
/-- the rows of a coder while it goes on -/
def tfS (y : ow_MS) (k : Nat) (z : ow_MS) (P : tf_P) : Prop := (∀ x, x < 12 → z.2.1 (k + 5) x = nI (P.num x)) ∧ (∀ j, j < P.names → z.2.1 (k + 6) j = nI (P.nam j)) ∧ (∀ j, j < P.len → z.2.1 (k + 4) j = nI (P.T j)) ∧ fr (tfP k) y z
def tfR (y : ow_MS) (k : Nat) (C : tf_P) (B : Nat → Nat) (l0 : Nat) (r : Int32 × ow_MS) : Prop := fr (tfP k) y r.2 ∧ ((r.1 = nI C.len ∧ (∀ j, j < C.len → r.2.2.1 (k + 4) j = nI (C.T j)) ∧ (l0 = 0 ∨ cd_lt C.T B C.len)) ∨ (r.1 = 0 ∧ 0 < l0 ∧ ¬ cd_lt C.T B C.len))
def oNI : Option Nat → Int32
  | none => -1
  | some f => nI f
theorem tf_look_b {P : tf_P} (hn : ∀ j, P.nam j < 12) : ∀ (d j f : Nat), (tf_look P d j).1 = some f → f < 24
  | 0, j, f => fun e => by cases e
  | d + 1, j, f => by
    have := hn j
    rw [tf_look]
    split
    · intro e; cases e; omega
    · split
      · intro e; cases e; omega
      · exact tf_look_b hn d (j + 1) f
theorem u_X2_tryFrom_14 {vl : Nat → Nat} {x2 : Int32} {x4 : Int32} {x5 : Int32} {x6 : Int32} {x7 : Int32} {x8 : Int32} {x9 : Int32} {x10 : Int32} {x11 : Int32} {x12 : Int32} {x13 : Int32} {x14 : Int32} {r0 : Nat} {r1 : Nat} {r3 : Nat} {t0 : Int32} {z : ow_MS} {Q : (Int32 × ow_MS) → Prop} (H : Tt (fun K k => cm_X2_tryFrom_14 vl K (c_X2_tryFrom vl K k) x2 x4 x5 x6 x7 x8 x9 x10 x11 x12 x13 x14 r0 r1 r3 t0 z) Q) : Tt (fun K k => c_X2_tryFrom vl K k 14 x2 x4 x5 x6 x7 x8 x9 x10 x11 x12 x13 x14 r0 r1 r3 t0 z) Q := w_un (fun _ _ => rfl) H
theorem u_X2_tryFrom_2 {vl : Nat → Nat} {x2 : Int32} {x4 : Int32} {x5 : Int32} {x6 : Int32} {x7 : Int32} {x8 : Int32} {x9 : Int32} {x10 : Int32} {x11 : Int32} {x12 : Int32} {x13 : Int32} {x14 : Int32} {r0 : Nat} {r1 : Nat} {r3 : Nat} {t0 : Int32} {z : ow_MS} {Q : (Int32 × ow_MS) → Prop} (H : Tt (fun K k => cm_X2_tryFrom_2 vl K (c_X2_tryFrom vl K k) x2 x4 x5 x6 x7 x8 x9 x10 x11 x12 x13 x14 r0 r1 r3 t0 z) Q) : Tt (fun K k => c_X2_tryFrom vl K k 2 x2 x4 x5 x6 x7 x8 x9 x10 x11 x12 x13 x14 r0 r1 r3 t0 z) Q := w_un (fun _ _ => rfl) H
theorem u_X2_tryFrom_11 {vl : Nat → Nat} {x2 : Int32} {x4 : Int32} {x5 : Int32} {x6 : Int32} {x7 : Int32} {x8 : Int32} {x9 : Int32} {x10 : Int32} {x11 : Int32} {x12 : Int32} {x13 : Int32} {x14 : Int32} {r0 : Nat} {r1 : Nat} {r3 : Nat} {t0 : Int32} {z : ow_MS} {Q : (Int32 × ow_MS) → Prop} (H : Tt (fun K k => cm_X2_tryFrom_11 vl K (c_X2_tryFrom vl K k) x2 x4 x5 x6 x7 x8 x9 x10 x11 x12 x13 x14 r0 r1 r3 t0 z) Q) : Tt (fun K k => c_X2_tryFrom vl K k 11 x2 x4 x5 x6 x7 x8 x9 x10 x11 x12 x13 x14 r0 r1 r3 t0 z) Q := w_un (fun _ _ => rfl) H
theorem u_X2_tryFrom_13 {vl : Nat → Nat} {x2 : Int32} {x4 : Int32} {x5 : Int32} {x6 : Int32} {x7 : Int32} {x8 : Int32} {x9 : Int32} {x10 : Int32} {x11 : Int32} {x12 : Int32} {x13 : Int32} {x14 : Int32} {r0 : Nat} {r1 : Nat} {r3 : Nat} {t0 : Int32} {z : ow_MS} {Q : (Int32 × ow_MS) → Prop} (H : Tt (fun K k => cm_X2_tryFrom_13 vl K (c_X2_tryFrom vl K k) x2 x4 x5 x6 x7 x8 x9 x10 x11 x12 x13 x14 r0 r1 r3 t0 z) Q) : Tt (fun K k => c_X2_tryFrom vl K k 13 x2 x4 x5 x6 x7 x8 x9 x10 x11 x12 x13 x14 r0 r1 r3 t0 z) Q := w_un (fun _ _ => rfl) H
theorem u_X2_tryFrom_12 {vl : Nat → Nat} {x2 : Int32} {x4 : Int32} {x5 : Int32} {x6 : Int32} {x7 : Int32} {x8 : Int32} {x9 : Int32} {x10 : Int32} {x11 : Int32} {x12 : Int32} {x13 : Int32} {x14 : Int32} {r0 : Nat} {r1 : Nat} {r3 : Nat} {t0 : Int32} {z : ow_MS} {Q : (Int32 × ow_MS) → Prop} (H : Tt (fun K k => cm_X2_tryFrom_12 vl K (c_X2_tryFrom vl K k) x2 x4 x5 x6 x7 x8 x9 x10 x11 x12 x13 x14 r0 r1 r3 t0 z) Q) : Tt (fun K k => c_X2_tryFrom vl K k 12 x2 x4 x5 x6 x7 x8 x9 x10 x11 x12 x13 x14 r0 r1 r3 t0 z) Q := w_un (fun _ _ => rfl) H
theorem u_X2_tryFrom_10 {vl : Nat → Nat} {x2 : Int32} {x4 : Int32} {x5 : Int32} {x6 : Int32} {x7 : Int32} {x8 : Int32} {x9 : Int32} {x10 : Int32} {x11 : Int32} {x12 : Int32} {x13 : Int32} {x14 : Int32} {r0 : Nat} {r1 : Nat} {r3 : Nat} {t0 : Int32} {z : ow_MS} {Q : (Int32 × ow_MS) → Prop} (H : Tt (fun K k => cm_X2_tryFrom_10 vl K (c_X2_tryFrom vl K k) x2 x4 x5 x6 x7 x8 x9 x10 x11 x12 x13 x14 r0 r1 r3 t0 z) Q) : Tt (fun K k => c_X2_tryFrom vl K k 10 x2 x4 x5 x6 x7 x8 x9 x10 x11 x12 x13 x14 r0 r1 r3 t0 z) Q := w_un (fun _ _ => rfl) H
theorem u_X2_tryFrom_9 {vl : Nat → Nat} {x2 : Int32} {x4 : Int32} {x5 : Int32} {x6 : Int32} {x7 : Int32} {x8 : Int32} {x9 : Int32} {x10 : Int32} {x11 : Int32} {x12 : Int32} {x13 : Int32} {x14 : Int32} {r0 : Nat} {r1 : Nat} {r3 : Nat} {t0 : Int32} {z : ow_MS} {Q : (Int32 × ow_MS) → Prop} (H : Tt (fun K k => cm_X2_tryFrom_9 vl K (c_X2_tryFrom vl K k) x2 x4 x5 x6 x7 x8 x9 x10 x11 x12 x13 x14 r0 r1 r3 t0 z) Q) : Tt (fun K k => c_X2_tryFrom vl K k 9 x2 x4 x5 x6 x7 x8 x9 x10 x11 x12 x13 x14 r0 r1 r3 t0 z) Q := w_un (fun _ _ => rfl) H
theorem u_X2_tryFrom_8 {vl : Nat → Nat} {x2 : Int32} {x4 : Int32} {x5 : Int32} {x6 : Int32} {x7 : Int32} {x8 : Int32} {x9 : Int32} {x10 : Int32} {x11 : Int32} {x12 : Int32} {x13 : Int32} {x14 : Int32} {r0 : Nat} {r1 : Nat} {r3 : Nat} {t0 : Int32} {z : ow_MS} {Q : (Int32 × ow_MS) → Prop} (H : Tt (fun K k => cm_X2_tryFrom_8 vl K (c_X2_tryFrom vl K k) x2 x4 x5 x6 x7 x8 x9 x10 x11 x12 x13 x14 r0 r1 r3 t0 z) Q) : Tt (fun K k => c_X2_tryFrom vl K k 8 x2 x4 x5 x6 x7 x8 x9 x10 x11 x12 x13 x14 r0 r1 r3 t0 z) Q := w_un (fun _ _ => rfl) H
theorem u_X2_tryFrom_3 {vl : Nat → Nat} {x2 : Int32} {x4 : Int32} {x5 : Int32} {x6 : Int32} {x7 : Int32} {x8 : Int32} {x9 : Int32} {x10 : Int32} {x11 : Int32} {x12 : Int32} {x13 : Int32} {x14 : Int32} {r0 : Nat} {r1 : Nat} {r3 : Nat} {t0 : Int32} {z : ow_MS} {Q : (Int32 × ow_MS) → Prop} (H : Tt (fun K k => cm_X2_tryFrom_3 vl K (c_X2_tryFrom vl K k) x2 x4 x5 x6 x7 x8 x9 x10 x11 x12 x13 x14 r0 r1 r3 t0 z) Q) : Tt (fun K k => c_X2_tryFrom vl K k 3 x2 x4 x5 x6 x7 x8 x9 x10 x11 x12 x13 x14 r0 r1 r3 t0 z) Q := w_un (fun _ _ => rfl) H
theorem u_X2_tryFrom_7 {vl : Nat → Nat} {x2 : Int32} {x4 : Int32} {x5 : Int32} {x6 : Int32} {x7 : Int32} {x8 : Int32} {x9 : Int32} {x10 : Int32} {x11 : Int32} {x12 : Int32} {x13 : Int32} {x14 : Int32} {r0 : Nat} {r1 : Nat} {r3 : Nat} {t0 : Int32} {z : ow_MS} {Q : (Int32 × ow_MS) → Prop} (H : Tt (fun K k => cm_X2_tryFrom_7 vl K (c_X2_tryFrom vl K k) x2 x4 x5 x6 x7 x8 x9 x10 x11 x12 x13 x14 r0 r1 r3 t0 z) Q) : Tt (fun K k => c_X2_tryFrom vl K k 7 x2 x4 x5 x6 x7 x8 x9 x10 x11 x12 x13 x14 r0 r1 r3 t0 z) Q := w_un (fun _ _ => rfl) H
theorem u_X2_tryFrom_6 {vl : Nat → Nat} {x2 : Int32} {x4 : Int32} {x5 : Int32} {x6 : Int32} {x7 : Int32} {x8 : Int32} {x9 : Int32} {x10 : Int32} {x11 : Int32} {x12 : Int32} {x13 : Int32} {x14 : Int32} {r0 : Nat} {r1 : Nat} {r3 : Nat} {t0 : Int32} {z : ow_MS} {Q : (Int32 × ow_MS) → Prop} (H : Tt (fun K k => cm_X2_tryFrom_6 vl K (c_X2_tryFrom vl K k) x2 x4 x5 x6 x7 x8 x9 x10 x11 x12 x13 x14 r0 r1 r3 t0 z) Q) : Tt (fun K k => c_X2_tryFrom vl K k 6 x2 x4 x5 x6 x7 x8 x9 x10 x11 x12 x13 x14 r0 r1 r3 t0 z) Q := w_un (fun _ _ => rfl) H
theorem u_X2_tryFrom_5 {vl : Nat → Nat} {x2 : Int32} {x4 : Int32} {x5 : Int32} {x6 : Int32} {x7 : Int32} {x8 : Int32} {x9 : Int32} {x10 : Int32} {x11 : Int32} {x12 : Int32} {x13 : Int32} {x14 : Int32} {r0 : Nat} {r1 : Nat} {r3 : Nat} {t0 : Int32} {z : ow_MS} {Q : (Int32 × ow_MS) → Prop} (H : Tt (fun K k => cm_X2_tryFrom_5 vl K (c_X2_tryFrom vl K k) x2 x4 x5 x6 x7 x8 x9 x10 x11 x12 x13 x14 r0 r1 r3 t0 z) Q) : Tt (fun K k => c_X2_tryFrom vl K k 5 x2 x4 x5 x6 x7 x8 x9 x10 x11 x12 x13 x14 r0 r1 r3 t0 z) Q := w_un (fun _ _ => rfl) H
theorem u_X2_tryFrom_4 {vl : Nat → Nat} {x2 : Int32} {x4 : Int32} {x5 : Int32} {x6 : Int32} {x7 : Int32} {x8 : Int32} {x9 : Int32} {x10 : Int32} {x11 : Int32} {x12 : Int32} {x13 : Int32} {x14 : Int32} {r0 : Nat} {r1 : Nat} {r3 : Nat} {t0 : Int32} {z : ow_MS} {Q : (Int32 × ow_MS) → Prop} (H : Tt (fun K k => cm_X2_tryFrom_4 vl K (c_X2_tryFrom vl K k) x2 x4 x5 x6 x7 x8 x9 x10 x11 x12 x13 x14 r0 r1 r3 t0 z) Q) : Tt (fun K k => c_X2_tryFrom vl K k 4 x2 x4 x5 x6 x7 x8 x9 x10 x11 x12 x13 x14 r0 r1 r3 t0 z) Q := w_un (fun _ _ => rfl) H
theorem e_X2_tryFrom {vl : Nat → Nat} {r0 : Nat} {r1 : Nat} {x2 : Int32} {z : ow_MS} {Q : (Int32 × ow_MS) → Prop} (H : Tt (fun K k => c_X2_tryFrom vl K k 0 x2 0 0 0 0 0 0 0 0 0 0 0 r0 r1 0 0 z) Q) : Te (fun K => ce_X2_tryFrom vl K r0 r1 x2 z) Q := w_te H
theorem u_X2_tryFrom_0 {vl : Nat → Nat} {x2 : Int32} {x4 : Int32} {x5 : Int32} {x6 : Int32} {x7 : Int32} {x8 : Int32} {x9 : Int32} {x10 : Int32} {x11 : Int32} {x12 : Int32} {x13 : Int32} {x14 : Int32} {r0 : Nat} {r1 : Nat} {r3 : Nat} {t0 : Int32} {z : ow_MS} {Q : (Int32 × ow_MS) → Prop} (H : Tt (fun K k => cm_X2_tryFrom_0 vl K (c_X2_tryFrom vl K k) x2 x4 x5 x6 x7 x8 x9 x10 x11 x12 x13 x14 r0 r1 r3 t0 z) Q) : Tt (fun K k => c_X2_tryFrom vl K k 0 x2 x4 x5 x6 x7 x8 x9 x10 x11 x12 x13 x14 r0 r1 r3 t0 z) Q := w_un (fun _ _ => rfl) H
theorem u_X2_tryFrom_1 {vl : Nat → Nat} {x2 : Int32} {x4 : Int32} {x5 : Int32} {x6 : Int32} {x7 : Int32} {x8 : Int32} {x9 : Int32} {x10 : Int32} {x11 : Int32} {x12 : Int32} {x13 : Int32} {x14 : Int32} {r0 : Nat} {r1 : Nat} {r3 : Nat} {t0 : Int32} {z : ow_MS} {Q : (Int32 × ow_MS) → Prop} (H : Tt (fun K k => cm_X2_tryFrom_1 vl K (c_X2_tryFrom vl K k) x2 x4 x5 x6 x7 x8 x9 x10 x11 x12 x13 x14 r0 r1 r3 t0 z) Q) : Tt (fun K k => c_X2_tryFrom vl K k 1 x2 x4 x5 x6 x7 x8 x9 x10 x11 x12 x13 x14 r0 r1 r3 t0 z) Q := w_un (fun _ _ => rfl) H
theorem tc_tryFrom {B : Nat → Nat} {l0 v0 : Nat} (hk : kH k) (hh : nH h) (hy : cAt y h T) (hb : ow_b24 T.2.2.1) (hv0 : v0 < 24) (h30 : (tf_code T.2.2.2 T.2.2.1.1 v0).len ≤ 30) (hl0 : l0 ≤ 30) (hL : y.2.1 (k + 2002) 0 = nI l0) (hl1 : l0 = 0 ∨ l0 = (tf_code T.2.2.2 T.2.2.1.1 v0).len) (hB : ∀ j, j < l0 → y.2.1 (k + 2001) j = nI (B j)) (hB64 : ∀ j, B j < 64) : Te (fun K => ce_X2_tryFrom vl K k h (nI v0) y) (tfR y k (tf_code T.2.2.2 T.2.2.1.1 v0) B l0) := by
  have hdj := kH_dj hk hh
  have hcA : ∀ z, fr (tfP k) y z → cAt z h T := fun z hf => cAt_fr hf (fun g hg hq => by unfold cP at hg; unfold tfP at hq; omega) hy
  have hbA : ∀ z, fr (tfP k) y z → ∀ j, j < l0 → z.2.1 (k + 2001) j = nI (B j) := by
    intro z hf j hj
    rw [(hf (k + 2001) (by unfold tfP; omega)).2.1]
    exact hB j hj
  generalize hC : tf_code T.2.2.2 T.2.2.1.1 v0 = C at *
  let G := T.2.2.2
  let N := T.2.2.1.1
  let Q := tfR y k C B l0
  -- the end
  have c14 : ∀ (z : ow_MS) (x4 x6 x7 x9 x10 : Int32) (names : Nat), tfS y k z C → tf_td B l0 C x4 → Tt (fun K t => c_X2_tryFrom vl K t 14 (nI v0) x4 (nI names) x6 x7 (nI C.len) x9 x10 0 0 0 0 k h (k + 2000 + 1) 0 z) Q := by
    intro z x4 x6 x7 x9 x10 names hs ht
    refine u_X2_tryFrom_14 ?_; unfold cm_X2_tryFrom_14
    refine w_if (fun e => w_some ⟨hs.2.2.2, Or.inl ⟨rfl, hs.2.2.1, ?_⟩⟩) (fun e => w_some ⟨hs.2.2.2, Or.inr ⟨rfl, ?_, ?_⟩⟩)
    · rcases ht with ⟨h1, h2, h3⟩ | ⟨h1, h2⟩
      · exact absurd (h1.symm.trans e) (by decide)
      · exact h2
    · rcases ht with ⟨h1, h2, h3⟩ | ⟨h1, h2⟩
      · exact h2
      · exact absurd h1 e
    · rcases ht with ⟨h1, h2, h3⟩ | ⟨h1, h2⟩
      · exact cd_lt_no (k := C.len) h3 (Or.inl (Nat.le_refl _))
      · exact absurd h1 e
  -- what one outer step asks
  have c2 : ∀ (D i : Nat), i + D = 24 → ∀ (fo : Option Nat) (kk : Nat) (P : tf_P) (z : ow_MS) (x4 : Int32), tf_ok P → kk ≤ P.names → (∀ f, fo = some f → f < 24) → C = tf_out G N D fo kk P → tfS y k z P → tf_td B l0 P x4 → Tt (fun K t => c_X2_tryFrom vl K t 2 (nI v0) x4 (nI P.names) (nI kk) (nI P.gone) (nI P.len) (oNI fo) (nI i) 0 0 0 0 k h (k + 2000 + 1) 0 z) Q := by
    intro D
    induction D with
    | zero =>
      intro i hi fo kk P z x4 hok hkk hf hCe hs ht
      have e : C = P := hCe
      rw [← e] at hs ht ⊢
      refine u_X2_tryFrom_2 ?_; unfold cm_X2_tryFrom_2
      exact w_leT (a := 24) (by omega) (by omega) (c14 _ _ _ _ _ _ _ hs ht)
    | succ D ihD =>
      intro i hi fo kk P z x4 hok hkk hf hCe hs ht
      cases fo with
      | none =>
        have e : C = P := hCe
        rw [← e] at hs ht ⊢
        refine u_X2_tryFrom_2 ?_; unfold cm_X2_tryFrom_2
        exact w_leF (a := 24) (by omega) (by omega) (w_ifT rfl (c14 _ _ _ _ _ _ _ hs ht))
      | some f =>
        have hf24 := hf f rfl
        have hCe' : C = tf_rest G N D kk (tf_ring G N f 24 f P) := hCe
        -- looking on
        have c11 : ∀ (d j : Nat) (P1 : tf_P) (z1 : ow_MS) (t1 x11 x12 : Int32), j + d = P1.names → tf_ok P1 → (C = tf_out G N D (tf_look P1 d j).1 (tf_look P1 d j).2 P1) → tfS y k z1 P1 → tf_td B l0 P1 t1 → Tt (fun K t => c_X2_tryFrom vl K t 11 (nI v0) t1 (nI P1.names) (nI j) (nI P1.gone) (nI P1.len) (-1) (nI i) x11 x12 0 0 k h (k + 2000 + 1) 0 z1) Q := by
          intro d
          induction d with
          | zero =>
            intro j P1 z1 t1 x11 x12 hj hok1 hc1 hs1 ht1
            have h12 := tf_ok_le hok1
            refine u_X2_tryFrom_11 ?_; unfold cm_X2_tryFrom_11
            refine w_leT (by omega) (by omega) ?_
            refine u_X2_tryFrom_13 ?_; unfold cm_X2_tryFrom_13
            rw [nI_1]
            exact ihD (i + 1) (by omega) none j P1 z1 t1 hok1 (by omega) (fun f e => by cases e) hc1 hs1 ht1
          | succ d ihd =>
            intro j P1 z1 t1 x11 x12 hj hok1 hc1 hs1 ht1
            have h12 := tf_ok_le hok1
            have hnj := hok1.2.2.1 j
            have stop : ∀ (f1 : Nat) (w1 w2 : Int32), f1 < 24 → C = tf_out G N D (some f1) (j + 1) P1 → Tt (fun K t => c_X2_tryFrom vl K t 12 (nI v0) t1 (nI P1.names) (nI j) (nI P1.gone) (nI P1.len) (-1) (nI i) w1 w2 0 0 k h (k + 2000 + 1) (nI f1) z1) Q := by
              intro f1 w1 w2 hf1 hc2
              have hgo : Tt (fun K t => c_X2_tryFrom vl K t 13 (nI v0) t1 (nI P1.names) (nI (j + 1)) (nI P1.gone) (nI P1.len) (nI f1) (nI i) w1 w2 0 0 k h (k + 2000 + 1) 0 z1) Q := by
                refine u_X2_tryFrom_13 ?_; unfold cm_X2_tryFrom_13
                rw [nI_1]
                exact ihD (i + 1) (by omega) (some f1) (j + 1) P1 z1 t1 hok1 (by omega) (fun f e => by cases e; exact hf1) hc2 hs1 ht1
              refine u_X2_tryFrom_12 ?_; unfold cm_X2_tryFrom_12
              rw [nI_1]
              refine u_X2_tryFrom_11 ?_; unfold cm_X2_tryFrom_11
              refine w_le (by omega) (by omega) (fun _ => hgo) (fun _ => w_ifF (nI_nm1 (by omega)) hgo)
            have onw : ∀ (w1 w2 : Int32), C = tf_out G N D (tf_look P1 d (j + 1)).1 (tf_look P1 d (j + 1)).2 P1 → Tt (fun K t => c_X2_tryFrom vl K t 12 (nI v0) t1 (nI P1.names) (nI j) (nI P1.gone) (nI P1.len) (-1) (nI i) w1 w2 0 0 k h (k + 2000 + 1) (-1) z1) Q := by
              intro w1 w2 hc2
              refine u_X2_tryFrom_12 ?_; unfold cm_X2_tryFrom_12
              rw [nI_1]
              exact ihd (j + 1) P1 z1 t1 w1 w2 (by omega) hok1 hc2 hs1 ht1
            rw [tf_look] at hc1
            refine u_X2_tryFrom_11 ?_; unfold cm_X2_tryFrom_11
            refine w_leF (by omega) (by omega) (w_ifT rfl (w_crI (kH_6 hk) rfl (by omega) (hs1.2.1 j (by omega)) ?_))
            rw [show (2 : Int32) * nI (P1.nam j) = nI (2 * P1.nam j) from pk_mul 2 _, nI_1, gbit hok1.2.2.2 (by omega), gbit hok1.2.2.2 (by omega)]
            refine w_eqN (b := 0) (by omega) (by omega) (fun e => ?_) (fun e => w_eqN (b := 0) (by omega) (by omega) (fun e2 => ?_) (fun e2 => ?_))
            · rw [if_pos e] at hc1
              exact stop _ _ _ (by omega) hc1
            · rw [if_neg e, if_pos e2] at hc1
              exact stop _ _ _ (by omega) hc1
            · rw [if_neg e, if_neg e2] at hc1
              exact onw _ _ hc1
        -- behind a ring
        have c8 : ∀ (P1 : tf_P) (z1 : ow_MS) (t1 x11 x12 : Int32), P.names ≤ P1.names → tf_ok P1 → C = tf_rest G N D kk P1 → tfS y k z1 P1 → tf_td B l0 P1 t1 → Tt (fun K t => c_X2_tryFrom vl K t 8 (nI v0) t1 (nI P1.names) (nI kk) (nI P1.gone) (nI P1.len) (nI f) (nI i) x11 x12 0 0 k h (k + 2000 + 1) 0 z1) Q := by
          intro P1 z1 t1 x11 x12 hn1 hok1 hc1 hs1 ht1
          have he : tf_ext (tf_sep P1) C := by rw [hc1]; exact tf_rest_ext G N D kk P1
          have hl1 : P1.len + 1 ≤ C.len := he.1
          have c10 : ∀ t2 : Int32, tf_td B l0 (tf_sep P1) t2 → Tt (fun K t => c_X2_tryFrom vl K t 10 (nI v0) t1 (nI P1.names) (nI kk) (nI P1.gone) (nI P1.len) (nI f) (nI i) x11 x12 0 0 k h (k + 2000 + 1) t2 z1) Q := by
            intro t2 ht2
            refine u_X2_tryFrom_10 ?_; unfold cm_X2_tryFrom_10
            refine w_ctB (kH_4 hk) rfl (show P1.len < 48 by omega) ?_
            rw [nI_1]
            refine c11 (P1.names - kk) kk (tf_sep P1) _ t2 _ _ (show kk + (P1.names - kk) = P1.names by omega) (tf_sep_ok hok1) hc1 ⟨fun x hx => rd_ot (by omega) (hs1.1 x hx), fun j hj => rd_ot (by omega) (hs1.2.1 j hj), fun j hj => ?_, fr_I2 hs1.2.2.2 ⟨by omega, by omega⟩⟩ ht2
            have hj' : j < P1.len + 1 := hj
            show (usI z1 (k + 4) P1.len _).2.1 (k + 4) j = nI (nu P1.T P1.len 0 j)
            by_cases e : j = P1.len
            · rw [e, nu_same, po_usI_at]
              exact nar64 (a := 0) (by omega)
            · rw [nu_ne _ _ e]
              exact rd_ne e (hs1.2.2.1 j (by omega))
          have hsep : ∀ x : Int32, (x = if t1 = 1 ∧ (tf_sep P1).T P1.len = B P1.len then 1 else 0) → tf_td B l0 (tf_sep P1) x := by
            intro x e
            rw [e]
            refine tf_td_s ht1 (tf_sep_ext P1) rfl (fun _ => ?_)
            show nu P1.T P1.len 0 P1.len ≤ _
            rw [nu_same]
            omega
          have hT0 : (tf_sep P1).T P1.len = 0 := nu_same _ _ _
          have c9 : (0 : Int32) = (if t1 = 1 ∧ (tf_sep P1).T P1.len = B P1.len then 1 else 0) → Tt (fun K t => c_X2_tryFrom vl K t 9 (nI v0) t1 (nI P1.names) (nI kk) (nI P1.gone) (nI P1.len) (nI f) (nI i) x11 x12 0 0 k h (k + 2000 + 1) 0 z1) Q := by
            intro e
            refine u_X2_tryFrom_9 ?_; unfold cm_X2_tryFrom_9
            exact c10 0 (hsep 0 e)
          refine u_X2_tryFrom_8 ?_; unfold cm_X2_tryFrom_8
          rcases ht1 with ⟨h1, h2, h3⟩ | ⟨h1, h2⟩
          · subst h1
            have hlt : P1.len < l0 := by omega
            refine w_ifF (by decide) (w_crI (tH_1 (kH_one hk)) rfl (show P1.len < 30 * 1 by omega) (hbA z1 hs1.2.2.2 P1.len hlt) (w_eqN (b := 0) (by have := hB64 P1.len; omega) (by omega) (fun e => ?_) (fun e => ?_)))
            · exact c10 1 (hsep 1 (by rw [hT0, e, if_pos ⟨rfl, rfl⟩]))
            · refine c9 ?_
              rw [hT0, if_neg (fun q => e q.2.symm)]
          · subst h1
            refine w_ifT rfl (c9 ?_)
            rw [if_neg (fun q => absurd q.1 (by decide))]
        -- one ring
        have c3 : ∀ (d a v : Nat) (P1 : tf_P) (z1 : ow_MS) (t1 : Int32), a + d = 24 → v < 24 → P.names ≤ P1.names → tf_ok P1 → C = tf_rest G N D kk (tf_ring G N f d v P1) → tfS y k z1 P1 → tf_td B l0 P1 t1 → Tt (fun K t => c_X2_tryFrom vl K t 3 (nI v0) t1 (nI P1.names) (nI kk) (nI P1.gone) (nI P1.len) (nI f) (nI i) (nI v) (nI a) 0 0 k h (k + 2000 + 1) 0 z1) Q := by
          intro d
          induction d with
          | zero =>
            intro a v P1 z1 t1 ha hv hn1 hok1 hc1 hs1 ht1
            refine u_X2_tryFrom_3 ?_; unfold cm_X2_tryFrom_3
            exact w_leT (a := 24) (by omega) (by omega) (c8 P1 z1 t1 _ _ hn1 hok1 hc1 hs1 ht1)
          | succ d ihd =>
            intro a v P1 z1 t1 ha hv hn1 hok1 hc1 hs1 ht1
            have hst : tf_ext (tf_vis G P1 v) C := by
              rw [hc1, tf_ring]
              split
              · exact tf_ext_tr (tf_sep_ext _) (tf_rest_ext G N D kk _)
              · exact tf_ext_tr (tf_ext_tr (tf_ring_ext G N f d _ _) (tf_sep_ext _)) (tf_rest_ext G N D kk _)
            have hl1 : P1.len + 1 ≤ C.len := hst.1
            have hvk := tf_vis_ok (G := G) hok1 hv
            have hc64 := cell64 (G := G) hok1 hv
            have hCl : C.T P1.len = tf_cell G P1 v := by
              rw [hst.2 P1.len (Nat.lt_succ_self _)]
              exact nu_same _ _ _
            have hvn : P.names ≤ (tf_vis G P1 v).names := Nat.le_trans hn1 tf_vis_names
            have nm := tf_name_ok (x := v / 2) hok1 (by omega)
            -- the cell is written
            have c7 : ∀ (z2 : ow_MS) (t2 x13 : Int32), (∀ x, x < 12 → z2.2.1 (k + 5) x = nI ((tf_vis G P1 v).num x)) → (∀ j, j < (tf_vis G P1 v).names → z2.2.1 (k + 6) j = nI ((tf_vis G P1 v).nam j)) → (∀ j, j < P1.len → z2.2.1 (k + 4) j = nI (P1.T j)) → fr (tfP k) y z2 → tf_td B l0 (tf_vis G P1 v) t2 → Tt (fun K t => c_X2_tryFrom vl K t 7 (nI v0) t1 (nI (tf_vis G P1 v).names) (nI kk) (nI P1.gone) (nI P1.len) (nI f) (nI i) (nI v) (nI a) x13 (nI (tf_cell G P1 v)) k h (k + 2000 + 1) t2 z2) Q := by
              intro z2 t2 x13 g1 g2 g3 g4 ht2
              have hs3 : tfS y k (usI z2 (k + 4) P1.len (vp_nar .byte (nI (tf_cell G P1 v)).toInt8.toInt32)) (tf_vis G P1 v) := by
                refine ⟨fun x hx => rd_ot (by omega) (g1 x hx), fun j hj => rd_ot (by omega) (g2 j hj), fun j hj => ?_, fr_I2 g4 ⟨by omega, by omega⟩⟩
                have hj' : j < P1.len + 1 := hj
                show (usI z2 (k + 4) P1.len _).2.1 (k + 4) j = nI (nu P1.T P1.len (tf_cell G P1 v) j)
                by_cases e : j = P1.len
                · rw [e, nu_same, po_usI_at]
                  exact (i2b64 ⟨_, hc64⟩).1
                · rw [nu_ne _ _ e]
                  exact rd_ne e (g3 j (by omega))
              refine u_X2_tryFrom_7 ?_; unfold cm_X2_tryFrom_7
              refine w_ctB (kH_4 hk) rfl (show P1.len < 48 by omega) (w_crI (nH_1 hh) rfl hv ((hcA _ hs3.2.2.2).2.2.1 v) ?_)
              rw [ow_shlb hv, ow_or (by have := hok1.2.2.2; omega) (Nat.lt_trans (Nat.pow_lt_pow_right (by decide) hv) (by decide)), nI_1 (a := P1.len)]
              have hg : (tf_vis G P1 v).gone = P1.gone ||| 2 ^ v := rfl
              rw [← hg]
              have hle : (tf_vis G P1 v).len = P1.len + 1 := rfl
              rw [← hle]
              refine w_eqN (a := N v) (b := f) (by have h9 : N v < 24 := hb.1 v; omega) (by omega) (fun e => ?_) (fun e => ?_)
              · rw [tf_ring, if_pos e] at hc1
                exact c8 _ _ t2 _ _ hvn hvk hc1 hs3 ht2
              · rw [tf_ring, if_neg e] at hc1
                rw [nI_1]
                exact ihd (a + 1) (N v) _ _ t2 (by omega) (hb.1 v) hvn hvk hc1 hs3 ht2
            have htd : ∀ x : Int32, (t1 = 1 → tf_cell G P1 v ≤ B P1.len) → (x = if t1 = 1 ∧ tf_cell G P1 v = B P1.len then 1 else 0) → tf_td B l0 (tf_vis G P1 v) x := by
              intro x e0 e
              have eT : (tf_vis G P1 v).T P1.len = tf_cell G P1 v := nu_same _ _ _
              rw [e, ← eT]
              refine tf_td_s ht1 (tf_vis_ext G P1 v) rfl (fun q => ?_)
              rw [eT]
              exact e0 q
            have c5 : ∀ (z2 : ow_MS) (x13 : Int32), (∀ x, x < 12 → z2.2.1 (k + 5) x = nI ((tf_vis G P1 v).num x)) → (∀ j, j < (tf_vis G P1 v).names → z2.2.1 (k + 6) j = nI ((tf_vis G P1 v).nam j)) → (∀ j, j < P1.len → z2.2.1 (k + 4) j = nI (P1.T j)) → fr (tfP k) y z2 → (t1 = 1 → tf_cell G P1 v ≤ B P1.len) → Tt (fun K t => c_X2_tryFrom vl K t 5 (nI v0) t1 (nI (tf_vis G P1 v).names) (nI kk) (nI P1.gone) (nI P1.len) (nI f) (nI i) (nI v) (nI a) x13 (nI (tf_cell G P1 v)) k h (k + 2000 + 1) 0 z2) Q := by
              intro z2 x13 g1 g2 g3 g4 g5
              have c6 : (0 : Int32) = (if t1 = 1 ∧ tf_cell G P1 v = B P1.len then 1 else 0) → Tt (fun K t => c_X2_tryFrom vl K t 6 (nI v0) t1 (nI (tf_vis G P1 v).names) (nI kk) (nI P1.gone) (nI P1.len) (nI f) (nI i) (nI v) (nI a) x13 (nI (tf_cell G P1 v)) k h (k + 2000 + 1) 0 z2) Q := by
                intro e
                refine u_X2_tryFrom_6 ?_; unfold cm_X2_tryFrom_6
                exact c7 z2 0 x13 g1 g2 g3 g4 (htd 0 g5 e)
              refine u_X2_tryFrom_5 ?_; unfold cm_X2_tryFrom_5
              rcases ht1 with ⟨h1, h2, h3⟩ | ⟨h1, h2⟩
              · subst h1
                have hlt : P1.len < l0 := by omega
                refine w_ifF (by decide) (w_crI (tH_1 (kH_one hk)) rfl (show P1.len < 30 * 1 by omega) (hbA z2 g4 P1.len hlt) (w_eqN (by omega) (by have := hB64 P1.len; omega) (fun e => ?_) (fun e => ?_)))
                · exact c7 z2 1 x13 g1 g2 g3 g4 (htd 1 g5 (by rw [if_pos ⟨rfl, e⟩]))
                · exact c6 (by rw [if_neg (fun q => e q.2)])
              · subst h1
                refine w_ifT rfl (c6 ?_)
                rw [if_neg (fun q => absurd q.1 (by decide))]
            have c4 : ∀ (z2 : ow_MS), (∀ x, x < 12 → z2.2.1 (k + 5) x = nI ((tf_vis G P1 v).num x)) → (∀ j, j < (tf_vis G P1 v).names → z2.2.1 (k + 6) j = nI ((tf_vis G P1 v).nam j)) → (∀ j, j < P1.len → z2.2.1 (k + 4) j = nI (P1.T j)) → fr (tfP k) y z2 → Tt (fun K t => c_X2_tryFrom vl K t 4 (nI v0) t1 (nI (tf_vis G P1 v).names) (nI kk) (nI P1.gone) (nI P1.len) (nI f) (nI i) (nI v) (nI a) (nI (v / 2)) 0 k h (k + 2000 + 1) 0 z2) Q := by
              intro z2 g1 g2 g3 g4
              refine u_X2_tryFrom_4 ?_; unfold cm_X2_tryFrom_4
              refine w_crI (kH_5 hk) rfl (show v / 2 < 12 by omega) (g1 _ (by omega)) (w_cs1 (tc_firstCell hh (hcA z2 g4) hv) ?_)
              rintro r z3 ⟨e1, e2⟩
              dsimp only at e1 e2
              rw [e1, e2]
              have ece : (4 : Int32) * (nI ((tf_vis G P1 v).num (v / 2)) - 1) + nI (cd_first T.2.2.2 v) = nI (tf_cell G P1 v) := by
                rw [show nI ((tf_vis G P1 v).num (v / 2)) - 1 = nI ((tf_vis G P1 v).num (v / 2) - 1) from pk_sub (b := 1) nm.2, show (4 : Int32) * nI ((tf_vis G P1 v).num (v / 2) - 1) = nI (4 * ((tf_vis G P1 v).num (v / 2) - 1)) from pk_mul 4 _]
                exact nI_add _ _
              rw [ece]
              rcases ht1 with ⟨h1, h2, h3⟩ | ⟨h1, h2⟩
              · have hlt : P1.len < l0 := by omega
                refine w_ifF (by rw [h1]; decide) (w_crI (tH_1 (kH_one hk)) rfl (show P1.len < 30 * 1 by omega) (hbA z2 g4 P1.len hlt) (w_le (by omega) (by have := hB64 P1.len; omega) (fun e => ?_) (fun e => ?_)))
                · exact c5 z2 _ g1 g2 g3 g4 (fun _ => e)
                · refine w_some ⟨g4, Or.inr ⟨rfl, h2, cd_lt_no (k := P1.len) (fun j hj => ?_) (Or.inr (by rw [hCl]; exact e))⟩⟩
                  rw [← h3 j hj, hst.2 j (Nat.lt_succ_of_lt hj)]
                  exact (tf_vis_ext G P1 v).2 j hj
              · refine w_ifT h1 (c5 z2 _ g1 g2 g3 g4 (fun q => absurd (q.symm.trans h1) (by decide)))
            have hnum : (tf_vis G P1 v).num = (tf_name P1 (v / 2)).num := rfl
            have hnam : (tf_vis G P1 v).nam = (tf_name P1 (v / 2)).nam := rfl
            have hnms : (tf_vis G P1 v).names = (tf_name P1 (v / 2)).names := rfl
            have h12 := tf_ok_le hok1
            refine u_X2_tryFrom_3 ?_; unfold cm_X2_tryFrom_3
            rw [shr1v ⟨v, hv⟩]
            refine w_leF (a := 24) (by omega) (by omega) (w_crI (kH_5 hk) rfl (show v / 2 < 12 by omega) (hs1.1 _ (by omega)) (w_eqN (a := P1.num (v / 2)) (b := 0) (by have := hok1.1 (v / 2); omega) (by omega) (fun e => ?_) (fun e => ?_)))
            · have hnl := tf_name_lt hok1 (show v / 2 < 12 by omega) e
              have e9 : tf_name P1 (v / 2) = ⟨nu P1.num (v / 2) (P1.names + 1), nu P1.nam P1.names (v / 2), P1.names + 1, P1.gone, P1.T, P1.len⟩ := by
                unfold tf_name
                rw [if_pos e]
              refine w_ctI (kH_6 hk) rfl hnl (w_ctI (kH_5 hk) rfl (show v / 2 < 12 by omega) ?_)
              rw [nI_1]
              have e8 : P1.names + 1 = (tf_vis G P1 v).names := by rw [hnms, e9]
              rw [e8]
              refine c4 _ (fun x hx => ?_) (fun j hj => ?_) (fun j hj => rd_ot (by omega) (rd_ot (by omega) (hs1.2.2.1 j hj))) (fr_I2 (fr_I2 hs1.2.2.2 ⟨by omega, by omega⟩) ⟨by omega, by omega⟩)
              · rw [hnum, e9]
                show _ = nI (nu P1.num (v / 2) (P1.names + 1) x)
                by_cases e7 : x = v / 2
                · rw [e7, nu_same, po_usI_at, ← e8]
                · rw [nu_ne _ _ e7]
                  exact rd_ne e7 (rd_ot (by omega) (hs1.1 x hx))
              · rw [hnam, e9]
                show _ = nI (nu P1.nam P1.names (v / 2) j)
                refine rd_ot (by omega) ?_
                by_cases e7 : j = P1.names
                · rw [e7, nu_same]
                  exact po_usI_at
                · rw [nu_ne _ _ e7]
                  exact rd_ne e7 (hs1.2.1 j (by omega))
            · have e9 : tf_name P1 (v / 2) = P1 := by
                unfold tf_name
                rw [if_neg e]
              have e8 : P1.names = (tf_vis G P1 v).names := by rw [hnms, e9]
              rw [e8]
              refine c4 z1 (fun x hx => by rw [hnum, e9]; exact hs1.1 x hx) (fun j hj => by rw [hnam, e9]; exact hs1.2.1 j (by omega)) hs1.2.2.1 hs1.2.2.2
        refine u_X2_tryFrom_2 ?_; unfold cm_X2_tryFrom_2
        refine w_leF (a := 24) (by omega) (by omega) (w_ifF (nI_nm1 (by omega)) ?_)
        exact c3 24 0 f P z x4 (by omega) hf24 (Nat.le_refl _) hok hCe' hs ht
  refine e_X2_tryFrom ?_
  refine u_X2_tryFrom_0 ?_; unfold cm_X2_tryFrom_0
  refine w_cs0 (tc_fillA (kH_5 hk) (by omega)) ?_
  rintro z1 ⟨h1, h2⟩
  have h2' : fr (tfP k) y z1 := fr_mono (fun g hg => by rw [hg]; unfold tfP; omega) h2
  refine w_crI (i := 0) (tH_2 (kH_one hk)) rfl (by omega) ((congrFun (h2 (k + 2002) (by omega)).2.1 0).trans hL) ?_
  have go1 : ∀ t0 : Int32, tf_td B l0 tf_0 t0 → Tt (fun K t => c_X2_tryFrom vl K t 1 (nI v0) 0 0 0 0 0 0 0 0 0 0 0 k h (k + 2000 + 1) t0 z1) Q := by
    intro t0 ht
    refine u_X2_tryFrom_1 ?_; unfold cm_X2_tryFrom_1
    exact c2 24 0 (by omega) (some v0) 0 tf_0 z1 t0 tf_ok_0 (Nat.le_refl _) (fun f e => by cases e; exact hv0) hC.symm ⟨fun x hx => h1 x hx, fun j hj => absurd hj (Nat.not_lt_zero _), fun j hj => absurd hj (Nat.not_lt_zero _), h2'⟩ ht
  have h00 := tf_td_0 B (l0 := l0) tf_0 rfl
  refine w_le (b := 0) (by omega) (by omega) (fun e => go1 0 ?_) (fun e => go1 1 ?_)
  · rw [if_neg (by omega)] at h00
    exact h00
  · rw [if_pos e] at h00
    exact h00
end CT
end
