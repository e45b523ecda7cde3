/-! the class: a code read into a net -/
abbrev ow_LD := (ow_NP × (Nat → Int32) × (Nat → Int32) × (Nat → Int32)) × (Nat × Nat × Nat × Nat × Nat × Nat) × (Option Nat × Option Nat)
def ld_zero (S : ow_NP) (G Fo Fc : Nat → Int32) (ci co ba na lo cn : Nat) (fi la : Option Nat) : ow_LD := (((match fi with | none => S | some f => nl S (la.getD 0) f), G, Fo, Fc), ((match fi with | none => ci + 1 | some _ => ci), co + 1, (if lo = 0 then na else ba), na, lo, cn), (none, la))
def ld_visit (S : ow_NP) (G Fo Fc : Nat → Int32) (ci co ba na lo cn : Nat) (fi la : Option Nat) (x v : Nat) (g : Int32) : ow_LD := (((match fi with | none => S | some _ => nl S (la.getD 0) v), (if x < na then G else su G x g), su Fo cn (nI v), su Fc v (nI co)), (ci, co, ba, (if x < na then na else x + 1), (if x < na then lo - 1 else lo + 1), cn + 1), (some (fi.getD v), some v))
def ld_cell (t : ow_LD) (c : Nat) : Option ow_LD := match t with
  | ((S, G, Fo, Fc), (ci, co, ba, na, lo, cn), (fi, la)) =>
    if c = 0 then some (ld_zero S G Fo Fc ci co ba na lo cn fi la)
    else if 4 ≤ c ∧ ba + c / 4 - 1 < 12 ∧ cn < 24 ∧ (ba + c / 4 - 1 < na → 0 < lo) then some (ld_visit S G Fo Fc ci co ba na lo cn fi la (ba + c / 4 - 1) (2 * (ba + c / 4 - 1) + c / 2 % 2) (if c % 2 = 0 then 1 else -1))
    else none
theorem ld_cell_eq {S : ow_NP} {G Fo Fc : Nat → Int32} {ci co ba na lo cn c : Nat} {fi la : Option Nat} : ld_cell ((S, G, Fo, Fc), (ci, co, ba, na, lo, cn), (fi, la)) c = if c = 0 then some (ld_zero S G Fo Fc ci co ba na lo cn fi la) else if 4 ≤ c ∧ ba + c / 4 - 1 < 12 ∧ cn < 24 ∧ (ba + c / 4 - 1 < na → 0 < lo) then some (ld_visit S G Fo Fc ci co ba na lo cn fi la (ba + c / 4 - 1) (2 * (ba + c / 4 - 1) + c / 2 % 2) (if c % 2 = 0 then 1 else -1)) else none := rfl
theorem ld_zero_ci {S : ow_NP} {G Fo Fc : Nat → Int32} {ci co ba na lo cn : Nat} {fi la : Option Nat} : (ld_zero S G Fo Fc ci co ba na lo cn fi la).2.1.1 ≤ ci + 1 := by
  cases fi
  · exact Nat.le_refl _
  · exact Nat.le_succ _
def ldR : List Nat → ow_LD → Option ow_LD
  | [], t => some t
  | c :: L, t => (ld_cell t c).bind (ldR L)
def ld_init (S : ow_NP) (G Fo Fc : Nat → Int32) : ow_LD := ((S, G, Fo, Fc), (0, 0, 0, 0, 0, 0), (none, none))
def oI (o : Option Nat) : Int32 := match o with
  | none => -1
  | some a => nI a
theorem ld_c : ∀ c : Fin 64, nI c.val >>> ((2 : Int32) &&& 31) = nI (c.val / 4) ∧ ((nI c.val &&& 1) = 0 ↔ c.val % 2 = 0) ∧ ((nI c.val >>> ((1 : Int32) &&& 31)) &&& 1) = nI (c.val / 2 % 2) := by decide +kernel
/-- what a net's cells and the walk's numbers are while a code is read -/
def lds (y : ow_MS) (h c0 : Nat) (t : ow_LD) : Prop := cAt y h (c0, t.2.1.1, t.1.1, t.1.2.1) ∧ (∀ k, y.2.1 (h + 4) k = t.1.2.2.1 k) ∧ (∀ k, y.2.1 (h + 5) k = t.1.2.2.2 k) ∧ y.1 (h + 10) = nI t.2.1.2.1
def ldb (i : Nat) (t : ow_LD) : Prop := t.2.1.1 ≤ i ∧ t.2.1.2.1 ≤ i ∧ t.2.1.2.2.1 ≤ 12 ∧ t.2.1.2.2.2.1 ≤ 12 ∧ t.2.1.2.2.2.2.1 ≤ i ∧ t.2.1.2.2.2.2.2 ≤ 24 ∧ (∀ f, t.2.2.1 = some f → f < 24 ∧ ∃ l, t.2.2.2 = some l) ∧ ∀ l, t.2.2.2 = some l → l < 24
theorem nI_m {a : Nat} (h : 1 ≤ a) : nI a + -1 = nI (a - 1) := by
  rw [nI_iI, show (-1 : Int32) = iI (-1) from rfl, iI_add, nI_iI]
  congr 1
  omega
def cL (h q : Nat) : Prop := h + 1 ≤ q ∧ q ≤ h + 5 ∨ h + 8 ≤ q ∧ q ≤ h + 10
section CL
variable {vl : Nat → Nat} {y : ow_MS} {h g p s : Nat} {C : cdT} {T : ow_NT}
theorem u_X7_load_1 {vl : Nat → Nat} {x2 : Int32} {x3 : Int32} {x4 : Int32} {x5 : Int32} {x6 : Int32} {x7 : Int32} {x8 : Int32} {x9 : Int32} {x10 : Int32} {x11 : Int32} {x12 : Int32} {x13 : Int32} {r0 : Nat} {r1 : Nat} {t0 : Int32} {t1 : Int32} {z : ow_MS} {Q : ow_MS → Prop} (H : Tt (fun K k => cm_X7_load_1 vl K (c_X7_load vl K k) x2 x3 x4 x5 x6 x7 x8 x9 x10 x11 x12 x13 r0 r1 t0 t1 z) Q) : Tt (fun K k => c_X7_load vl K k 1 x2 x3 x4 x5 x6 x7 x8 x9 x10 x11 x12 x13 r0 r1 t0 t1 z) Q := w_un (fun _ _ => rfl) H
theorem u_X7_load_7 {vl : Nat → Nat} {x2 : Int32} {x3 : Int32} {x4 : Int32} {x5 : Int32} {x6 : Int32} {x7 : Int32} {x8 : Int32} {x9 : Int32} {x10 : Int32} {x11 : Int32} {x12 : Int32} {x13 : Int32} {r0 : Nat} {r1 : Nat} {t0 : Int32} {t1 : Int32} {z : ow_MS} {Q : ow_MS → Prop} (H : Tt (fun K k => cm_X7_load_7 vl K (c_X7_load vl K k) x2 x3 x4 x5 x6 x7 x8 x9 x10 x11 x12 x13 r0 r1 t0 t1 z) Q) : Tt (fun K k => c_X7_load vl K k 7 x2 x3 x4 x5 x6 x7 x8 x9 x10 x11 x12 x13 r0 r1 t0 t1 z) Q := w_un (fun _ _ => rfl) H
theorem u_X7_load_3 {vl : Nat → Nat} {x2 : Int32} {x3 : Int32} {x4 : Int32} {x5 : Int32} {x6 : Int32} {x7 : Int32} {x8 : Int32} {x9 : Int32} {x10 : Int32} {x11 : Int32} {x12 : Int32} {x13 : Int32} {r0 : Nat} {r1 : Nat} {t0 : Int32} {t1 : Int32} {z : ow_MS} {Q : ow_MS → Prop} (H : Tt (fun K k => cm_X7_load_3 vl K (c_X7_load vl K k) x2 x3 x4 x5 x6 x7 x8 x9 x10 x11 x12 x13 r0 r1 t0 t1 z) Q) : Tt (fun K k => c_X7_load vl K k 3 x2 x3 x4 x5 x6 x7 x8 x9 x10 x11 x12 x13 r0 r1 t0 t1 z) Q := w_un (fun _ _ => rfl) H
theorem u_X7_load_2 {vl : Nat → Nat} {x2 : Int32} {x3 : Int32} {x4 : Int32} {x5 : Int32} {x6 : Int32} {x7 : Int32} {x8 : Int32} {x9 : Int32} {x10 : Int32} {x11 : Int32} {x12 : Int32} {x13 : Int32} {r0 : Nat} {r1 : Nat} {t0 : Int32} {t1 : Int32} {z : ow_MS} {Q : ow_MS → Prop} (H : Tt (fun K k => cm_X7_load_2 vl K (c_X7_load vl K k) x2 x3 x4 x5 x6 x7 x8 x9 x10 x11 x12 x13 r0 r1 t0 t1 z) Q) : Tt (fun K k => c_X7_load vl K k 2 x2 x3 x4 x5 x6 x7 x8 x9 x10 x11 x12 x13 r0 r1 t0 t1 z) Q := w_un (fun _ _ => rfl) H
theorem u_X7_load_6 {vl : Nat → Nat} {x2 : Int32} {x3 : Int32} {x4 : Int32} {x5 : Int32} {x6 : Int32} {x7 : Int32} {x8 : Int32} {x9 : Int32} {x10 : Int32} {x11 : Int32} {x12 : Int32} {x13 : Int32} {r0 : Nat} {r1 : Nat} {t0 : Int32} {t1 : Int32} {z : ow_MS} {Q : ow_MS → Prop} (H : Tt (fun K k => cm_X7_load_6 vl K (c_X7_load vl K k) x2 x3 x4 x5 x6 x7 x8 x9 x10 x11 x12 x13 r0 r1 t0 t1 z) Q) : Tt (fun K k => c_X7_load vl K k 6 x2 x3 x4 x5 x6 x7 x8 x9 x10 x11 x12 x13 r0 r1 t0 t1 z) Q := w_un (fun _ _ => rfl) H
theorem u_X7_load_5 {vl : Nat → Nat} {x2 : Int32} {x3 : Int32} {x4 : Int32} {x5 : Int32} {x6 : Int32} {x7 : Int32} {x8 : Int32} {x9 : Int32} {x10 : Int32} {x11 : Int32} {x12 : Int32} {x13 : Int32} {r0 : Nat} {r1 : Nat} {t0 : Int32} {t1 : Int32} {z : ow_MS} {Q : ow_MS → Prop} (H : Tt (fun K k => cm_X7_load_5 vl K (c_X7_load vl K k) x2 x3 x4 x5 x6 x7 x8 x9 x10 x11 x12 x13 r0 r1 t0 t1 z) Q) : Tt (fun K k => c_X7_load vl K k 5 x2 x3 x4 x5 x6 x7 x8 x9 x10 x11 x12 x13 r0 r1 t0 t1 z) Q := w_un (fun _ _ => rfl) H
theorem u_X7_load_4 {vl : Nat → Nat} {x2 : Int32} {x3 : Int32} {x4 : Int32} {x5 : Int32} {x6 : Int32} {x7 : Int32} {x8 : Int32} {x9 : Int32} {x10 : Int32} {x11 : Int32} {x12 : Int32} {x13 : Int32} {r0 : Nat} {r1 : Nat} {t0 : Int32} {t1 : Int32} {z : ow_MS} {Q : ow_MS → Prop} (H : Tt (fun K k => cm_X7_load_4 vl K (c_X7_load vl K k) x2 x3 x4 x5 x6 x7 x8 x9 x10 x11 x12 x13 r0 r1 t0 t1 z) Q) : Tt (fun K k => c_X7_load vl K k 4 x2 x3 x4 x5 x6 x7 x8 x9 x10 x11 x12 x13 r0 r1 t0 t1 z) Q := w_un (fun _ _ => rfl) H
theorem e_X7_load {vl : Nat → Nat} {r0 : Nat} {r1 : Nat} {x2 : Int32} {z : ow_MS} {Q : ow_MS → Prop} (H : Tt (fun K k => c_X7_load vl K k 0 x2 0 0 0 0 0 0 0 0 0 0 0 r0 r1 0 0 z) Q) : Te (fun K => ce_X7_load vl K r0 r1 x2 z) Q := w_te H
theorem u_X7_load_0 {vl : Nat → Nat} {x2 : Int32} {x3 : Int32} {x4 : Int32} {x5 : Int32} {x6 : Int32} {x7 : Int32} {x8 : Int32} {x9 : Int32} {x10 : Int32} {x11 : Int32} {x12 : Int32} {x13 : Int32} {r0 : Nat} {r1 : Nat} {t0 : Int32} {t1 : Int32} {z : ow_MS} {Q : ow_MS → Prop} (H : Tt (fun K k => cm_X7_load_0 vl K (c_X7_load vl K k) x2 x3 x4 x5 x6 x7 x8 x9 x10 x11 x12 x13 r0 r1 t0 t1 z) Q) : Tt (fun K k => c_X7_load vl K k 0 x2 x3 x4 x5 x6 x7 x8 x9 x10 x11 x12 x13 r0 r1 t0 t1 z) Q := w_un (fun _ _ => rfl) H
theorem tc_load {Fo Fc : Nat → Int32} {t : ow_LD} (hh : nH h) (hg : tH g p) (hd : h + 12 ≤ g ∨ g + 6 ≤ h) (hs : s < p) (hC : slC y g s C) (oC : cOK C) (hy : cAt y h T) (h4 : ∀ k, y.2.1 (h + 4) k = Fo k) (h5 : ∀ k, y.2.1 (h + 5) k = Fc k) (ht : ldR C.2 (ld_init T.2.2.1 T.2.2.2 Fo Fc) = some t) : Te (fun K => ce_X7_load vl K h g (nI s) y) (fun y1 => lds y1 h C.1 t ∧ fr (cL h) y y1) := by
  have hp := tH_p hg
  obtain ⟨o1, o2, o3⟩ := oC
  let Q : ow_MS → Prop := fun y1 => lds y1 h C.1 t ∧ fr (cL h) y y1
  have slf : ∀ {y1 : ow_MS}, fr (cL h) y y1 → slC y1 g s C := fun hf => slC_fr hf (fun q hq hl => by unfold cW at hq; unfold cL at hl; omega) hC
  have c1 : ∀ (L : List Nat) (i : Nat) (u : ow_LD) (y1 : ow_MS), C.2.drop i = L → i ≤ C.2.length → ldR L u = some t → lds y1 h C.1 u → ldb i u → fr (cL h) y y1 → Tt (fun K k => c_X7_load vl K k 1 (nI s) (nI (30 * s)) (nI u.2.1.2.2.1) (nI u.2.1.2.2.2.1) (nI u.2.1.2.2.2.2.1) (nI u.2.1.2.2.2.2.2) (oI u.2.2.1) (oI u.2.2.2) (nI i) 0 0 0 h g 0 0 y1) Q := by
    intro L
    induction L with
    | nil =>
      intro i u y1 hL hi hr hl hb hf
      have e : i = C.2.length := by
        have := List.drop_eq_nil_iff.mp hL
        omega
      have hu : u = t := Option.some.inj hr
      subst hu
      refine u_X7_load_1 ?_; unfold cm_X7_load_1
      exact w_crI (tH_2 hg) rfl hs (slf hf).2.1 (w_leT (by omega) (by omega) (w_some ⟨hl, hf⟩))
    | cons c L ih =>
      intro i u y1 hL hi hr hl hb hf
      have hil : i < C.2.length := by
        refine Nat.lt_of_le_of_ne hi (fun e => ?_)
        rw [List.drop_of_length_le (by omega)] at hL
        cases hL
      have dc := List.drop_eq_getElem_cons hil
      rw [hL] at dc
      have ec : C.2[i]? = some c := by
        rw [List.getElem?_eq_getElem hil]
        injection dc with d1 d2
        rw [d1]
      have hL2 : C.2.drop (i + 1) = L := by
        injection dc with d1 d2
        exact d2.symm
      have hc64 := o3 c (List.mem_of_getElem? ec)
      obtain ⟨l1, l2, l3⟩ := ld_c ⟨c, hc64⟩
      obtain ⟨⟨S, G, Fo', Fc'⟩, ⟨ci, co, ba, na, lo, cn⟩, fi, la⟩ := u
      obtain ⟨g1, g2, g3, g4⟩ := hl
      obtain ⟨b1, b2, b3, b4, b5, b6, b7, b8⟩ := hb
      dsimp only at g1 g2 g3 g4 b1 b2 b3 b4 b5 b6 b7 b8 ⊢
      have hr : (ld_cell ((S, G, Fo', Fc'), (ci, co, ba, na, lo, cn), (fi, la)) c).bind (ldR L) = some t := hr
      have k7 : ∀ (u : ow_LD) (y1 : ow_MS) (x11 : Int32), ldR L u = some t → lds y1 h C.1 u → ldb (i + 1) u → fr (cL h) y y1 → Tt (fun K k => c_X7_load vl K k 7 (nI s) (nI (30 * s)) (nI u.2.1.2.2.1) (nI u.2.1.2.2.2.1) (nI u.2.1.2.2.2.2.1) (nI u.2.1.2.2.2.2.2) (oI u.2.2.1) (oI u.2.2.2) (nI i) x11 0 0 h g 0 0 y1) Q := by
        intro u y1 x11 h1 h2 h3 h9
        refine u_X7_load_7 ?_; unfold cm_X7_load_7
        rw [nI_1]
        exact ih (i + 1) u y1 hL2 (by omega) h1 h2 h3 h9
      refine u_X7_load_1 ?_; unfold cm_X7_load_1
      rw [nI_add]
      refine w_crI (tH_2 hg) rfl hs (slf hf).2.1 (w_leF (by omega) (by omega) (w_crI (tH_1 hg) rfl (by omega) ((slf hf).2.2 i c ec) (w_eqN (b := 0) (by omega) (by omega) (fun e0 => ?_) (fun e0 => ?_))))
      · have hr : ldR L (ld_zero S G Fo' Fc' ci co ba na lo cn fi la) = some t := by
          rw [ld_cell_eq, if_pos e0] at hr
          exact hr
        have k2 : ∀ (y1 : ow_MS) (x8 : Int32), cAt y1 h (C.1, (ld_zero S G Fo' Fc' ci co ba na lo cn fi la).2.1.1, (ld_zero S G Fo' Fc' ci co ba na lo cn fi la).1.1, G) → (∀ k, y1.2.1 (h + 4) k = Fo' k) → (∀ k, y1.2.1 (h + 5) k = Fc' k) → y1.1 (h + 10) = nI co → fr (cL h) y y1 → Tt (fun K k => c_X7_load vl K k 2 (nI s) (nI (30 * s)) (nI ba) (nI na) (nI lo) (nI cn) x8 (oI la) (nI i) (nI c) 0 0 h g 0 0 y1) Q := by
          intro y1 x8 g1 g2 g3 g4 hf
          have h7 := k7 (ld_zero S G Fo' Fc' ci co ba na lo cn fi la) (usF y1 (h + 10) (nI (co + 1))) (nI c) hr ⟨cAt_F (Or.inl rfl) g1, g2, g3, po_usF_at⟩ (by
            refine ⟨?_, ?_, ?_, b4, ?_, b6, (fun f hf => by cases hf), b8⟩
            · exact Nat.le_trans ld_zero_ci (by omega)
            · show co + 1 ≤ i + 1
              omega
            · show (if lo = 0 then na else ba) ≤ 12
              split
              · exact b4
              · exact b3
            · show lo ≤ i + 1
              omega) (fr_F2 hf (Or.inr (by omega)))
          have h3 : ∀ t0 : Int32, t0 = nI (if lo = 0 then na else ba) → Tt (fun K k => c_X7_load vl K k 3 (nI s) (nI (30 * s)) (nI ba) (nI na) (nI lo) (nI cn) (-1) (oI la) (nI i) (nI c) 0 0 h g t0 0 (usF y1 (h + 10) (nI (co + 1)))) Q := by
            intro t0 e9
            subst e9
            refine u_X7_load_3 ?_; unfold cm_X7_load_3
            exact h7
          refine u_X7_load_2 ?_; unfold cm_X7_load_2
          refine w_rdF g4 ?_
          rw [nI_1]
          refine w_wrF (w_eqN (b := 0) (by omega) (by omega) (fun e => h3 _ ?_) (fun e => h3 _ ?_))
          · rw [if_pos e]
          · rw [if_neg e]
        cases fi with
        | none =>
          refine w_ifT rfl (w_rdF g1.2.1 ?_)
          rw [nI_1]
          exact w_wrF (k2 _ _ (cAt_o g1) g2 g3 (rf_ot (by omega) g4) (fr_F2 hf (Or.inr (by omega))))
        | some f =>
          obtain ⟨f1, l, hl⟩ := b7 f rfl
          have hl24 := b8 l hl
          subst hl
          refine w_ifF (rn_neg1 (v := f) (by omega)) (w_cs0 (tc_link hh g1 hl24 f1) ?_)
          rintro y2 ⟨q1, q2⟩
          have q3 : ∀ q, q = h + 4 ∨ q = h + 5 ∨ q = h + 10 → ¬ cP h q := fun q hq h9 => by unfold cP at h9; omega
          exact k2 y2 _ q1 (fun k => by rw [(q2 _ (q3 _ (by omega))).2.1]; exact g2 k) (fun k => by rw [(q2 _ (q3 _ (by omega))).2.1]; exact g3 k) (by rw [(q2 _ (q3 _ (by omega))).1]; exact g4) (fr_tr hf (fr_mono (fun q hq => by unfold cP at hq; unfold cL; omega) q2))
      · rw [ld_cell_eq, if_neg e0] at hr
        by_cases hcd : 4 ≤ c ∧ ba + c / 4 - 1 < 12 ∧ cn < 24 ∧ (ba + c / 4 - 1 < na → 0 < lo)
        · rw [if_pos hcd] at hr
          obtain ⟨d1, d2, d3, d4⟩ := hcd
          dsimp only at l1 l2 l3
          rw [l1, nI_add, show nI (ba + c / 4) - 1 = nI (ba + c / 4 - 1) from pk_sub (b := 1) (by omega), nI_1 (ba + c / 4 - 1), nI_1 lo]
          generalize hx : ba + c / 4 - 1 = x at *
          have hr : ldR L (ld_visit S G Fo' Fc' ci co ba na lo cn fi la x (2 * x + c / 2 % 2) (if c % 2 = 0 then 1 else -1)) = some t := hr
          have hv24 : 2 * x + c / 2 % 2 < 24 := by omega
          have k5 : ∀ (y1 : ow_MS) (na' lo' : Nat), na' = (if x < na then na else x + 1) → lo' = (if x < na then lo - 1 else lo + 1) → cAt y1 h (C.1, ci, S, (if x < na then G else su G x (if c % 2 = 0 then 1 else -1))) → (∀ k, y1.2.1 (h + 4) k = Fo' k) → (∀ k, y1.2.1 (h + 5) k = Fc' k) → y1.1 (h + 10) = nI co → fr (cL h) y y1 → Tt (fun K k => c_X7_load vl K k 5 (nI s) (nI (30 * s)) (nI ba) (nI na') (nI lo') (nI cn) (oI fi) (oI la) (nI i) (nI c) (nI x) 0 h g 0 0 y1) Q := by
            intro y1 na' lo' ena elo g1 g2 g3 g4 hf
            have hbv : ldb (i + 1) (ld_visit S G Fo' Fc' ci co ba na lo cn fi la x (2 * x + c / 2 % 2) (if c % 2 = 0 then 1 else -1)) := by
              refine ⟨?_, ?_, b3, ?_, ?_, ?_, (fun f hf => ⟨?_, _, rfl⟩), (fun l hl => ?_)⟩
              · show ci ≤ i + 1
                omega
              · show co ≤ i + 1
                omega
              · show (if x < na then na else x + 1) ≤ 12
                split <;> omega
              · show (if x < na then lo - 1 else lo + 1) ≤ i + 1
                split <;> omega
              · show cn + 1 ≤ 24
                omega
              · have hf : some (fi.getD (2 * x + c / 2 % 2)) = some f := hf
                injection hf with hf
                rw [← hf]
                cases fi with
                | none => exact hv24
                | some f' => exact (b7 f' rfl).1
              · have hl : some (2 * x + c / 2 % 2) = some l := hl
                injection hl with hl
                omega
            generalize hv : 2 * x + c / 2 % 2 = v at *
            have k6 : ∀ (y1 : ow_MS), lds y1 h C.1 (ld_visit S G Fo' Fc' ci co ba na lo cn fi la x v (if c % 2 = 0 then 1 else -1)) → fr (cL h) y y1 → Tt (fun K k => c_X7_load vl K k 6 (nI s) (nI (30 * s)) (nI ba) (nI na') (nI lo') (nI (cn + 1)) (nI (fi.getD v)) (oI la) (nI i) (nI c) (nI x) (nI v) h g 0 0 y1) Q := by
              intro y1 h1 hf
              rw [ena, elo]
              refine u_X7_load_6 ?_; unfold cm_X7_load_6
              exact k7 (ld_visit S G Fo' Fc' ci co ba na lo cn fi la x v (if c % 2 = 0 then 1 else -1)) y1 _ hr h1 hbv hf
            refine u_X7_load_5 ?_; unfold cm_X7_load_5
            rw [l3, show (2 : Int32) * nI x = nI (2 * x) from pk_mul 2 x, nI_add, hv, nI_1 cn]
            have y2c : cAt (usI (usI y1 (h + 4) cn (nI v)) (h + 5) v (nI co)) h (C.1, ci, S, (if x < na then G else su G x (if c % 2 = 0 then 1 else -1))) := cAt_I (Or.inr (Or.inl rfl)) (cAt_I (Or.inl rfl) g1)
            have y24 : ∀ k, (usI (usI y1 (h + 4) cn (nI v)) (h + 5) v (nI co)).2.1 (h + 4) k = su Fo' cn (nI v) k := fun k => rd_ot (by omega) (rwC_su (F := Fo') g2 k)
            have y25 : ∀ k, (usI (usI y1 (h + 4) cn (nI v)) (h + 5) v (nI co)).2.1 (h + 5) k = su Fc' v (nI co) k := fun k => rwC_su (F := Fc') (y := usI y1 (h + 4) cn (nI v)) (fun k => rd_ot (by omega) (g3 k)) k
            have y2f : fr (cL h) y (usI (usI y1 (h + 4) cn (nI v)) (h + 5) v (nI co)) := fr_I2 (fr_I2 hf (Or.inl (by omega))) (Or.inl (by omega))
            refine w_ctI (nH_4 hh) rfl (by omega) (w_rdF (x := nI co) g4 (w_ctI (nH_5 hh) rfl hv24 ?_))
            cases fi with
            | none => exact w_ifT rfl (k6 _ ⟨y2c, y24, y25, g4⟩ y2f)
            | some f =>
              obtain ⟨f1, l, hl⟩ := b7 f rfl
              have hl24 := b8 l hl
              subst hl
              refine w_ifF (rn_neg1 (v := f) (by omega)) (w_cs0 (tc_link hh y2c hl24 hv24) ?_)
              rintro y3 ⟨q1, q2⟩
              have q3 : ∀ q, q = h + 4 ∨ q = h + 5 ∨ q = h + 10 → ¬ cP h q := fun q hq h9 => by unfold cP at h9; omega
              exact k6 y3 ⟨q1, fun k => by rw [(q2 _ (q3 _ (by omega))).2.1]; exact y24 k, fun k => by rw [(q2 _ (q3 _ (by omega))).2.1]; exact y25 k, by rw [(q2 _ (q3 _ (by omega))).1]; exact g4⟩ (fr_tr y2f (fr_mono (fun q hq => by unfold cP at hq; unfold cL; omega) q2))
          refine w_lt (by omega) (by omega) (fun hxn => ?_) (fun hxn => ?_)
          · rw [nI_m (d4 hxn)]
            exact k5 y1 na (lo - 1) (by rw [if_pos hxn]) (by rw [if_pos hxn]) (by rw [if_pos hxn]; exact g1) g2 g3 g4 hf
          · have k4 : ∀ w : Int32, w = (if c % 2 = 0 then 1 else -1) → Tt (fun K k => c_X7_load vl K k 4 (nI s) (nI (30 * s)) (nI ba) (nI (x + 1)) (nI (lo + 1)) (nI cn) (oI fi) (oI la) (nI i) (nI c) (nI x) 0 h g w (nI x) y1) Q := by
              intro w ew
              subst ew
              refine u_X7_load_4 ?_; unfold cm_X7_load_4
              refine w_ctI (nH_3 hh) rfl d2 (k5 _ (x + 1) (lo + 1) (by rw [if_neg (by omega)]) (by rw [if_neg (by omega)]) ?_ (fun k => rd_ot (by omega) (g2 k)) (fun k => rd_ot (by omega) (g3 k)) g4 (fr_I2 hf (Or.inl (by omega))))
              rw [if_neg (show ¬ x < na by omega)]
              obtain ⟨a, b, c', d, e⟩ := g1
              exact ⟨a, b, fun k => rd_ot (by omega) (c' k), fun k => rd_ot (by omega) (d k), fun k => rwC_su (F := G) e k⟩
            refine w_if (fun e1 => k4 _ ?_) (fun e1 => k4 _ ?_)
            · rw [if_pos (l2.mp e1)]
            · rw [if_neg (fun h9 => e1 (l2.mpr h9))]
        · rw [if_neg hcd] at hr
          cases hr
  refine e_X7_load ?_
  refine u_X7_load_0 ?_; unfold cm_X7_load_0
  rw [mul30]
  refine w_crI (tH_3 hg) rfl hs hC.1 (w_wrF (w_wrF (w_wrF ?_)))
  refine c1 C.2 0 (ld_init T.2.2.1 T.2.2.2 Fo Fc) _ (List.drop_zero) (by omega) ht ⟨cAt_F (Or.inl rfl) (cAt_o (o := 0) (cAt_c (o := C.1) hy)), h4, h5, po_usF_at⟩ ⟨Nat.le_refl _, Nat.le_refl _, by show 0 ≤ 12; omega, by show 0 ≤ 12; omega, Nat.le_refl _, by show 0 ≤ 24; omega, (fun f hf => by cases hf), (fun l hl => by cases hl)⟩ (fr_F2 (fr_F2 (fr_F2 fr_rf (Or.inr (by omega))) (Or.inr (by omega))) (Or.inr (by omega)))
end CL
