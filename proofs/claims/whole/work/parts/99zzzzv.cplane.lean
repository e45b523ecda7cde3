/-! the class: faces marked, isPlane -/
def cF (f q : Nat) : Prop := q = f + 1 ∨ q = f + 2
section CP
variable {vl : Nat → Nat} {y : ow_MS} {h f : Nat} {T : ow_NT}
theorem u_X4_mark_1 {vl : Nat → Nat} {x2 : Int32} {x3 : Int32} {x4 : Int32} {x5 : Int32} {r0 : Nat} {r1 : Nat} {z : ow_MS} {Q : ow_MS → Prop} (H : Tt (fun K k => cm_X4_mark_1 vl K (c_X4_mark vl K k) x2 x3 x4 x5 r0 r1 z) Q) : Tt (fun K k => c_X4_mark vl K k 1 x2 x3 x4 x5 r0 r1 z) Q := w_un (fun _ _ => rfl) H
theorem u_X4_mark_4 {vl : Nat → Nat} {x2 : Int32} {x3 : Int32} {x4 : Int32} {x5 : Int32} {r0 : Nat} {r1 : Nat} {z : ow_MS} {Q : ow_MS → Prop} (H : Tt (fun K k => cm_X4_mark_4 vl K (c_X4_mark vl K k) x2 x3 x4 x5 r0 r1 z) Q) : Tt (fun K k => c_X4_mark vl K k 4 x2 x3 x4 x5 r0 r1 z) Q := w_un (fun _ _ => rfl) H
theorem u_X4_mark_3 {vl : Nat → Nat} {x2 : Int32} {x3 : Int32} {x4 : Int32} {x5 : Int32} {r0 : Nat} {r1 : Nat} {z : ow_MS} {Q : ow_MS → Prop} (H : Tt (fun K k => cm_X4_mark_3 vl K (c_X4_mark vl K k) x2 x3 x4 x5 r0 r1 z) Q) : Tt (fun K k => c_X4_mark vl K k 3 x2 x3 x4 x5 r0 r1 z) Q := w_un (fun _ _ => rfl) H
theorem u_X4_mark_2 {vl : Nat → Nat} {x2 : Int32} {x3 : Int32} {x4 : Int32} {x5 : Int32} {r0 : Nat} {r1 : Nat} {z : ow_MS} {Q : ow_MS → Prop} (H : Tt (fun K k => cm_X4_mark_2 vl K (c_X4_mark vl K k) x2 x3 x4 x5 r0 r1 z) Q) : Tt (fun K k => c_X4_mark vl K k 2 x2 x3 x4 x5 r0 r1 z) Q := w_un (fun _ _ => rfl) H
theorem e_X4_mark {vl : Nat → Nat} {r0 : Nat} {r1 : Nat} {z : ow_MS} {Q : ow_MS → Prop} (H : Tt (fun K k => c_X4_mark vl K k 0 0 0 0 0 r0 r1 z) Q) : Te (fun K => ce_X4_mark vl K r0 r1 z) Q := w_te H
theorem u_X4_mark_0 {vl : Nat → Nat} {x2 : Int32} {x3 : Int32} {x4 : Int32} {x5 : Int32} {r0 : Nat} {r1 : Nat} {z : ow_MS} {Q : ow_MS → Prop} (H : Tt (fun K k => cm_X4_mark_0 vl K (c_X4_mark vl K k) x2 x3 x4 x5 r0 r1 z) Q) : Tt (fun K k => c_X4_mark vl K k 0 x2 x3 x4 x5 r0 r1 z) Q := w_un (fun _ _ => rfl) H
theorem tc_faces (hh : nH h) (hF : fH f) (hd : h + 12 ≤ f ∨ f + 9 ≤ h) (hy : cAt y h T) (hb : ow_b24 T.2.2.1) (hv : vn T.1 T.2.2.1) (hT : T.1 ≤ 12) : Te (fun K => ce_X4_mark vl K f h y) (fun y1 => rwC y1 (f + 1) (mr_out (fc_on T.2.2.1 T.2.2.2) (4 * T.1) (np_fill (y.2.1 (f + 1)) 0 (4 * T.1) (-1)) (4 * T.1)).1 ∧ y1.1 (f + 2) = nI (mr_out (fc_on T.2.2.1 T.2.2.2) (4 * T.1) (np_fill (y.2.1 (f + 1)) 0 (4 * T.1) (-1)) (4 * T.1)).2 ∧ fr (cF f) y y1) := by
  generalize hF0 : np_fill (y.2.1 (f + 1)) 0 (4 * T.1) (-1) = F0
  let N := fc_on T.2.2.1 T.2.2.2
  generalize hvv : 4 * T.1 = vs at *
  let Q : ow_MS → Prop := fun y1 => rwC y1 (f + 1) (mr_out N vs F0 vs).1 ∧ y1.1 (f + 2) = nI (mr_out N vs F0 vs).2 ∧ fr (cF f) y y1
  have hvs : vs ≤ 48 := by omega
  have hNv : ∀ k, k < vs → N k < vs := fun k hk => by rw [← hvv]; exact fc_on_vn hv _ (by omega)
  have cAy : ∀ {y1 : ow_MS}, fr (cF f) y y1 → cAt y1 h T := fun hf => cAt_fr hf (fun q hq hr => by unfold cP at hq; unfold cF at hr; omega) hy
  have c1 : ∀ (d s : Nat) (y1 : ow_MS), s + d = vs → rwC y1 (f + 1) (mr_out N vs F0 s).1 → y1.1 (f + 2) = nI (mr_out N vs F0 s).2 → fr (cF f) y y1 → Tt (fun K t => c_X4_mark vl K t 1 (nI vs) (nI s) 0 0 f h y1) Q := by
    intro d
    induction d with
    | zero =>
      intro s y1 hs h1 h2 hf
      have e : s = vs := by omega
      rw [e] at h1 h2
      refine u_X4_mark_1 ?_; unfold cm_X4_mark_1
      exact w_leT (by omega) (by omega) (w_some ⟨h1, h2, hf⟩)
    | succ d ih =>
      intro s y1 hs h1 h2 hf
      have hle := mr_out_le N vs F0 s
      have eo : mr_out N vs F0 (s + 1) = if (mr_out N vs F0 s).1 s = -1 then (mr_in N (nI (mr_out N vs F0 s).2) vs (mr_out N vs F0 s).1 s, (mr_out N vs F0 s).2 + 1) else mr_out N vs F0 s := rfl
      have k4 : ∀ (y1 : ow_MS), rwC y1 (f + 1) (mr_out N vs F0 (s + 1)).1 → y1.1 (f + 2) = nI (mr_out N vs F0 (s + 1)).2 → fr (cF f) y y1 → Tt (fun K t => c_X4_mark vl K t 4 (nI vs) (nI s) 0 0 f h y1) Q := by
        intro y1 h1 h2 hf
        refine u_X4_mark_4 ?_; unfold cm_X4_mark_4
        rw [nI_1]
        exact ih (s + 1) y1 (by omega) h1 h2 hf
      refine u_X4_mark_1 ?_; unfold cm_X4_mark_1
      refine w_leF (by omega) (by omega) (w_crI (fH_1 hF) rfl (by omega) (h1 s) (w_if (fun e => ?_) (fun e => ?_)))
      · rw [if_pos e] at eo
        generalize (mr_out N vs F0 s).2 = q at *
        have k3 : ∀ (x3 x4 : Int32) (y1 : ow_MS), rwC y1 (f + 1) (mr_out N vs F0 (s + 1)).1 → y1.1 (f + 2) = nI q → fr (cF f) y y1 → Tt (fun K t => c_X4_mark vl K t 3 (nI vs) (nI s) x3 x4 f h y1) Q := by
          intro x3 x4 y1 h1 h2 hf
          refine u_X4_mark_3 ?_; unfold cm_X4_mark_3
          refine w_rdF h2 ?_
          rw [nI_1]
          refine w_wrF (k4 _ h1 ?_ (fr_F2 hf (Or.inr rfl)))
          rw [eo]
          exact po_usF_at
        have c2 : ∀ (e i v : Nat) (F : Nat → Int32) (y1 : ow_MS), i + e = vs → v < vs → rwC y1 (f + 1) F → y1.1 (f + 2) = nI q → fr (cF f) y y1 → mr_in N (nI q) e F v = (mr_out N vs F0 (s + 1)).1 → Tt (fun K t => c_X4_mark vl K t 2 (nI vs) (nI s) (nI v) (nI i) f h y1) Q := by
          intro e
          induction e with
          | zero =>
            intro i v F y1 hi hv h1 h2 hf hm
            have hm : F = _ := hm
            refine u_X4_mark_2 ?_; unfold cm_X4_mark_2
            exact w_leT (by omega) (by omega) (k3 _ _ y1 (by rw [← hm]; exact h1) h2 hf)
          | succ e ihe =>
            intro i v F y1 hi hv h1 h2 hf hm
            have hm : (if F v = -1 then mr_in N (nI q) e (su F v (nI q)) (N v) else F) = _ := hm
            refine u_X4_mark_2 ?_; unfold cm_X4_mark_2
            refine w_leF (by omega) (by omega) (w_crI (fH_1 hF) rfl (by omega) (h1 v) (w_if (fun e1 => ?_) (fun e1 => ?_)))
            · rw [if_pos e1] at hm
              have hf2 : fr (cF f) y (usI y1 (f + 1) v (nI q)) := fr_I2 hf (Or.inl rfl)
              refine w_rdF h2 (w_ctI (fH_1 hF) rfl (by omega) (w_cs1 (tc_onward hh (cAy hf2) hb (show v < 48 by omega)) ?_))
              rintro a y2 ⟨r1, r2⟩
              dsimp only at r1 r2
              subst r1
              subst r2
              rw [nI_1]
              exact ihe (i + 1) _ _ _ (by omega) (hNv v hv) (rwC_su h1) h2 hf2 hm
            · rw [if_neg e1] at hm
              exact k3 _ _ y1 (by rw [← hm]; exact h1) h2 hf
        exact c2 vs 0 s _ y1 (by omega) (by omega) h1 h2 hf (by rw [eo])
      · rw [if_neg e] at eo
        refine k4 y1 ?_ ?_ hf
        · rw [eo]
          exact h1
        · rw [eo]
          exact h2
  refine e_X4_mark ?_
  refine u_X4_mark_0 ?_; unfold cm_X4_mark_0
  refine w_rdF hy.1 ?_
  rw [show (4 : Int32) * nI T.1 = nI (4 * T.1) from pk_mul 4 _, hvv]
  refine w_cs0 (tc_fill (a := 0) (fH_1 hF) (by omega) hvs (by omega)) ?_
  rintro y1 ⟨h1, f1⟩
  refine w_wrF (c1 vs 0 _ (by omega) (fun k => ?_) po_usF_at (fr_F2 (fr_mono (fun g hg => Or.inl hg) f1) (Or.inr rfl)))
  rw [← hF0]
  exact h1 k
theorem e_X4_isPlane {vl : Nat → Nat} {r0 : Nat} {r1 : Nat} {z : ow_MS} {Q : (Int32 × ow_MS) → Prop} (H : Tt (fun K _ => cm_X4_isPlane_0 vl K r0 r1 z) Q) : Te (fun K => ce_X4_isPlane vl K r0 r1 z) Q := w_te0 H
theorem tc_isPlane (hh : nH h) (hF : fH f) (hd : h + 12 ≤ f ∨ f + 9 ≤ h) (hy : cAt y h T) (hb : ow_b24 T.2.2.1) (hv : vn T.1 T.2.2.1) (hT : T.1 ≤ 12) : Te (fun K => ce_X4_isPlane vl K f h y) (fun r => (∃ a b : Nat, a ≤ 48 ∧ b ≤ 24 ∧ a = (mr_out (fc_on T.2.2.1 T.2.2.2) (4 * T.1) (np_fill (y.2.1 (f + 1)) 0 (4 * T.1) (-1)) (4 * T.1)).2 ∧ b = (mp_out T.2.2.1.1 (2 * T.1) (np_fill (y.2.1 (h + 6)) 0 (2 * T.1) (-1)) (2 * T.1)).2 ∧ r.1 = (if a = T.1 + 2 * b then 1 else 0)) ∧ fr (fun q => cQ h q ∨ cF f q) y r.2) := by
  refine e_X4_isPlane ?_; unfold cm_X4_isPlane_0
  refine w_cs0 (tc_markParts hh hy (fun k hk => (hv k hk).1) hT) ?_
  rintro y1 ⟨p1, p2, p3⟩
  have hy1 : cAt y1 h T := cAt_fr p3 (fun q hq hr => by unfold cP at hq; unfold cQ at hr; omega) hy
  have e1 : y1.2.1 (f + 1) = y.2.1 (f + 1) := (p3 _ (fun h9 => by unfold cQ at h9; omega)).2.1
  refine w_cs0 (tc_faces hh hF hd hy1 hb hv hT) ?_
  rintro y2 ⟨q1, q2, q3⟩
  rw [e1] at q2
  have hb1 := mr_out_le (fc_on T.2.2.1 T.2.2.2) (4 * T.1) (np_fill (y.2.1 (f + 1)) 0 (4 * T.1) (-1)) (4 * T.1)
  have hb2 := mp_out_le T.2.2.1.1 (2 * T.1) (np_fill (y.2.1 (h + 6)) 0 (2 * T.1) (-1)) (2 * T.1)
  have hy2 : cAt y2 h T := cAt_fr q3 (fun q hq hr => by unfold cP at hq; unfold cF at hr; omega) hy1
  have e11 : y2.1 (h + 11) = nI (mp_out T.2.2.1.1 (2 * T.1) (np_fill (y.2.1 (h + 6)) 0 (2 * T.1) (-1)) (2 * T.1)).2 := by
    rw [(q3 _ (fun h9 => by unfold cF at h9; omega)).1]
    exact p2
  have hf : fr (fun q => cQ h q ∨ cF f q) y y2 := fr_tr (fr_mono (fun q hq => Or.inl hq) p3) (fr_mono (fun q hq => Or.inr hq) q3)
  generalize ea : (mr_out (fc_on T.2.2.1 T.2.2.2) (4 * T.1) (np_fill (y.2.1 (f + 1)) 0 (4 * T.1) (-1)) (4 * T.1)).2 = a at *
  generalize eb : (mp_out T.2.2.1.1 (2 * T.1) (np_fill (y.2.1 (h + 6)) 0 (2 * T.1) (-1)) (2 * T.1)).2 = b at *
  refine w_rdF q2 (w_rdF hy2.1 (w_rdF e11 ?_))
  rw [show (2 : Int32) * nI b = nI (2 * b) from pk_mul 2 _, nI_add]
  refine w_eqN (by omega) (by omega) (fun e => w_okZ (Or.inr rfl) (w_some ⟨⟨a, b, by omega, by omega, rfl, rfl, ?_⟩, hf⟩)) (fun e => w_okZ (Or.inl rfl) (w_some ⟨⟨a, b, by omega, by omega, rfl, rfl, ?_⟩, hf⟩))
  · rw [if_pos e]
  · rw [if_neg e]
end CP
