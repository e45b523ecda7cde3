/-! the class: summit, conjugate have an answer -/
section CS3
variable {vl : Nat → Nat} {y : ow_MS} {h n : Nat}
theorem u_X10_changesOf_1 {vl : Nat → Nat} {x1 : Int32} {x2 : Int32} {x3 : Int32} {x4 : Int32} {r0 : Nat} {t0 : Int32} {t1 : Int32} {z : ow_MS} {Q : (Int32 × ow_MS) → Prop} (H : Tt (fun K k => cm_X10_changesOf_1 vl K (c_X10_changesOf vl K k) x1 x2 x3 x4 r0 t0 t1 z) Q) : Tt (fun K k => c_X10_changesOf vl K k 1 x1 x2 x3 x4 r0 t0 t1 z) Q := w_un (fun _ _ => rfl) H
theorem u_X10_changesOf_2 {vl : Nat → Nat} {x1 : Int32} {x2 : Int32} {x3 : Int32} {x4 : Int32} {r0 : Nat} {t0 : Int32} {t1 : Int32} {z : ow_MS} {Q : (Int32 × ow_MS) → Prop} (H : Tt (fun K k => cm_X10_changesOf_2 vl K (c_X10_changesOf vl K k) x1 x2 x3 x4 r0 t0 t1 z) Q) : Tt (fun K k => c_X10_changesOf vl K k 2 x1 x2 x3 x4 r0 t0 t1 z) Q := w_un (fun _ _ => rfl) H
theorem u_X10_changesOf_3 {vl : Nat → Nat} {x1 : Int32} {x2 : Int32} {x3 : Int32} {x4 : Int32} {r0 : Nat} {t0 : Int32} {t1 : Int32} {z : ow_MS} {Q : (Int32 × ow_MS) → Prop} (H : Tt (fun K k => cm_X10_changesOf_3 vl K (c_X10_changesOf vl K k) x1 x2 x3 x4 r0 t0 t1 z) Q) : Tt (fun K k => c_X10_changesOf vl K k 3 x1 x2 x3 x4 r0 t0 t1 z) Q := w_un (fun _ _ => rfl) H
theorem e_X10_changesOf {vl : Nat → Nat} {r0 : Nat} {x1 : Int32} {z : ow_MS} {Q : (Int32 × ow_MS) → Prop} (H : Tt (fun K k => c_X10_changesOf vl K k 0 x1 0 0 0 r0 0 0 z) Q) : Te (fun K => ce_X10_changesOf vl K r0 x1 z) Q := w_te H
theorem u_X10_changesOf_0 {vl : Nat → Nat} {x1 : Int32} {x2 : Int32} {x3 : Int32} {x4 : Int32} {r0 : Nat} {t0 : Int32} {t1 : Int32} {z : ow_MS} {Q : (Int32 × ow_MS) → Prop} (H : Tt (fun K k => cm_X10_changesOf_0 vl K (c_X10_changesOf vl K k) x1 x2 x3 x4 r0 t0 t1 z) Q) : Tt (fun K k => c_X10_changesOf vl K k 0 x1 x2 x3 x4 r0 t0 t1 z) Q := w_un (fun _ _ => rfl) H
theorem tc_changesOf {x : Int32} (h1 : y.1 (h + 1) = nI n) (hn : n ≤ 5) : Te (fun K => ce_X10_changesOf vl K h x y) (fun r => r.2 = y) := by
  have c1 : ∀ (d i : Nat) (a : Int32), i + d = n → Tt (fun K t => c_X10_changesOf vl K t 1 x a (nI i) 0 h 0 0 y) (fun r => r.2 = y) := by
    intro d
    induction d with
    | zero =>
      intro i a hi
      refine u_X10_changesOf_1 ?_; unfold cm_X10_changesOf_1
      exact w_rdF h1 (w_leT (by omega) (by omega) (w_some rfl))
    | succ d ih =>
      intro i a hi
      have c2 : ∀ (e j : Nat) (a : Int32), j + e = n → Tt (fun K t => c_X10_changesOf vl K t 2 x a (nI i) (nI j) h 0 0 y) (fun r => r.2 = y) := by
        intro e
        induction e with
        | zero =>
          intro j a hj
          refine u_X10_changesOf_2 ?_; unfold cm_X10_changesOf_2
          rw [nI_1]
          exact w_rdF h1 (w_leT (by omega) (by omega) (ih (i + 1) a (by omega)))
        | succ e ihe =>
          intro j a hj
          have c3 : ∀ t0 t1 : Int32, Tt (fun K t => c_X10_changesOf vl K t 3 x a (nI i) (nI j) h t0 t1 y) (fun r => r.2 = y) := by
            intro t0 t1
            refine u_X10_changesOf_3 ?_; unfold cm_X10_changesOf_3
            rw [nI_1]
            exact ihe (j + 1) _ (by omega)
          refine u_X10_changesOf_2 ?_; unfold cm_X10_changesOf_2
          refine w_rdF h1 (w_leF (by omega) (by omega) (w_cs1 tc_image ?_))
          rintro v z ⟨e1, e2⟩
          dsimp only at e2
          rw [e2]
          refine w_cs1 tc_image ?_
          rintro v2 z2 ⟨e3, e4⟩
          dsimp only at e4
          rw [e4]
          exact w_if (fun _ => c3 _ _) (fun _ => c3 _ _)
      refine u_X10_changesOf_1 ?_; unfold cm_X10_changesOf_1
      rw [nI_1]
      exact w_rdF h1 (w_leF (by omega) (by omega) (c2 (n - (i + 1)) (i + 1) a (by omega)))
  refine e_X10_changesOf ?_
  refine u_X10_changesOf_0 ?_; unfold cm_X10_changesOf_0
  exact c1 n 0 0 (by omega)
theorem sh_n : ∀ k : Fin 5, (1 : Int32) <<< (((2 * nI k.val) : Int32) &&& 31) = nI (4 ^ k.val) := by decide +kernel
def lsP (h g : Nat) : Prop := h + 8 ≤ g ∧ g ≤ h + 11
theorem u_X10_listSimples_1 {vl : Nat → Nat} {x1 : Int32} {x2 : Int32} {x3 : Int32} {x4 : Int32} {x5 : Int32} {r0 : Nat} {t0 : Int32} {z : ow_MS} {Q : ow_MS → Prop} (H : Tt (fun K k => cm_X10_listSimples_1 vl K (c_X10_listSimples vl K k) x1 x2 x3 x4 x5 r0 t0 z) Q) : Tt (fun K k => c_X10_listSimples vl K k 1 x1 x2 x3 x4 x5 r0 t0 z) Q := w_un (fun _ _ => rfl) H
theorem u_X10_listSimples_2 {vl : Nat → Nat} {x1 : Int32} {x2 : Int32} {x3 : Int32} {x4 : Int32} {x5 : Int32} {r0 : Nat} {t0 : Int32} {z : ow_MS} {Q : ow_MS → Prop} (H : Tt (fun K k => cm_X10_listSimples_2 vl K (c_X10_listSimples vl K k) x1 x2 x3 x4 x5 r0 t0 z) Q) : Tt (fun K k => c_X10_listSimples vl K k 2 x1 x2 x3 x4 x5 r0 t0 z) Q := w_un (fun _ _ => rfl) H
theorem u_X10_listSimples_6 {vl : Nat → Nat} {x1 : Int32} {x2 : Int32} {x3 : Int32} {x4 : Int32} {x5 : Int32} {r0 : Nat} {t0 : Int32} {z : ow_MS} {Q : ow_MS → Prop} (H : Tt (fun K k => cm_X10_listSimples_6 vl K (c_X10_listSimples vl K k) x1 x2 x3 x4 x5 r0 t0 z) Q) : Tt (fun K k => c_X10_listSimples vl K k 6 x1 x2 x3 x4 x5 r0 t0 z) Q := w_un (fun _ _ => rfl) H
theorem u_X10_listSimples_5 {vl : Nat → Nat} {x1 : Int32} {x2 : Int32} {x3 : Int32} {x4 : Int32} {x5 : Int32} {r0 : Nat} {t0 : Int32} {z : ow_MS} {Q : ow_MS → Prop} (H : Tt (fun K k => cm_X10_listSimples_5 vl K (c_X10_listSimples vl K k) x1 x2 x3 x4 x5 r0 t0 z) Q) : Tt (fun K k => c_X10_listSimples vl K k 5 x1 x2 x3 x4 x5 r0 t0 z) Q := w_un (fun _ _ => rfl) H
theorem u_X10_listSimples_4 {vl : Nat → Nat} {x1 : Int32} {x2 : Int32} {x3 : Int32} {x4 : Int32} {x5 : Int32} {r0 : Nat} {t0 : Int32} {z : ow_MS} {Q : ow_MS → Prop} (H : Tt (fun K k => cm_X10_listSimples_4 vl K (c_X10_listSimples vl K k) x1 x2 x3 x4 x5 r0 t0 z) Q) : Tt (fun K k => c_X10_listSimples vl K k 4 x1 x2 x3 x4 x5 r0 t0 z) Q := w_un (fun _ _ => rfl) H
theorem u_X10_listSimples_3 {vl : Nat → Nat} {x1 : Int32} {x2 : Int32} {x3 : Int32} {x4 : Int32} {x5 : Int32} {r0 : Nat} {t0 : Int32} {z : ow_MS} {Q : ow_MS → Prop} (H : Tt (fun K k => cm_X10_listSimples_3 vl K (c_X10_listSimples vl K k) x1 x2 x3 x4 x5 r0 t0 z) Q) : Tt (fun K k => c_X10_listSimples vl K k 3 x1 x2 x3 x4 x5 r0 t0 z) Q := w_un (fun _ _ => rfl) H
theorem e_X10_listSimples {vl : Nat → Nat} {r0 : Nat} {z : ow_MS} {Q : ow_MS → Prop} (H : Tt (fun K k => c_X10_listSimples vl K k 0 0 0 0 0 0 r0 0 z) Q) : Te (fun K => ce_X10_listSimples vl K r0 z) Q := w_te H
theorem u_X10_listSimples_0 {vl : Nat → Nat} {x1 : Int32} {x2 : Int32} {x3 : Int32} {x4 : Int32} {x5 : Int32} {r0 : Nat} {t0 : Int32} {z : ow_MS} {Q : ow_MS → Prop} (H : Tt (fun K k => cm_X10_listSimples_0 vl K (c_X10_listSimples vl K k) x1 x2 x3 x4 x5 r0 t0 z) Q) : Tt (fun K k => c_X10_listSimples vl K k 0 x1 x2 x3 x4 x5 r0 t0 z) Q := w_un (fun _ _ => rfl) H
theorem tc_listSimples (hh : sO h) (h1 : y.1 (h + 1) = nI n) (hn : n ≤ 4) : Te (fun K => ce_X10_listSimples vl K h y) (fun y1 => (∃ c, c ≤ 24 ∧ y1.1 (h + 11) = nI c) ∧ fr (lsP h) y y1) := by
  let Q : ow_MS → Prop := fun y1 => (∃ c, c ≤ 24 ∧ y1.1 (h + 11) = nI c) ∧ fr (lsP h) y y1
  let J : ow_MS → Prop := fun z => (∃ c, c ≤ 24 ∧ z.1 (h + 11) = nI c) ∧ fr (lsP h) y z
  have s1 : ∀ {z : ow_MS}, J z → z.1 (h + 1) = nI n := fun q => (q.2 (h + 1) (by unfold lsP; omega)).1.trans h1
  have p4 : 4 ^ n ≤ 256 := by
    have : n = 0 ∨ n = 1 ∨ n = 2 ∨ n = 3 ∨ n = 4 := by omega
    rcases this with rfl | rfl | rfl | rfl | rfl <;> decide
  have hsh : (1 : Int32) <<< (((2 * nI n) : Int32) &&& 31) = nI (4 ^ n) := sh_n ⟨n, by omega⟩
  have c1 : ∀ (d i : Nat) (z : ow_MS), i + d = 7 → J z → Tt (fun K t => c_X10_listSimples vl K t 1 (nI i) 0 0 0 0 h 0 z) Q := by
    intro d
    induction d with
    | zero =>
      intro i z hi q
      refine u_X10_listSimples_1 ?_; unfold cm_X10_listSimples_1
      exact w_ltT (a := 6) (by omega) (by omega) (w_some q)
    | succ d ih =>
      intro i z hi q
      have c2 : ∀ (e k : Nat) (z : ow_MS), k + e = 4 ^ n → J z → Tt (fun K t => c_X10_listSimples vl K t 2 (nI i) (nI k) 0 0 0 h 0 z) Q := by
        intro e
        induction e with
        | zero =>
          intro k z hk q
          refine u_X10_listSimples_2 ?_; unfold cm_X10_listSimples_2
          refine w_rdF (s1 q) ?_
          rw [hsh, nI_1]
          exact w_leT (by omega) (by omega) (ih (i + 1) z (by omega) q)
        | succ e ihe =>
          intro k z hk q
          have c6 : ∀ (a b c : Int32) (z : ow_MS), J z → Tt (fun K t => c_X10_listSimples vl K t 6 (nI i) (nI k) a b c h 0 z) Q := by
            intro a b c z q
            refine u_X10_listSimples_6 ?_; unfold cm_X10_listSimples_6
            rw [nI_1]
            exact ihe (k + 1) z (by omega) q
          have c5 : ∀ (a b c t0 : Int32), (t0 = 0 ∨ ∃ m, m < 24 ∧ z.1 (h + 11) = nI m) → Tt (fun K t => c_X10_listSimples vl K t 5 (nI i) (nI k) a b c h t0 z) Q := by
            intro a b c t0 ht
            refine u_X10_listSimples_5 ?_; unfold cm_X10_listSimples_5
            refine w_if (fun _ => c6 _ _ _ z q) (fun e0 => ?_)
            rcases ht with ht | ⟨m, m24, em⟩
            · exact absurd ht e0
            · refine w_cs1 (tc_changesOf (s1 q) (by omega)) ?_
              rintro v z1 e1
              dsimp only at e1
              rw [e1]
              refine w_if (fun _ => w_rdF em (w_ctI (sO_8 hh) rfl m24 (w_rdF (x := nI m) em (w_cs1 (tc_changesOf (y := usI z (h + 8) m a) (show (usI z (h + 8) m a).1 (h + 1) = nI n from s1 (z := z) q) (by omega)) ?_)))) (fun _ => c6 _ _ _ z q)
              rintro v2 z2 e2
              dsimp only at e2
              rw [e2]
              refine w_ctI (sO_9 hh) rfl m24 (w_rdF (x := nI m) em (w_wrF ?_))
              rw [nI_1]
              exact c6 _ _ _ _ ⟨⟨m + 1, by omega, po_usF_at⟩, fr_F2 (fr_I2 (fr_I2 q.2 (by unfold lsP; omega)) (by unfold lsP; omega)) (by unfold lsP; omega)⟩
          have c4 : ∀ (a b c : Int32), Tt (fun K t => c_X10_listSimples vl K t 4 (nI i) (nI k) a b c h 0 z) Q := by
            intro a b c
            refine u_X10_listSimples_4 ?_; unfold cm_X10_listSimples_4
            exact c5 _ _ _ 0 (Or.inl rfl)
          have c3 : ∀ (f j : Nat) (a b : Int32), j + f = n → Tt (fun K t => c_X10_listSimples vl K t 3 (nI i) (nI k) a b (nI j) h 0 z) Q := by
            intro f
            induction f with
            | zero =>
              intro j a b hj
              obtain ⟨m, m1, m2⟩ := id q.1
              refine u_X10_listSimples_3 ?_; unfold cm_X10_listSimples_3
              rw [show uw_len (cX vl) z (h + 8) = 24 from sO_8 hh]
              exact w_rdF (s1 q) (w_leT (by omega) (by omega) (w_rdF (s1 q) (w_if (fun _ => w_rdF m2 (w_le (a := 24) (by omega) (by omega) (fun _ => c4 _ _ _) (fun h9 => c5 _ _ _ 1 (Or.inr ⟨m, h9, m2⟩)))) (fun _ => c4 _ _ _))))
            | succ f ihf =>
              intro j a b hj
              refine u_X10_listSimples_3 ?_; unfold cm_X10_listSimples_3
              rw [nI_1]
              exact w_rdF (s1 q) (w_leF (by omega) (by omega) (ihf (j + 1) _ _ (by omega)))
          refine u_X10_listSimples_2 ?_; unfold cm_X10_listSimples_2
          refine w_rdF (s1 q) ?_
          rw [hsh]
          exact w_leF (by omega) (by omega) (c3 n 0 0 0 (by omega))
      refine u_X10_listSimples_1 ?_; unfold cm_X10_listSimples_1
      exact w_ltF (a := 6) (by omega) (by omega) (c2 (4 ^ n) 0 z (by omega) q)
  refine e_X10_listSimples ?_
  refine u_X10_listSimples_0 ?_; unfold cm_X10_listSimples_0
  exact w_wrF (c1 6 1 _ (by omega) ⟨⟨0, by omega, po_usF_at⟩, fr_F (by unfold lsP; omega)⟩)
end CS3
