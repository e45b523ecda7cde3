/-! summit: the class's list of simple braids -/
def ls2 (k j : Nat) : Int32 := ((nI k >>> (((2 * nI j) : Int32) &&& 31)) &&& 3)
def lsSm (k : Nat) : Nat → Int32
  | 0 => 0
  | j + 1 => lsSm k j ||| (ls2 k j <<< (((4 * nI j) : Int32) &&& 31))
def lsPl (k : Nat) : Nat → Int32
  | 0 => 0
  | j + 1 => lsPl k j ||| ((1 : Int32) <<< (ls2 k j &&& 31))
def chJ (x : Int32) (i : Nat) (a : Int32) : Nat → Int32
  | 0 => a
  | d + 1 => chJ x i a d ||| (if foJ x (nI i) ≤ foJ x (nI (i + 1 + d)) then 0 else ((1 : Int32) <<< ((((4 * nI i) + nI (i + 1 + d)) : Int32) &&& 31)))
def chA9 (n : Nat) (x : Int32) : Nat → Int32
  | 0 => 0
  | i + 1 => chJ x i (chA9 n x i) (n - (i + 1))
def lsN (n i k : Nat) (L : List (Int32 × Int32)) : List (Int32 × Int32) := if lsPl k n = ((1 : Int32) <<< (nI n &&& 31)) - 1 ∧ L.length < 24 ∧ ow_bc (chA9 n (lsSm k n) n) = nI i then L ++ [(lsSm k n, chA9 n (lsSm k n) n)] else L
def lsI9 (n i : Nat) : Nat → List (Int32 × Int32) → List (Int32 × Int32)
  | 0, L => L
  | k + 1, L => lsN n i k (lsI9 n i k L)
def lsF (n : Nat) : Nat → List (Int32 × Int32)
  | 0 => []
  | i + 1 => lsI9 n (i + 1) (4 ^ n) (lsF n i)
def lsR (y : ow_MS) (h : Nat) (L : List (Int32 × Int32)) : Prop := y.1 (h + 11) = nI L.length ∧ L.length ≤ 24 ∧ ∀ s p, L[s]? = some p → y.2.1 (h + 8) s = p.1 ∧ y.2.1 (h + 9) s = p.2
section XS7B
variable {vl : Nat → Nat} {y : ow_MS} {h n : Nat}
theorem xc_changesOf {x : Int32} (h1 : y.1 (h + 1) = nI n) (hn : n ≤ 5) : Te (fun K => ce_X10_changesOf vl K h x y) (fun r => r.1 = chA9 n x n ∧ r.2 = y) := by
  let Q : Int32 × ow_MS → Prop := fun r => r.1 = chA9 n x n ∧ r.2 = y
  have c1 : ∀ (d i : Nat), i + d = n → Tt (fun K t => c_X10_changesOf vl K t 1 x (chA9 n x i) (nI i) 0 h 0 0 y) Q := by
    intro d
    induction d with
    | zero =>
      intro i hi
      have ei : i = n := by omega
      subst ei
      refine u_X10_changesOf_1 ?_; unfold cm_X10_changesOf_1
      exact w_rdF h1 (w_leT (by omega) (by omega) (w_some ⟨rfl, rfl⟩))
    | succ d ih =>
      intro i hi
      have c2 : ∀ (e f : Nat), i + 1 + f + e = n → Tt (fun K t => c_X10_changesOf vl K t 2 x (chJ x i (chA9 n x i) f) (nI i) (nI (i + 1 + f)) h 0 0 y) Q := by
        intro e
        induction e with
        | zero =>
          intro f hf
          have ef : f = n - (i + 1) := by omega
          refine u_X10_changesOf_2 ?_; unfold cm_X10_changesOf_2
          rw [nI_1 i]
          refine w_rdF h1 (w_leT (by omega) (by omega) ?_)
          rw [ef]
          exact ih (i + 1) (by omega)
        | succ e ihe =>
          intro f hf
          have c3 : ∀ (t0 : Int32), t0 = (if foJ x (nI i) ≤ foJ x (nI (i + 1 + f)) then 0 else ((1 : Int32) <<< ((((4 * nI i) + nI (i + 1 + f)) : Int32) &&& 31))) → Tt (fun K t => c_X10_changesOf vl K t 3 x (chJ x i (chA9 n x i) f) (nI i) (nI (i + 1 + f)) h t0 (chJ x i (chA9 n x i) f) y) Q := by
            intro t0 ht0
            refine u_X10_changesOf_3 ?_; unfold cm_X10_changesOf_3
            rw [nI_1 (i + 1 + f), ht0]
            exact ihe (f + 1) (by omega)
          refine u_X10_changesOf_2 ?_; unfold cm_X10_changesOf_2
          refine w_rdF h1 (w_leF (by omega) (by omega) (w_cs1 tc_image ?_))
          rintro v z ⟨e1, e2⟩
          dsimp only at e1 e2
          rw [e2]
          refine w_cs1 tc_image ?_
          rintro v2 z2 ⟨e3, e4⟩
          dsimp only at e3 e4
          rw [e4, e1, e3]
          exact w_if (fun h9 => c3 _ (if_pos h9).symm) (fun h9 => c3 _ (if_neg h9).symm)
      refine u_X10_changesOf_1 ?_; unfold cm_X10_changesOf_1
      rw [nI_1]
      exact w_rdF h1 (w_leF (by omega) (by omega) (c2 (n - (i + 1)) 0 (by omega)))
  refine e_X10_changesOf ?_
  refine u_X10_changesOf_0 ?_; unfold cm_X10_changesOf_0
  exact c1 n 0 (by omega)
theorem xc_listSimples (hh : sO h) (h1 : y.1 (h + 1) = nI n) (hn : n ≤ 4) : Te (fun K => ce_X10_listSimples vl K h y) (fun y1 => lsR y1 h (lsF n 6) ∧ fr (lsP h) y y1) := by
  let Q : ow_MS → Prop := fun y1 => lsR y1 h (lsF n 6) ∧ fr (lsP h) y y1
  have s1 : ∀ {z : ow_MS}, fr (lsP h) y z → z.1 (h + 1) = nI n := fun q => (q (h + 1) (by unfold lsP; omega)).1.trans h1
  have p4 : 4 ^ n ≤ 256 := by
    have : n = 0 ∨ n = 1 ∨ n = 2 ∨ n = 3 ∨ n = 4 := by omega
    rcases this with rfl | rfl | rfl | rfl | rfl <;> decide
  have hsh : (1 : Int32) <<< (((2 * nI n) : Int32) &&& 31) = nI (4 ^ n) := sh_n ⟨n, by omega⟩
  have c1 : ∀ (d i : Nat) (z : ow_MS), i + d = 6 → lsR z h (lsF n i) → fr (lsP h) y z → Tt (fun K t => c_X10_listSimples vl K t 1 (nI (i + 1)) 0 0 0 0 h 0 z) Q := by
    intro d
    induction d with
    | zero =>
      intro i z hi q qf
      have ei : i = 6 := by omega
      subst ei
      refine u_X10_listSimples_1 ?_; unfold cm_X10_listSimples_1
      exact w_ltT (a := 6) (by omega) (by omega) (w_some ⟨q, qf⟩)
    | succ d ih =>
      intro i z hi q qf
      have c2 : ∀ (e k : Nat) (z : ow_MS), k + e = 4 ^ n → lsR z h (lsI9 n (i + 1) k (lsF n i)) → fr (lsP h) y z → Tt (fun K t => c_X10_listSimples vl K t 2 (nI (i + 1)) (nI k) 0 0 0 h 0 z) Q := by
        intro e
        induction e with
        | zero =>
          intro k z hk q qf
          have ek : k = 4 ^ n := by omega
          subst ek
          refine u_X10_listSimples_2 ?_; unfold cm_X10_listSimples_2
          refine w_rdF (s1 qf) ?_
          rw [hsh, nI_1]
          exact w_leT (by omega) (by omega) (ih (i + 1) z (by omega) q qf)
        | succ e ihe =>
          intro k z hk q qf
          generalize hL : lsI9 n (i + 1) k (lsF n i) = L at q
          have eN : lsI9 n (i + 1) (k + 1) (lsF n i) = lsN n (i + 1) k L := by
            show lsN n (i + 1) k (lsI9 n (i + 1) k (lsF n i)) = _
            rw [hL]
          have c6 : ∀ (a b c : Int32) (z : ow_MS), lsR z h (lsN n (i + 1) k L) → fr (lsP h) y z → Tt (fun K t => c_X10_listSimples vl K t 6 (nI (i + 1)) (nI k) a b c h 0 z) Q := by
            intro a b c z q qf
            refine u_X10_listSimples_6 ?_; unfold cm_X10_listSimples_6
            rw [nI_1]
            exact ihe (k + 1) z (by omega) (by rw [eN]; exact q) qf
          have no : ¬ (lsPl k n = ((1 : Int32) <<< (nI n &&& 31)) - 1 ∧ L.length < 24 ∧ ow_bc (chA9 n (lsSm k n) n) = nI (i + 1)) → ∀ (a b c : Int32), Tt (fun K t => c_X10_listSimples vl K t 6 (nI (i + 1)) (nI k) a b c h 0 z) Q := fun h9 a b c => c6 a b c z (by unfold lsN; rw [if_neg h9]; exact q) qf
          have c5 : ∀ (b c t0 : Int32), (t0 = 0 ∧ ¬ (lsPl k n = ((1 : Int32) <<< (nI n &&& 31)) - 1 ∧ L.length < 24) ∨ t0 = 1 ∧ lsPl k n = ((1 : Int32) <<< (nI n &&& 31)) - 1 ∧ L.length < 24) → Tt (fun K t => c_X10_listSimples vl K t 5 (nI (i + 1)) (nI k) (lsSm k n) b c h t0 z) Q := by
            intro b c t0 ht
            refine u_X10_listSimples_5 ?_; unfold cm_X10_listSimples_5
            rcases ht with ⟨rfl, ht⟩ | ⟨rfl, p1, p2⟩
            · exact w_ifT rfl (no (fun h9 => ht ⟨h9.1, h9.2.1⟩) _ _ _)
            · refine w_ifF (by decide) (w_cs1 (xc_changesOf (s1 qf) (by omega)) ?_)
              rintro v z1 ⟨e0, e1⟩
              dsimp only at e0 e1
              rw [e1, e0]
              refine w_if (fun hb => w_rdF q.1 (w_ctI (sO_8 hh) rfl p2 (w_rdF (x := nI L.length) q.1 (w_cs1 (xc_changesOf (y := usI z (h + 8) L.length (lsSm k n)) (show (usI z (h + 8) L.length (lsSm k n)).1 (h + 1) = nI n from s1 (z := z) qf) (by omega)) ?_)))) (fun hb => no (fun h9 => hb h9.2.2) _ _ _)
              rintro v2 z2 ⟨e2, e3⟩
              dsimp only at e2 e3
              rw [e3, e2]
              refine w_ctI (sO_9 hh) rfl p2 (w_rdF (x := nI L.length) q.1 (w_wrF ?_))
              rw [nI_1]
              refine c6 _ _ _ _ ?_ (fr_F2 (fr_I2 (fr_I2 qf (by unfold lsP; omega)) (by unfold lsP; omega)) (by unfold lsP; omega))
              have eL : lsN n (i + 1) k L = L ++ [(lsSm k n, chA9 n (lsSm k n) n)] := if_pos ⟨p1, p2, hb⟩
              rw [eL]
              refine ⟨?_, by rw [List.length_append]; show L.length + 1 ≤ 24; omega, fun s p hs => ?_⟩
              · rw [List.length_append]
                exact po_usF_at
              · have hl := (List.getElem?_eq_some_iff.mp hs).1
                rw [List.length_append, List.length_singleton] at hl
                show (usI (usI z (h + 8) L.length (lsSm k n)) (h + 9) L.length (chA9 n (lsSm k n) n)).2.1 (h + 8) s = p.1 ∧ (usI (usI z (h + 8) L.length (lsSm k n)) (h + 9) L.length (chA9 n (lsSm k n) n)).2.1 (h + 9) s = p.2
                by_cases es : s = L.length
                · rw [es, List.getElem?_append_right (Nat.le_refl _), Nat.sub_self] at hs
                  have ep : (lsSm k n, chA9 n (lsSm k n) n) = p := Option.some.inj hs
                  rw [es, ← ep]
                  exact ⟨rd_ot (by omega) po_usI_at, po_usI_at⟩
                · rw [List.getElem?_append_left (by omega)] at hs
                  obtain ⟨r1, r2⟩ := q.2.2 s p hs
                  exact ⟨rd_ot (by omega) (rd_ne es r1), rd_ne es (rd_ot (by omega) r2)⟩
          have c3 : ∀ (f j : Nat), j + f = n → Tt (fun K t => c_X10_listSimples vl K t 3 (nI (i + 1)) (nI k) (lsSm k j) (lsPl k j) (nI j) h 0 z) Q := by
            intro f
            induction f with
            | zero =>
              intro j hj
              have ej : j = n := by omega
              rw [ej]
              have c4 : ¬ (lsPl k n = ((1 : Int32) <<< (nI n &&& 31)) - 1 ∧ L.length < 24) → Tt (fun K t => c_X10_listSimples vl K t 4 (nI (i + 1)) (nI k) (lsSm k n) (lsPl k n) (nI n) h 0 z) Q := by
                intro h9
                refine u_X10_listSimples_4 ?_; unfold cm_X10_listSimples_4
                exact c5 _ _ 0 (Or.inl ⟨rfl, h9⟩)
              refine u_X10_listSimples_3 ?_; unfold cm_X10_listSimples_3
              rw [show uw_len (cX vl) z (h + 8) = 24 from sO_8 hh]
              exact w_rdF (s1 qf) (w_leT (by omega) (by omega) (w_rdF (s1 qf) (w_if (fun hp => w_rdF q.1 (w_le (a := 24) (by omega) (by have := q.2.1; omega) (fun h9 => c4 (fun h8 => by omega)) (fun h9 => c5 _ _ 1 (Or.inr ⟨rfl, hp, h9⟩)))) (fun hp => c4 (fun h8 => hp h8.1)))))
            | succ f ihf =>
              intro j hj
              refine u_X10_listSimples_3 ?_; unfold cm_X10_listSimples_3
              rw [nI_1]
              exact w_rdF (s1 qf) (w_leF (by omega) (by omega) (ihf (j + 1) (by omega)))
          refine u_X10_listSimples_2 ?_; unfold cm_X10_listSimples_2
          refine w_rdF (s1 qf) ?_
          rw [hsh]
          exact w_leF (by omega) (by omega) (c3 n 0 (by omega))
      refine u_X10_listSimples_1 ?_; unfold cm_X10_listSimples_1
      exact w_ltF (a := 6) (by omega) (by omega) (c2 (4 ^ n) 0 z (by omega) q qf)
  refine e_X10_listSimples ?_
  refine u_X10_listSimples_0 ?_; unfold cm_X10_listSimples_0
  exact w_wrF (c1 6 0 _ (by omega) ⟨po_usF_at, Nat.zero_le 24, fun s p hs => (by simp [lsF] at hs)⟩ (fr_F (by unfold lsP; omega)))
end XS7B
