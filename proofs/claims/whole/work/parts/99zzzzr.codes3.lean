/-! the class's tables of codes: insert, addNew, meets -/
def insO (os : List Nat) (k n : Nat) : List Nat := os.take k ++ [n] ++ os.drop k
theorem insO_at {os : List Nat} {k n j : Nat} (hk : k ≤ os.length) : (insO os k n)[j]? = if j < k then os[j]? else if j = k then some n else os[j - 1]? := by
  have hl : (os.take k).length = k := by rw [List.length_take]; omega
  unfold insO
  by_cases h1 : j < k
  · rw [if_pos h1, List.getElem?_append_left (by rw [List.length_append, hl]; omega), List.getElem?_append_left (by omega), List.getElem?_take_of_lt h1]
  · rw [if_neg h1]
    by_cases h2 : j = k
    · rw [if_pos h2, List.getElem?_append_left (by rw [List.length_append, hl, List.length_singleton]; omega), List.getElem?_append_right (by omega), hl, h2, Nat.sub_self]
      rfl
    · rw [if_neg h2, List.getElem?_append_right (by rw [List.length_append, hl, List.length_singleton]; omega), List.length_append, hl, List.length_singleton, List.getElem?_drop]
      congr 1
      omega
theorem insO_len {os : List Nat} {k n : Nat} (hk : k ≤ os.length) : (insO os k n).length = os.length + 1 := by
  unfold insO
  rw [List.length_append, List.length_append, List.length_take, List.length_drop, List.length_singleton]
  omega
def cV (g q : Nat) : Prop := g + 1 ≤ q ∧ q ≤ g + 5
theorem tabC_fr {P : Nat → Prop} {y y1 : ow_MS} {g : Nat} {Cs : List cdT} {os : List Nat} (hf : fr P y y1) (hP : ∀ q, cV g q → ¬ P q) (h : tabC y g Cs os) : tabC y1 g Cs os := by
  obtain ⟨a, b, c, d⟩ := h
  refine ⟨by rw [(hf _ (hP _ (by unfold cV; omega))).1]; exact a, b, fun s C hC => ⟨slC_fr hf (fun q hq => hP q (by unfold cW at hq; unfold cV; omega)) (c s C hC).1, (c s C hC).2⟩, fun k s hs => ?_⟩
  rw [(hf _ (hP _ (by unfold cV; omega))).2.1]
  exact d k s hs
section CC4
variable {vl : Nat → Nat} {y : ow_MS} {g g' p p' s' k : Nat} {B : cdT} {Cs : List cdT} {os : List Nat}
theorem e_X3_insert {vl : Nat → Nat} {r0 : Nat} {x1 : Int32} {r2 : Nat} {x3 : Int32} {z : ow_MS} {Q : ow_MS → Prop} (H : Tt (fun K _ => cm_X3_insert_0 vl K x1 x3 r0 r2 z) Q) : Te (fun K => ce_X3_insert vl K r0 x1 r2 x3 z) Q := w_te0 H
theorem tc_insert (hg : tH g p) (hg' : tH g' p') (hd : g + 6 ≤ g' ∨ g' + 6 ≤ g) (hs' : s' < p') (hT : tabC y g Cs os) (hp : os.length ≤ p) (hk : k ≤ os.length) (hb : slC y g' s' B) (ob : cOK B) (hy : byR y (g' + 1)) : Te (fun K => ce_X3_insert vl K g (nI k) g' (nI s') y) (fun y1 => (if os.length < p then tabC y1 g (Cs ++ [B]) (insO os k os.length) else tabC y1 g Cs os) ∧ (byR y (g + 1) → byR y1 (g + 1)) ∧ fr (cV g) y y1) := by
  have hpp := tH_p hg
  obtain ⟨t1, t2, t3, t4⟩ := hT
  have fmn : ∀ {y1 : ow_MS}, fr (cW g) y y1 → fr (cV g) y y1 := fun hf => fr_mono (fun q hq => by unfold cW at hq; unfold cV; omega) hf
  refine e_X3_insert ?_; unfold cm_X3_insert_0
  unfold uw_len
  rw [tH_4 hg]
  refine w_rdF t1 (w_lt (by omega) (by omega) (fun hlt => w_rdF t1 (w_cs0 (tc_write hg hg' hd hlt hs' hb ob hy) ?_)) (fun hle => w_some ?_))
  · rintro y1 ⟨h1, h2, h3, f1⟩
    have e5 : y1.1 (g + 5) = nI os.length := by
      rw [(f1 _ (fun h => by unfold cW at h; omega)).1]
      exact t1
    have e4 : ∀ j, y1.2.1 (g + 4) j = y.2.1 (g + 4) j := fun j => congrFun (f1 _ (fun h => by unfold cW at h; omega)).2.1 j
    refine w_rdF e5 ?_
    rw [show nI os.length - nI k = nI (os.length - k) from pk_sub hk, nI_1]
    refine w_cpI (tH_4 hg) (tH_4 hg) rfl rfl rfl (by omega) (by omega) (w_rdF e5 (w_ctI (tH_4 hg) rfl (by omega) (w_rdF (x := nI os.length) e5 ?_)))
    rw [nI_1]
    refine w_wrF (w_some ⟨?_, fun hb9 i => ?_, fr_F2 (fr_I2 (fr_R2 (fmn f1) (by unfold cV; omega)) (by unfold cV; omega)) (by unfold cV; omega)⟩)
    · rw [if_pos hlt]
      have fE : ∀ s C, slC y1 g s C → slC (usF (usI (usR y1 (g + 4) (va_cpy (y1.2.1 (g + 4)) (y1.2.1 (g + 4)) k (k + 1) (os.length - k))) (g + 4) k (nI os.length)) (g + 5) (nI (os.length + 1))) g s C := fun s C h => slC_fr (P := fun q => q = g + 4 ∨ q = g + 5) (fr_F2 (fr_I2 (fr_R2 fr_rf (Or.inl rfl)) (Or.inl rfl)) (Or.inr rfl)) (fun q hq => by unfold cW at hq; omega) h
      refine ⟨?_, ?_, fun s C hC => ?_, fun j s hs => ?_⟩
      · rw [insO_len hk]
        exact po_usF_at
      · rw [insO_len hk, List.length_append, List.length_singleton, t2]
      · by_cases e : s < Cs.length
        · rw [List.getElem?_append_left e] at hC
          obtain ⟨c1, c2⟩ := t3 s C hC
          exact ⟨fE s C (h2 s C (by omega) c2 c1), c2⟩
        · have hl := (List.getElem?_eq_some_iff.mp hC).1
          rw [List.length_append, List.length_singleton] at hl
          rw [List.getElem?_append_right (by omega), show s - Cs.length = 0 by omega] at hC
          have eC : B = C := Option.some.inj hC
          rw [← eC, show s = os.length by omega]
          exact ⟨fE _ _ h1, ob⟩
      · rw [insO_at hk] at hs
        rw [List.length_append, List.length_singleton]
        show (usI (usR y1 (g + 4) _) (g + 4) k (nI os.length)).2.1 (g + 4) j = nI s ∧ s < Cs.length + 1
        by_cases h8 : j < k
        · rw [if_pos h8] at hs
          obtain ⟨q1, q2⟩ := t4 j s hs
          refine ⟨rd_ne (by omega) ?_, by omega⟩
          rw [usR_at]
          unfold va_cpy
          rw [if_neg (by omega), e4]
          exact q1
        · rw [if_neg h8] at hs
          by_cases h7 : j = k
          · rw [if_pos h7] at hs
            have es : os.length = s := Option.some.inj hs
            rw [h7, ← es]
            exact ⟨po_usI_at, by omega⟩
          · rw [if_neg h7] at hs
            have hl := (List.getElem?_eq_some_iff.mp hs).1
            obtain ⟨q1, q2⟩ := t4 (j - 1) s hs
            refine ⟨rd_ne h7 ?_, by omega⟩
            rw [usR_at]
            unfold va_cpy
            rw [if_pos (by omega), e4, show k + (j - (k + 1)) = j - 1 by omega]
            exact q1
    · have := h3 hb9 i
      show fits .byte (.int ((usI (usR y1 (g + 4) _) (g + 4) k (nI os.length)).2.1 (g + 1) i)) = true
      rw [show (usI (usR y1 (g + 4) (va_cpy (y1.2.1 (g + 4)) (y1.2.1 (g + 4)) k (k + 1) (os.length - k))) (g + 4) k (nI os.length)).2.1 (g + 1) i = y1.2.1 (g + 1) i from rd_ot (by omega) (by rw [usR_ot (by omega)])]
      exact this
  · rw [if_neg (by omega)]
    exact ⟨⟨t1, t2, t3, t4⟩, fun h => h, fr_rf⟩
theorem e_X3_addNew {vl : Nat → Nat} {r0 : Nat} {r1 : Nat} {x2 : Int32} {z : ow_MS} {Q : ow_MS → Prop} (H : Tt (fun K _ => cm_X3_addNew_0 vl K x2 r0 r1 z) Q) : Te (fun K => ce_X3_addNew vl K r0 r1 x2 z) Q := w_te0 H
theorem tc_addNew (hg : tH g p) (hg' : tH g' p') (hd : g + 6 ≤ g' ∨ g' + 6 ≤ g) (hs' : s' < p') (hT : tabC y g Cs os) (hp : os.length ≤ p) (hb : slC y g' s' B) (ob : cOK B) (hy : byR y (g' + 1)) : Te (fun K => ce_X3_addNew vl K g g' (nI s') y) (fun y1 => ((∃ k, k < os.length ∧ atC Cs os k = B) ∧ y1 = y ∨ ∃ k, k ≤ os.length ∧ (moC Cs os B → (∀ i, i < k → cmpC (atC Cs os i) B < 0) ∧ ∀ i, k ≤ i → i < os.length → 0 < cmpC (atC Cs os i) B) ∧ (if os.length < p then tabC y1 g (Cs ++ [B]) (insO os k os.length) else tabC y1 g Cs os)) ∧ (byR y (g + 1) → byR y1 (g + 1)) ∧ fr (cV g) y y1) := by
  have hpp := tH_p hg
  refine e_X3_addNew ?_; unfold cm_X3_addNew_0
  refine w_cs1 (tc_find hg hg' hs' hT hp hb ob) ?_
  rintro v y1 ⟨hv, e2⟩
  dsimp only at hv e2
  subst e2
  rcases hv with ⟨k, k1, k2, k3⟩ | ⟨k, k1, k2, k3⟩
  · rw [k2]
    exact w_leT (a := 0) (by omega) (by omega) (w_some ⟨Or.inl ⟨⟨k, k1, k3⟩, rfl⟩, fun h => h, fr_rf⟩)
  · rw [k2, show (-1 : Int32) - iI (-1 - (k : Int)) = nI k from by
      rw [show (-1 : Int32) = iI (-1) from rfl, iI_sub, nI_iI]
      congr 1
      omega]
    refine w_ifF (fun h9 => ?_) (w_cs0 (tc_insert hg hg' hd hs' hT hp k1 hb ob hy) ?_)
    · have := (iI_le (a := 0) (b := -1 - (k : Int)) (by omega) (by omega) (by omega) (by omega)).mp h9
      omega
    · rintro y2 ⟨h1, h2, f2⟩
      exact w_some ⟨Or.inr ⟨k, k1, k3, h1⟩, h2, f2⟩
end CC4
