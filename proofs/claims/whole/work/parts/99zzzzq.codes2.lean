/-! the class's tables of codes: write, find -/
def byR (y : ow_MS) (g : Nat) : Prop := ∀ i, fits .byte (.int (y.2.1 g i)) = true
theorem nar64 {a : Nat} (h : a < 64) : vp_nar .byte (nI a) = nI a := (byt ⟨a, h⟩).2
def cW (g q : Nat) : Prop := q = g + 1 ∨ q = g + 2 ∨ q = g + 3
theorem slC_fr {P : Nat → Prop} {y y1 : ow_MS} {g s : Nat} {C : cdT} (hf : fr P y y1) (hP : ∀ q, cW g q → ¬ P q) (h : slC y g s C) : slC y1 g s C := by
  obtain ⟨a, b, c⟩ := h
  refine ⟨?_, ?_, fun i v hi => ?_⟩
  · rw [(hf _ (hP _ (Or.inr (Or.inr rfl)))).2.1]
    exact a
  · rw [(hf _ (hP _ (Or.inr (Or.inl rfl)))).2.1]
    exact b
  · rw [(hf _ (hP _ (Or.inl rfl))).2.1]
    exact c i v hi
section CC2
variable {vl : Nat → Nat} {y : ow_MS} {g g' p p' s s' : Nat} {B : cdT}
theorem e_X3_write {vl : Nat → Nat} {r0 : Nat} {x1 : Int32} {r2 : Nat} {x3 : Int32} {z : ow_MS} {Q : ow_MS → Prop} (H : Tt (fun K _ => cm_X3_write_0 vl K x1 x3 r0 r2 z) Q) : Te (fun K => ce_X3_write vl K r0 x1 r2 x3 z) Q := w_te0 H
theorem tc_write (hg : tH g p) (hg' : tH g' p') (hd : g + 6 ≤ g' ∨ g' + 6 ≤ g) (hs : s < p) (hs' : s' < p') (hb : slC y g' s' B) (ob : cOK B) (hy : byR y (g' + 1)) : Te (fun K => ce_X3_write vl K g (nI s) g' (nI s') y) (fun y1 => slC y1 g s B ∧ (∀ t C, t ≠ s → cOK C → slC y g t C → slC y1 g t C) ∧ (byR y (g + 1) → byR y1 (g + 1)) ∧ fr (cW g) y y1) := by
  have hp := tH_p hg
  have hp' := tH_p hg'
  obtain ⟨b1, b2, b3⟩ := ob
  refine e_X3_write ?_; unfold cm_X3_write_0
  rw [mul30, mul30]
  have cpb : ∀ {E : ow_MS → Nat → Nat → Option ow_MS} {Q : ow_MS → Prop}, Tt (E (usR y (g + 1) (va_cpy (y.2.1 (g' + 1)) (y.2.1 (g + 1)) (30 * s') (30 * s) 30))) Q → Tt (fun K k => cpB (cX vl) y (g' + 1) (nI (30 * s')) (g + 1) (nI (30 * s)) 30 (fun v => E v K k)) Q := by
    intro E Q H
    unfold cpB
    exact w_ifT (fun i _ => hy _) (w_cpI (a := 30 * s') (b := 30 * s) (n := 30) (tH_1 hg') (tH_1 hg) rfl rfl rfl (by omega) (by omega) H)
  refine cpb (w_crI (x := nI B.2.length) (tH_2 hg') rfl hs' (by rw [usR_ot (by omega)]; exact hb.2.1) (w_ctB (tH_2 hg) rfl hs (w_crI (x := nI B.1) (tH_3 hg') rfl hs' (rd_ot (by omega) (by rw [usR_ot (by omega)]; exact hb.1)) (w_ctB (tH_3 hg) rfl hs (w_some ?_)))))
  rw [nar64 (show B.1 < 64 by omega), nar64 (show B.2.length < 64 by omega)]
  refine ⟨⟨po_usI_at, rd_ot (by omega) po_usI_at, fun i v hi => rd_ot (by omega) (rd_ot (by omega) ?_)⟩, fun t C ht oc hc => ⟨rd_ne ht (rd_ot (by omega) (by rw [usR_ot (by omega)]; exact hc.1)), rd_ot (by omega) (rd_ne ht (by rw [usR_ot (by omega)]; exact hc.2.1)), fun i v hi => rd_ot (by omega) (rd_ot (by omega) ?_)⟩, fun hb1 i => ?_, fr_I2 (fr_I2 (fr_R2 fr_rf (Or.inl rfl)) (Or.inr (Or.inl rfl))) (Or.inr (Or.inr rfl))⟩
  · have := (List.getElem?_eq_some_iff.mp hi).1
    rw [usR_at]
    unfold va_cpy
    rw [if_pos (by omega), show 30 * s' + (30 * s + i - 30 * s) = 30 * s' + i by omega]
    exact hb.2.2 i v hi
  · have h1 := (List.getElem?_eq_some_iff.mp hi).1
    have h2 := oc.2.1
    rw [usR_at]
    unfold va_cpy
    rw [if_neg (by omega)]
    exact hc.2.2 i v hi
  · rw [show (usI (usI (usR y (g + 1) (va_cpy (y.2.1 (g' + 1)) (y.2.1 (g + 1)) (30 * s') (30 * s) 30)) (g + 2) s (nI B.2.length)) (g + 3) s (nI B.1)).2.1 (g + 1) i = va_cpy (y.2.1 (g' + 1)) (y.2.1 (g + 1)) (30 * s') (30 * s) 30 i from rd_ot (by omega) (rd_ot (by omega) (by rw [usR_at]))]
    unfold va_cpy
    split
    · exact hy _
    · exact hb1 _
end CC2
theorem lexD_b : ∀ (A B : List Nat), A.length ≤ 30 → B.length ≤ 30 → (∀ a, a ∈ A → a < 64) → (∀ a, a ∈ B → a < 64) → -64 ≤ lexD A B ∧ lexD A B ≤ 64
  | [], B, _, h2, _, _ => by
    show -64 ≤ - (B.length : Int) ∧ - (B.length : Int) ≤ 64
    omega
  | a :: A, [], h1, _, _, _ => by
    show -64 ≤ (((a :: A).length : Nat) : Int) ∧ (((a :: A).length : Nat) : Int) ≤ 64
    omega
  | a :: A, b :: B, h1, h2, h3, h4 => by
    have ha := h3 a List.mem_cons_self
    have hb := h4 b List.mem_cons_self
    show -64 ≤ (if a = b then lexD A B else (a : Int) - b) ∧ (if a = b then lexD A B else (a : Int) - b) ≤ 64
    split
    · exact lexD_b A B (by rw [List.length_cons] at h1; omega) (by rw [List.length_cons] at h2; omega) (fun x hx => h3 x (List.mem_cons_of_mem _ hx)) (fun x hx => h4 x (List.mem_cons_of_mem _ hx))
    · omega
theorem cmpC_b {A B : cdT} (oa : cOK A) (ob : cOK B) : -64 ≤ cmpC A B ∧ cmpC A B ≤ 64 := by
  obtain ⟨a1, a2, a3⟩ := oa
  obtain ⟨b1, b2, b3⟩ := ob
  unfold cmpC
  split
  · exact lexD_b _ _ a2 b2 a3 b3
  · omega
theorem lexD_0 : ∀ (A B : List Nat), lexD A B = 0 → A = B
  | [], B, h => by
    have h : - (B.length : Int) = 0 := h
    cases B with
    | nil => rfl
    | cons b B =>
      rw [List.length_cons] at h
      omega
  | a :: A, [], h => by
    have h : (((a :: A).length : Nat) : Int) = 0 := h
    rw [List.length_cons] at h
    omega
  | a :: A, b :: B, h => by
    have h : (if a = b then lexD A B else (a : Int) - b) = 0 := h
    split at h
    · rename_i e
      rw [e, lexD_0 A B h]
    · omega
theorem cmpC_0 {A B : cdT} (h : cmpC A B = 0) : A = B := by
  unfold cmpC at h
  split at h
  · rename_i e
    exact Prod.ext e (lexD_0 _ _ h)
  · omega
theorem ushr1 {n : Nat} (h : n < 2 ^ 31) : ((nI n).toUInt32 >>> ((1 : Int32).toUInt32 &&& Int32.toUInt32 31)).toInt32 = nI (n / 2) := by
  apply Int32.toBitVec_inj.mp
  apply BitVec.eq_of_toNat_eq
  rw [pk_ushr (nI n) 1 1 (by decide), pk_tn (by omega), pk_tn (by omega)]
/-- table g holds the codes Cs, in the order os -/
def tabC (y : ow_MS) (g : Nat) (Cs : List cdT) (os : List Nat) : Prop := y.1 (g + 5) = nI os.length ∧ Cs.length = os.length ∧ (∀ s C, Cs[s]? = some C → slC y g s C ∧ cOK C) ∧ ∀ k s, os[k]? = some s → y.2.1 (g + 4) k = nI s ∧ s < Cs.length
def atC (Cs : List cdT) (os : List Nat) (k : Nat) : cdT := Cs.getD (os.getD k 0) (0, [])
/-- codes below B stand before those above it -/
def moC (Cs : List cdT) (os : List Nat) (B : cdT) : Prop := ∀ i j, i < j → j < os.length → (cmpC (atC Cs os j) B < 0 → cmpC (atC Cs os i) B < 0) ∧ (0 < cmpC (atC Cs os i) B → 0 < cmpC (atC Cs os j) B)
section CC3
variable {vl : Nat → Nat} {y : ow_MS} {g g' p p' s' : Nat} {B : cdT} {Cs : List cdT} {os : List Nat}
theorem tab_at {k : Nat} (h : tabC y g Cs os) (hk : k < os.length) : ∃ s, s < Cs.length ∧ y.2.1 (g + 4) k = nI s ∧ slC y g s (atC Cs os k) ∧ cOK (atC Cs os k) := by
  have e := List.getElem?_eq_getElem hk
  obtain ⟨h1, h2⟩ := h.2.2.2 k _ e
  have e2 := List.getElem?_eq_getElem h2
  have e3 : atC Cs os k = Cs[os[k]] := by
    unfold atC
    rw [List.getD_eq_getElem?_getD, List.getD_eq_getElem?_getD, e]
    show (Cs[os[k]]?).getD _ = _
    rw [e2]
    rfl
  rw [e3]
  exact ⟨os[k], h2, h1, (h.2.2.1 _ _ e2).1, (h.2.2.1 _ _ e2).2⟩
def fnd (Cs : List cdT) (os : List Nat) (B : cdT) (r : Int32) : Prop := (∃ k, k < os.length ∧ r = nI k ∧ atC Cs os k = B) ∨ ∃ k, k ≤ os.length ∧ r = iI (-1 - (k : Int)) ∧ (moC Cs os B → (∀ i, i < k → cmpC (atC Cs os i) B < 0) ∧ ∀ i, k ≤ i → i < os.length → 0 < cmpC (atC Cs os i) B)
theorem u_X3_find_1 {vl : Nat → Nat} {x2 : Int32} {x3 : Int32} {x4 : Int32} {x5 : Int32} {x6 : Int32} {x7 : Int32} {r0 : Nat} {r1 : Nat} {z : ow_MS} {Q : (Int32 × ow_MS) → Prop} (H : Tt (fun K k => cm_X3_find_1 vl K (c_X3_find vl K k) x2 x3 x4 x5 x6 x7 r0 r1 z) Q) : Tt (fun K k => c_X3_find vl K k 1 x2 x3 x4 x5 x6 x7 r0 r1 z) Q := w_un (fun _ _ => rfl) H
theorem u_X3_find_2 {vl : Nat → Nat} {x2 : Int32} {x3 : Int32} {x4 : Int32} {x5 : Int32} {x6 : Int32} {x7 : Int32} {r0 : Nat} {r1 : Nat} {z : ow_MS} {Q : (Int32 × ow_MS) → Prop} (H : Tt (fun K k => cm_X3_find_2 vl K (c_X3_find vl K k) x2 x3 x4 x5 x6 x7 r0 r1 z) Q) : Tt (fun K k => c_X3_find vl K k 2 x2 x3 x4 x5 x6 x7 r0 r1 z) Q := w_un (fun _ _ => rfl) H
theorem e_X3_find {vl : Nat → Nat} {r0 : Nat} {r1 : Nat} {x2 : Int32} {z : ow_MS} {Q : (Int32 × ow_MS) → Prop} (H : Tt (fun K k => c_X3_find vl K k 0 x2 0 0 0 0 0 r0 r1 z) Q) : Te (fun K => ce_X3_find vl K r0 r1 x2 z) Q := w_te H
theorem u_X3_find_0 {vl : Nat → Nat} {x2 : Int32} {x3 : Int32} {x4 : Int32} {x5 : Int32} {x6 : Int32} {x7 : Int32} {r0 : Nat} {r1 : Nat} {z : ow_MS} {Q : (Int32 × ow_MS) → Prop} (H : Tt (fun K k => cm_X3_find_0 vl K (c_X3_find vl K k) x2 x3 x4 x5 x6 x7 r0 r1 z) Q) : Tt (fun K k => c_X3_find vl K k 0 x2 x3 x4 x5 x6 x7 r0 r1 z) Q := w_un (fun _ _ => rfl) H
theorem tc_find (hg : tH g p) (hg' : tH g' p') (hs' : s' < p') (hT : tabC y g Cs os) (hp : os.length ≤ p) (hb : slC y g' s' B) (ob : cOK B) : Te (fun K => ce_X3_find vl K g g' (nI s') y) (fun r => fnd Cs os B r.1 ∧ r.2 = y) := by
  have hpp := tH_p hg
  let Q : Int32 × ow_MS → Prop := fun r => fnd Cs os B r.1 ∧ r.2 = y
  have c1 : ∀ (d i lo hi : Nat), i + d = 12 → lo ≤ hi → hi ≤ os.length → hi - lo < 2 ^ d → (moC Cs os B → (∀ k, k < lo → cmpC (atC Cs os k) B < 0) ∧ ∀ k, hi ≤ k → k < os.length → 0 < cmpC (atC Cs os k) B) → Tt (fun K t => c_X3_find vl K t 1 (nI s') (nI lo) (nI hi) (nI i) 0 0 g g' y) Q := by
    intro d
    have fin : ∀ lo hi, hi ≤ lo → lo ≤ hi → hi ≤ os.length → (moC Cs os B → (∀ k, k < lo → cmpC (atC Cs os k) B < 0) ∧ ∀ k, hi ≤ k → k < os.length → 0 < cmpC (atC Cs os k) B) → Tt (fun (K t : Nat) => some ((-1 : Int32) - nI lo, y)) Q := by
      intro lo hi h1 h2 h3 h4
      have e : lo = hi := by omega
      subst e
      refine w_some ⟨Or.inr ⟨lo, h3, ?_, h4⟩, rfl⟩
      show (-1 : Int32) - nI lo = _
      rw [nI_iI, show (-1 : Int32) = iI (-1) from rfl, iI_sub]
    induction d with
    | zero =>
      intro i lo hi hi0 h1 h2 h3 h4
      have h3 : hi - lo < 1 := h3
      refine u_X3_find_1 ?_; unfold cm_X3_find_1
      exact w_leF (a := 32) (by omega) (by omega) (w_leT (by omega) (by omega) (fin lo hi (by omega) h1 h2 h4))
    | succ d ih =>
      intro i lo hi hi0 h1 h2 h3 h4
      rw [Nat.pow_succ] at h3
      have k2 : ∀ (lo hi : Nat) (x6 x7 : Int32), lo ≤ hi → hi ≤ os.length → hi - lo < 2 ^ d → (moC Cs os B → (∀ k, k < lo → cmpC (atC Cs os k) B < 0) ∧ ∀ k, hi ≤ k → k < os.length → 0 < cmpC (atC Cs os k) B) → Tt (fun K t => c_X3_find vl K t 2 (nI s') (nI lo) (nI hi) (nI i) x6 x7 g g' y) Q := by
        intro lo hi x6 x7 h1 h2 h3 h4
        refine u_X3_find_2 ?_; unfold cm_X3_find_2
        rw [nI_1]
        exact ih (i + 1) lo hi (by omega) h1 h2 h3 h4
      refine u_X3_find_1 ?_; unfold cm_X3_find_1
      rw [nI_add, ushr1 (by omega)]
      refine w_leF (a := 32) (by omega) (by omega) (w_le (by omega) (by omega) (fun h9 => fin lo hi h9 h1 h2 h4) (fun h9 => ?_))
      generalize hm : (lo + hi) / 2 = m
      have hm1 : lo ≤ m := by omega
      have hm2 : m < hi := by omega
      obtain ⟨s, a1, a2, a3, a4⟩ := tab_at hT (show m < os.length by omega)
      have hcb := cmpC_b a4 ob
      refine w_crI (tH_4 hg) rfl (by omega) a2 (w_cs1 (tc_compare hg hg' (by have := hT.2.1; omega) hs' a3 hb a4 ob) ?_)
      rintro v y1 ⟨e1, e2⟩
      dsimp only at e1 e2
      subst e1
      subst e2
      refine w_if (fun e => ?_) (fun e => ?_)
      · have e0 := (iI_eq (by omega) (by omega) (by omega) (by omega)).mp (e.trans (show (0 : Int32) = iI 0 from rfl))
        exact w_some ⟨Or.inl ⟨m, by omega, rfl, cmpC_0 e0⟩, rfl⟩
      · have e0 : cmpC (atC Cs os m) B ≠ 0 := fun h8 => e (by rw [h8]; rfl)
        refine w_if (fun h8 => ?_) (fun h8 => ?_)
        · have h8 := (iI_le (a := 0) (by omega) (by omega) (by omega) (by omega)).mp h8
          refine k2 lo m _ _ hm1 (by omega) (by omega) (fun hmo => ⟨(h4 hmo).1, fun k hk1 hk2 => ?_⟩)
          by_cases ek : k = m
          · rw [ek]
            omega
          · exact (hmo m k (by omega) hk2).2 (by omega)
        · have h8 : ¬ 0 ≤ cmpC (atC Cs os m) B := fun h7 => h8 ((iI_le (a := 0) (by omega) (by omega) (by omega) (by omega)).mpr h7)
          rw [nI_1]
          refine k2 (m + 1) hi _ _ (by omega) h2 (by omega) (fun hmo => ⟨fun k hk => ?_, (h4 hmo).2⟩)
          by_cases ek : k = m
          · rw [ek]
            omega
          · exact (hmo k m (by omega) (by omega)).1 (by omega)
  refine e_X3_find ?_
  refine u_X3_find_0 ?_; unfold cm_X3_find_0
  exact w_rdF hT.1 (c1 12 0 0 os.length (by omega) (by omega) (by omega) (by show _ < 4096; omega) (fun _ => ⟨fun k hk => by omega, fun k hk h9 => by omega⟩))
end CC3
