/-! the class's tables of codes: compare, write -/
def tHL : List (Nat × Nat) := [(1000, 40), (2000, 1848), (3000, 12), (8000, 1), (9000, 1), (10000, 12), (13000, 301), (14000, 480), (15000, 480), (21000, 1), (22000, 1), (23000, 12), (25000, 2)]
/-- g is a table of codes with p places -/
def tH (g p : Nat) : Prop := (g, p) ∈ tHL
theorem tH_all {P : Nat → Nat → Prop} (h1 : P 1000 40 ∧ P 2000 1848 ∧ P 3000 12 ∧ P 8000 1 ∧ P 9000 1 ∧ P 10000 12 ∧ P 13000 301 ∧ P 14000 480 ∧ P 15000 480 ∧ P 21000 1 ∧ P 22000 1 ∧ P 23000 12 ∧ P 25000 2) {g p : Nat} (hh : tH g p) : P g p := by
  unfold tH tHL at hh
  simp only [List.mem_cons, List.not_mem_nil, or_false, Prod.mk.injEq] at hh
  obtain ⟨a1, a2, a3, a4, a5, a6, a7, a8, a9, a10, a11, a12, a13⟩ := h1
  rcases hh with ⟨rfl, rfl⟩ | ⟨rfl, rfl⟩ | ⟨rfl, rfl⟩ | ⟨rfl, rfl⟩ | ⟨rfl, rfl⟩ | ⟨rfl, rfl⟩ | ⟨rfl, rfl⟩ | ⟨rfl, rfl⟩ | ⟨rfl, rfl⟩ | ⟨rfl, rfl⟩ | ⟨rfl, rfl⟩ | ⟨rfl, rfl⟩ | ⟨rfl, rfl⟩ <;> assumption
theorem tH_p {g p : Nat} (hh : tH g p) : 1 ≤ p ∧ p ≤ 1848 := tH_all (P := fun _ p => 1 ≤ p ∧ p ≤ 1848) (by decide) hh
theorem tH_1 {vl : Nat → Nat} {g p : Nat} (hh : tH g p) : ((cX vl).2 (g + 1)).2.1 = 30 * p := tH_all (P := fun g p => ((cX vl).2 (g + 1)).2.1 = 30 * p) ⟨rfl, rfl, rfl, rfl, rfl, rfl, rfl, rfl, rfl, rfl, rfl, rfl, rfl⟩ hh
theorem tH_2 {vl : Nat → Nat} {g p : Nat} (hh : tH g p) : ((cX vl).2 (g + 2)).2.1 = p := tH_all (P := fun g p => ((cX vl).2 (g + 2)).2.1 = p) ⟨rfl, rfl, rfl, rfl, rfl, rfl, rfl, rfl, rfl, rfl, rfl, rfl, rfl⟩ hh
theorem tH_3 {vl : Nat → Nat} {g p : Nat} (hh : tH g p) : ((cX vl).2 (g + 3)).2.1 = p := tH_all (P := fun g p => ((cX vl).2 (g + 3)).2.1 = p) ⟨rfl, rfl, rfl, rfl, rfl, rfl, rfl, rfl, rfl, rfl, rfl, rfl, rfl⟩ hh
theorem tH_4 {vl : Nat → Nat} {g p : Nat} (hh : tH g p) : ((cX vl).2 (g + 4)).2.1 = p := tH_all (P := fun g p => ((cX vl).2 (g + 4)).2.1 = p) ⟨rfl, rfl, rfl, rfl, rfl, rfl, rfl, rfl, rfl, rfl, rfl, rfl, rfl⟩ hh
/-- a code: its crossings and its cells -/
abbrev cdT := Nat × List Nat
def cOK (C : cdT) : Prop := C.1 ≤ 12 ∧ C.2.length ≤ 30 ∧ ∀ a, a ∈ C.2 → a < 64
/-- place s of table g holds C -/
def slC (y : ow_MS) (g s : Nat) (C : cdT) : Prop := y.2.1 (g + 3) s = nI C.1 ∧ y.2.1 (g + 2) s = nI C.2.length ∧ ∀ i a, C.2[i]? = some a → y.2.1 (g + 1) (30 * s + i) = nI a
def lexD : List Nat → List Nat → Int
  | [], B => - (B.length : Int)
  | A, [] => (A.length : Int)
  | a :: A, b :: B => if a = b then lexD A B else (a : Int) - b
def cmpC (A B : cdT) : Int := if A.1 = B.1 then lexD A.2 B.2 else (A.1 : Int) - B.1
theorem mul30 {a : Nat} : nI a * 30 = nI (30 * a) := by
  rw [nI_iI, show (30 : Int32) = iI 30 from rfl, iI_mul, nI_iI]
  congr 1
  omega
theorem iI_eq {a b : Int} (h1 : -(2 ^ 31 : Int) ≤ a) (h2 : a < 2 ^ 31) (h3 : -(2 ^ 31 : Int) ≤ b) (h4 : b < 2 ^ 31) : iI a = iI b ↔ a = b := by
  refine ⟨fun e => ?_, fun e => by rw [e]⟩
  have := congrArg Int32.toInt e
  rw [iI_toInt h1 h2, iI_toInt h3 h4] at this
  exact this
section CC
variable {vl : Nat → Nat} {y : ow_MS} {g g' p p' s s' : Nat} {A B : cdT}
theorem u_X3_compare_1 {vl : Nat → Nat} {x1 : Int32} {x3 : Int32} {x4 : Int32} {x5 : Int32} {x6 : Int32} {x7 : Int32} {r0 : Nat} {r2 : Nat} {z : ow_MS} {Q : (Int32 × ow_MS) → Prop} (H : Tt (fun K k => cm_X3_compare_1 vl K (c_X3_compare vl K k) x1 x3 x4 x5 x6 x7 r0 r2 z) Q) : Tt (fun K k => c_X3_compare vl K k 1 x1 x3 x4 x5 x6 x7 r0 r2 z) Q := w_un (fun _ _ => rfl) H
theorem e_X3_compare {vl : Nat → Nat} {r0 : Nat} {x1 : Int32} {r2 : Nat} {x3 : Int32} {z : ow_MS} {Q : (Int32 × ow_MS) → Prop} (H : Tt (fun K k => c_X3_compare vl K k 0 x1 x3 0 0 0 0 r0 r2 z) Q) : Te (fun K => ce_X3_compare vl K r0 x1 r2 x3 z) Q := w_te H
theorem u_X3_compare_0 {vl : Nat → Nat} {x1 : Int32} {x3 : Int32} {x4 : Int32} {x5 : Int32} {x6 : Int32} {x7 : Int32} {r0 : Nat} {r2 : Nat} {z : ow_MS} {Q : (Int32 × ow_MS) → Prop} (H : Tt (fun K k => cm_X3_compare_0 vl K (c_X3_compare vl K k) x1 x3 x4 x5 x6 x7 r0 r2 z) Q) : Tt (fun K k => c_X3_compare vl K k 0 x1 x3 x4 x5 x6 x7 r0 r2 z) Q := w_un (fun _ _ => rfl) H
theorem tc_compare (hg : tH g p) (hg' : tH g' p') (hs : s < p) (hs' : s' < p') (ha : slC y g s A) (hb : slC y g' s' B) (oa : cOK A) (ob : cOK B) : Te (fun K => ce_X3_compare vl K g (nI s) g' (nI s') y) (fun r => r.1 = iI (cmpC A B) ∧ r.2 = y) := by
  have hp := tH_p hg
  have hp' := tH_p hg'
  obtain ⟨a1, a2, a3⟩ := oa
  obtain ⟨b1, b2, b3⟩ := ob
  let Q : Int32 × ow_MS → Prop := fun r => r.1 = iI (cmpC A B) ∧ r.2 = y
  let m := if B.2.length < A.2.length then B.2.length else A.2.length
  have hmA : m ≤ A.2.length := by show (if _ then _ else _) ≤ _; split <;> omega
  have hmB : m ≤ B.2.length := by show (if _ then _ else _) ≤ _; split <;> omega
  have hmm : m = A.2.length ∨ m = B.2.length := by show (if _ then _ else _) = _ ∨ (if _ then _ else _) = _; split <;> omega
  have c1 : A.1 = B.1 → ∀ (d i : Nat), i + d = m → lexD (A.2.drop i) (B.2.drop i) = lexD A.2 B.2 → Tt (fun K t => c_X3_compare vl K t 1 (nI s) (nI s') (nI (30 * s)) (nI (30 * s')) (nI m) (nI i) g g' y) Q := by
    intro e d
    have eC : cmpC A B = lexD A.2 B.2 := by unfold cmpC; rw [if_pos e]
    induction d with
    | zero =>
      intro i hi hl
      refine u_X3_compare_1 ?_; unfold cm_X3_compare_1
      refine w_leT (by omega) (by omega) (w_crI (tH_2 hg) rfl hs ha.2.1 (w_crI (tH_2 hg') rfl hs' hb.2.1 (w_some ⟨?_, rfl⟩)))
      show nI A.2.length - nI B.2.length = iI (cmpC A B)
      rw [eC, ← hl, nI_iI, nI_iI, iI_sub]
      congr 1
      rcases hmm with h9 | h9
      · rw [List.drop_of_length_le (show A.2.length ≤ i by omega)]
        show _ = - (((B.2.drop i).length : Nat) : Int)
        rw [List.length_drop]
        omega
      · rw [List.drop_of_length_le (show B.2.length ≤ i by omega)]
        have e9 : ∀ L : List Nat, lexD L [] = (L.length : Int) := by
          intro L
          cases L
          · rfl
          · rfl
        rw [e9, List.length_drop]
        omega
    | succ d ih =>
      intro i hi hl
      obtain ⟨a, ea⟩ : ∃ a, A.2[i]? = some a := ⟨_, List.getElem?_eq_getElem (show i < A.2.length by omega)⟩
      obtain ⟨b, eb⟩ : ∃ b, B.2[i]? = some b := ⟨_, List.getElem?_eq_getElem (show i < B.2.length by omega)⟩
      have la := a3 a (List.mem_of_getElem? ea)
      have lb := b3 b (List.mem_of_getElem? eb)
      have dA : A.2.drop i = a :: A.2.drop (i + 1) := by
        have := List.getElem?_eq_some_iff.mp ea
        obtain ⟨q, q2⟩ := this
        rw [List.drop_eq_getElem_cons q, q2]
      have dB : B.2.drop i = b :: B.2.drop (i + 1) := by
        have := List.getElem?_eq_some_iff.mp eb
        obtain ⟨q, q2⟩ := this
        rw [List.drop_eq_getElem_cons q, q2]
      rw [dA, dB] at hl
      have hl : (if a = b then lexD (A.2.drop (i + 1)) (B.2.drop (i + 1)) else (a : Int) - b) = _ := hl
      refine u_X3_compare_1 ?_; unfold cm_X3_compare_1
      rw [nI_add, nI_add, nI_1]
      refine w_leF (by omega) (by omega) (w_crI (tH_1 hg) rfl (by omega) (ha.2.2 i a ea) (w_crI (tH_1 hg') rfl (by omega) (hb.2.2 i b eb) (w_if (fun h9 => ?_) (fun h9 => w_some ⟨?_, rfl⟩))))
      · have e2 : a = b := by
          rw [nI_iI, nI_iI, iI_sub] at h9
          have := (iI_eq (by omega) (by omega) (by omega) (by omega)).mp (h9.trans (show (0 : Int32) = iI 0 from rfl))
          omega
        rw [if_pos e2] at hl
        exact ih (i + 1) (by omega) hl
      · have e2 : a ≠ b := by
          intro e2
          rw [e2] at h9
          refine h9 ?_
          rw [nI_iI, iI_sub, Int.sub_self]
          rfl
        rw [if_neg e2] at hl
        show nI a - nI b = iI (cmpC A B)
        rw [eC, ← hl, nI_iI, nI_iI, iI_sub]
  refine e_X3_compare ?_
  refine u_X3_compare_0 ?_; unfold cm_X3_compare_0
  rw [mul30, mul30]
  refine w_crI (tH_3 hg) rfl hs ha.1 (w_crI (tH_3 hg') rfl hs' hb.1 (w_eqN (by omega) (by omega) (fun e => ?_) (fun e => ?_)))
  · refine w_crI (tH_2 hg) rfl hs ha.2.1 (w_crI (tH_2 hg') rfl hs' hb.2.1 ?_)
    have em : (if nI B.2.length < nI A.2.length then nI B.2.length else nI A.2.length) = nI m := by
      show _ = nI (if B.2.length < A.2.length then B.2.length else A.2.length)
      by_cases h9 : B.2.length < A.2.length
      · rw [if_pos h9, if_pos (nI_lt h9 (by omega))]
      · rw [if_neg h9, if_neg (nI_nlt (by omega) (by omega))]
    rw [em]
    exact c1 e m 0 (by omega) rfl
  · refine w_crI (tH_3 hg) rfl hs ha.1 (w_crI (tH_3 hg') rfl hs' hb.1 (w_some ⟨?_, rfl⟩))
    show nI A.1 - nI B.1 = iI (cmpC A B)
    unfold cmpC
    rw [if_neg e, nI_iI, nI_iI, iI_sub]
end CC
