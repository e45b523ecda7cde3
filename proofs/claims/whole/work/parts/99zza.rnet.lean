/-! pure functions that have an answer: small rules -/
def po_Ok {O : Type} (o : Option O) (Q : O → Prop) : Prop := ∃ r, o = some r ∧ Q r
section PO
variable {O : Type} {X : ow_Tb} {z : ow_MS} {h i j : Nat} {x : Int32} {Q : O → Prop}
theorem po_rdI {K : Int32 → Option O} (hl : i < (X.2 h).2.1) (hi : i < 2 ^ 31) : rdI X z h (nI i) K = K (z.2.1 h i) := by
  unfold rdI
  rw [nI_clamp hi, if_neg (fun h9 => h9.elim (nI_pos hi) (by omega))]
theorem po_wrI {K : ow_MS → Option O} (hl : i < (X.2 h).2.1) (hi : i < 2 ^ 31) : wrI X z h (nI i) x K = K (usI z h i x) := by
  unfold wrI
  rw [nI_clamp hi, if_neg (fun h9 => h9.elim (nI_pos hi) (by omega))]
theorem po_rdJ {K : Int64 → Option O} (hl : i < (X.2 h).2.1) (hi : i < 2 ^ 31) : rdJ X z h (nI i) K = K (z.2.2 h i) := by
  unfold rdJ
  rw [nI_clamp hi, if_neg (fun h9 => h9.elim (nI_pos hi) (by omega))]
theorem po_wrJ {y : Int64} {K : ow_MS → Option O} (hl : i < (X.2 h).2.1) (hi : i < 2 ^ 31) : wrJ X z h (nI i) y K = K (usJ z h i y) := by
  unfold wrJ
  rw [nI_clamp hi, if_neg (fun h9 => h9.elim (nI_pos hi) (by omega))]
theorem po_lt {A B : Option O} {a b : Nat} (hb : b < 2 ^ 31) (h9 : a < b) : (if nI a < nI b then A else B) = A := if_pos (nI_lt h9 hb)
theorem po_ltN {A B : Option O} {a b : Nat} (ha : a < 2 ^ 31) (h9 : b ≤ a) : (if nI a < nI b then A else B) = B := if_neg (nI_nlt h9 ha)
theorem po_le {A B : Option O} {a b : Nat} (hb : b < 2 ^ 31) (h9 : a ≤ b) : (if nI a ≤ nI b then A else B) = A := if_pos (nI_le h9 hb)
theorem po_leN {A B : Option O} {a b : Nat} (ha : a < 2 ^ 31) (h9 : b < a) : (if nI a ≤ nI b then A else B) = B := if_neg (nI_ge h9 ha)
theorem po_cs0 {o : Option ow_MS} {z1 : ow_MS} {K : ow_MS → Option O} (h9 : o = some z1) : cs0 o K = K z1 := by
  rw [h9]
  rfl
theorem po_cs1 {α : Type} {o : Option (α × ow_MS)} {r : α} {z1 : ow_MS} {K : α → ow_MS → Option O} (h9 : o = some (r, z1)) : cs1 o K = K r z1 := by
  rw [h9]
  rfl
theorem po_usI_at : (usI z h i x).2.1 h i = x := by
  show (if h = h then upd (z.2.1 h) i x else z.2.1 h) i = x
  rw [if_pos rfl]
  exact pk_us
theorem po_usI_ne (hj : j ≠ i) : (usI z h i x).2.1 h j = z.2.1 h j := by
  show (if h = h then upd (z.2.1 h) i x else z.2.1 h) j = z.2.1 h j
  rw [if_pos rfl]
  exact pk_un hj
theorem po_usI_ot {g : Nat} (hg : g ≠ h) : (usI z h i x).2.1 g = z.2.1 g := if_neg hg
theorem po_usI1 : (usI z h i x).1 = z.1 := rfl
theorem po_usF2 : (usF z h x).2 = z.2 := rfl
theorem po_usF_at : (usF z h x).1 h = x := if_pos rfl
theorem po_usF_ot {g : Nat} (hg : g ≠ h) : (usF z h x).1 g = z.1 g := if_neg hg
end PO
/-- the same outside a block of handles -/
def po_out (n : Nat) (z z1 : ow_MS) : Prop := ∀ g, g / 1000 ≠ n / 1000 → z1.1 g = z.1 g ∧ z1.2.1 g = z.2.1 g ∧ z1.2.2 g = z.2.2 g
theorem po_out_rf {n : Nat} {z : ow_MS} : po_out n z z := fun _ _ => ⟨rfl, rfl, rfl⟩
theorem po_out_tr {n : Nat} {z z1 z2 : ow_MS} (h1 : po_out n z z1) (h2 : po_out n z1 z2) : po_out n z z2 := fun g hg => ⟨(h2 g hg).1.trans (h1 g hg).1, (h2 g hg).2.1.trans (h1 g hg).2.1, (h2 g hg).2.2.trans (h1 g hg).2.2⟩
theorem po_out_I {n h i : Nat} {x : Int32} {z : ow_MS} (hh : h / 1000 = n / 1000) : po_out n z (usI z h i x) := fun g hg => ⟨rfl, if_neg (fun e => hg (by rw [e, hh])), rfl⟩
theorem po_out_F {n h : Nat} {x : Int32} {z : ow_MS} (hh : h / 1000 = n / 1000) : po_out n z (usF z h x) := fun g hg => ⟨if_neg (fun e => hg (by rw [e, hh])), rfl, rfl⟩
theorem po_netk {n k : Nat} (hn : mw_net n) (hk : k < 1000) : (n + k) / 1000 = n / 1000 := by
  obtain ⟨o, _, rfl⟩ := hn
  omega
theorem po_len {n : Nat} (hn : mw_net n) : (mX.2 (n + 3)).2.1 = 40 ∧ (mX.2 (n + 4)).2.1 = 40 ∧ (mX.2 (n + 5)).2.1 = 40 ∧ (mX.2 (n + 6)).2.1 = 40 ∧ (mX.2 (n + 7)).2.1 = 40 ∧ (mX.2 (n + 8)).2.1 = 40 ∧ (mX.2 (n + 9)).2.1 = 40 ∧ (mX.2 (n + 10)).2.1 = 40 ∧ (mX.2 (n + 11)).2.1 = 40 ∧ (mX.2 (n + 12)).2.1 = 40 ∧ (mX.2 (n + 14)).2.1 = 80 ∧ (mX.2 (n + 15)).2.1 = 80 := by
  obtain ⟨o, ho, rfl⟩ := hn
  have key : ∀ o, o < 18 → ((mX.2 (1000 * (o + 1) + 3)).2.1 = 40 ∧ (mX.2 (1000 * (o + 1) + 4)).2.1 = 40 ∧ (mX.2 (1000 * (o + 1) + 5)).2.1 = 40 ∧ (mX.2 (1000 * (o + 1) + 6)).2.1 = 40 ∧ (mX.2 (1000 * (o + 1) + 7)).2.1 = 40 ∧ (mX.2 (1000 * (o + 1) + 8)).2.1 = 40 ∧ (mX.2 (1000 * (o + 1) + 9)).2.1 = 40 ∧ (mX.2 (1000 * (o + 1) + 10)).2.1 = 40 ∧ (mX.2 (1000 * (o + 1) + 11)).2.1 = 40 ∧ (mX.2 (1000 * (o + 1) + 12)).2.1 = 40 ∧ (mX.2 (1000 * (o + 1) + 14)).2.1 = 80 ∧ (mX.2 (1000 * (o + 1) + 15)).2.1 = 80) := by decide +kernel
  exact key o ho
/-! a net of the reference: closed components A, an open one B; a visit is (crossing, under) -/
abbrev rn_L := List (List (Nat × Nat))
def rn_At (z : ow_MS) (n : Nat) (A : rn_L) (B : List (Nat × Nat)) : Prop := z.1 (n + 1) = nI (A.flatten ++ B).length ∧ z.1 (n + 2) = nI A.length ∧ (∀ c, c ≤ A.length → z.2.1 (n + 3) c = nI (A.take c).flatten.length) ∧ ∀ v p, (A.flatten ++ B)[v]? = some p → z.2.1 (n + 4) v = nI p.1 ∧ z.2.1 (n + 5) v = nI p.2
theorem rn_out {z z1 : ow_MS} {n m : Nat} {A : rn_L} {B : List (Nat × Nat)} (hn : mw_net n) (hm : n / 1000 ≠ m / 1000) (ho : po_out m z z1) (h : rn_At z n A B) : rn_At z1 n A B := by
  have e : ∀ k, k < 1000 → z1.1 (n + k) = z.1 (n + k) ∧ z1.2.1 (n + k) = z.2.1 (n + k) := fun k hk => by
    have h9 := ho (n + k) (by rw [po_netk hn hk]; exact hm)
    exact ⟨h9.1, h9.2.1⟩
  obtain ⟨h1, h2, h3, h4⟩ := h
  refine ⟨?_, ?_, fun c hc => ?_, fun v p hv => ?_⟩
  · rw [(e 1 (by omega)).1]; exact h1
  · rw [(e 2 (by omega)).1]; exact h2
  · rw [(e 3 (by omega)).2]; exact h3 c hc
  · rw [(e 4 (by omega)).2, (e 5 (by omega)).2]; exact h4 v p hv
theorem rn_clear {K n : Nat} {z : ow_MS} (hn : mw_net n) : ∃ z1, qe_X12_clear K n z = some z1 ∧ rn_At z1 n [] [] ∧ po_out n z z1 ∧ ∀ g, g ≠ n + 3 → z1.2.1 g = z.2.1 g := by
  have hl := (po_len hn).1
  refine ⟨usI (usF (usF z (n + 1) 0) (n + 2) 0) (n + 3) 0 0, ?_, ⟨?_, ?_, fun c hc => ?_, fun v p hv => ?_⟩, ?_, fun g hg => ?_⟩
  · unfold qe_X12_clear qm_X12_clear_0
    exact po_wrI (i := 0) (by rw [hl]; omega) (by omega)
  · show (usF (usF z (n + 1) 0) (n + 2) 0).1 (n + 1) = 0
    rw [po_usF_ot (by omega), po_usF_at]
  · show (usF (usF z (n + 1) 0) (n + 2) 0).1 (n + 2) = 0
    exact po_usF_at
  · have h0 : c = 0 := Nat.le_zero.mp hc
    subst h0
    exact po_usI_at
  · simp at hv
  · exact po_out_tr (po_out_tr (po_out_F (po_netk hn (by omega))) (po_out_F (po_netk hn (by omega)))) (po_out_I (po_netk hn (by omega)))
  · exact po_usI_ot hg
theorem rn_add {K n x u : Nat} {z : ow_MS} {A : rn_L} {B : List (Nat × Nat)} (hn : mw_net n) (h : rn_At z n A B) (hlen : (A.flatten ++ B).length < 40) : ∃ z1, qe_X12_add K n (nI x) (nI u) z = some z1 ∧ rn_At z1 n A (B ++ [(x, u)]) ∧ po_out n z z1 ∧ ∀ g, g ≠ n + 4 → g ≠ n + 5 → z1.2.1 g = z.2.1 g := by
  obtain ⟨-, l4, l5, -⟩ := po_len hn
  obtain ⟨h1, h2, h3, h4⟩ := h
  generalize hv : (A.flatten ++ B).length = v at h1 hlen
  refine ⟨usF (usI (usI z (n + 4) v (nI x)) (n + 5) v (nI u)) (n + 1) (nI (v + 1)), ?_, ⟨?_, ?_, fun c hc => ?_, fun w p hw => ?_⟩, ?_, fun g hg hg2 => ?_⟩
  · unfold qe_X12_add qm_X12_add_0
    simp only [rdF, wrF]
    rw [h1, po_wrI (by rw [l4]; exact hlen) (by omega), po_usI1, h1, po_wrI (by rw [l5]; exact hlen) (by omega), po_usI1, po_usI1, h1, nI_1]
  · rw [po_usF_at, ← List.append_assoc, List.length_append, hv]
    rfl
  · rw [po_usF_ot (by omega)]
    exact h2
  · show (usI (usI z (n + 4) v (nI x)) (n + 5) v (nI u)).2.1 (n + 3) c = _
    rw [po_usI_ot (by omega), po_usI_ot (by omega)]
    exact h3 c hc
  · show (usI (usI z (n + 4) v (nI x)) (n + 5) v (nI u)).2.1 (n + 4) w = _ ∧ (usI (usI z (n + 4) v (nI x)) (n + 5) v (nI u)).2.1 (n + 5) w = _
    rw [po_usI_ot (h := n + 5) (g := n + 4) (by omega)]
    rw [← List.append_assoc] at hw
    by_cases hwv : w = v
    · subst hwv
      rw [← hv, List.getElem?_append_right (Nat.le_refl _), Nat.sub_self] at hw
      cases hw
      exact ⟨po_usI_at, po_usI_at⟩
    · have hlt : w < v := by
        have h9 := (List.getElem?_eq_some_iff.mp hw).1
        rw [List.length_append, hv] at h9
        have : w < v + 1 := h9
        omega
      rw [List.getElem?_append_left (by rw [hv]; exact hlt)] at hw
      rw [po_usI_ne hwv, po_usI_ne hwv, po_usI_ot (by omega)]
      exact h4 w p hw
  · exact po_out_tr (po_out_tr (po_out_I (po_netk hn (by omega))) (po_out_I (po_netk hn (by omega)))) (po_out_F (po_netk hn (by omega)))
  · show (usI (usI z (n + 4) v (nI x)) (n + 5) v (nI u)).2.1 g = _
    rw [po_usI_ot hg2, po_usI_ot hg]
theorem rn_end {K n : Nat} {z : ow_MS} {A : rn_L} {B : List (Nat × Nat)} (hn : mw_net n) (h : rn_At z n A B) (hlen : A.length < 39) : ∃ z1, qe_X12_end K n z = some z1 ∧ rn_At z1 n (A ++ [B]) [] ∧ po_out n z z1 ∧ ∀ g, g ≠ n + 3 → z1.2.1 g = z.2.1 g := by
  obtain ⟨l3, -⟩ := po_len hn
  obtain ⟨h1, h2, h3, h4⟩ := h
  have hfl : (A ++ [B]).flatten = A.flatten ++ B := by rw [List.flatten_append]; simp
  refine ⟨usI (usF z (n + 2) (nI (A.length + 1))) (n + 3) (A.length + 1) (nI (A.flatten ++ B).length), ?_, ⟨?_, ?_, fun c hc => ?_, fun w p hw => ?_⟩, ?_, fun g hg => ?_⟩
  · unfold qe_X12_end qm_X12_end_0
    simp only [rdF, wrF]
    rw [po_usF_at, po_usF_ot (by omega), h1, h2, nI_1, po_wrI (by rw [l3]; omega) (by omega)]
  · show (usF z (n + 2) (nI (A.length + 1))).1 (n + 1) = _
    rw [po_usF_ot (by omega), h1, hfl, List.append_nil]
  · show (usF z (n + 2) (nI (A.length + 1))).1 (n + 2) = _
    rw [po_usF_at, List.length_append]
    rfl
  · by_cases hc2 : c = A.length + 1
    · subst hc2
      rw [po_usI_at, List.take_of_length_le (by rw [List.length_append]; exact Nat.le_refl _), hfl]
    · have hc3 : c ≤ A.length := by
        rw [List.length_append] at hc
        have : c ≤ A.length + 1 := hc
        omega
      rw [po_usI_ne hc2, List.take_append_of_le_length hc3]
      exact h3 c hc3
  · show (usI (usF z (n + 2) (nI (A.length + 1))) (n + 3) (A.length + 1) (nI (A.flatten ++ B).length)).2.1 (n + 4) w = _ ∧ (usI (usF z (n + 2) (nI (A.length + 1))) (n + 3) (A.length + 1) (nI (A.flatten ++ B).length)).2.1 (n + 5) w = _
    rw [po_usI_ot (by omega), po_usI_ot (by omega)]
    rw [hfl, List.append_nil] at hw
    exact h4 w p hw
  · exact po_out_tr (po_out_F (po_netk hn (by omega))) (po_out_I (po_netk hn (by omega)))
  · exact po_usI_ot hg
