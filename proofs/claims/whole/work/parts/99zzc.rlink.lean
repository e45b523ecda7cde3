/-! the reference's nets: link -/
def rn_b (A : rn_L) (c : Nat) : Nat := (A.take c).flatten.length
theorem rn_b0 (A : rn_L) : rn_b A 0 = 0 := rfl
theorem rn_bS (B : List (Nat × Nat)) (A : rn_L) (c : Nat) : rn_b (B :: A) (c + 1) = B.length + rn_b A c := by
  unfold rn_b
  rw [List.take_succ_cons, List.flatten_cons, List.length_append]
theorem rn_bN (c : Nat) : rn_b [] c = 0 := by
  unfold rn_b
  rw [List.take_nil]
  rfl
theorem rn_b_mono : ∀ (A : rn_L) (c : Nat), rn_b A c ≤ rn_b A (c + 1)
  | [], c => by rw [rn_bN, rn_bN]; exact Nat.le_refl _
  | B :: A, 0 => by rw [rn_b0]; exact Nat.zero_le _
  | B :: A, c + 1 => by
    rw [rn_bS, rn_bS]
    exact Nat.add_le_add_left (rn_b_mono A c) _
theorem rn_b_len (A : rn_L) : rn_b A A.length = A.flatten.length := by
  unfold rn_b
  rw [List.take_length]
theorem rn_b_le : ∀ (A : rn_L) (c : Nat), rn_b A c ≤ A.flatten.length
  | [], c => by rw [rn_bN]; exact Nat.zero_le _
  | B :: A, 0 => by rw [rn_b0]; exact Nat.zero_le _
  | B :: A, c + 1 => by
    rw [rn_bS, List.flatten_cons, List.length_append]
    exact Nat.add_le_add_left (rn_b_le A c) _
/-- the component of a visit -/
def rn_c : rn_L → Nat → Nat
  | [], _ => 0
  | B :: A, v => if v < B.length then 0 else rn_c A (v - B.length) + 1
theorem rn_c_of : ∀ (A : rn_L) (c v : Nat), rn_b A c ≤ v → v < rn_b A (c + 1) → rn_c A v = c
  | [], c, v, _, h => by rw [rn_bN] at h; omega
  | B :: A, 0, v, _, h => by
    rw [rn_bS, rn_b0] at h
    unfold rn_c
    rw [if_pos (by omega)]
  | B :: A, c + 1, v, h1, h2 => by
    rw [rn_bS] at h1 h2
    unfold rn_c
    rw [if_neg (by omega), rn_c_of A c (v - B.length) (by omega) (by omega)]
theorem rn_c_in : ∀ (A : rn_L) (v : Nat), v < A.flatten.length → rn_c A v < A.length ∧ rn_b A (rn_c A v) ≤ v ∧ v < rn_b A (rn_c A v + 1)
  | [], v, h => by simp at h
  | B :: A, v, h => by
    rw [List.flatten_cons, List.length_append] at h
    unfold rn_c
    by_cases hv : v < B.length
    · rw [if_pos hv, rn_b0, rn_bS, rn_b0, List.length_cons]
      omega
    · obtain ⟨h1, h2, h3⟩ := rn_c_in A (v - B.length) (by omega)
      rw [if_neg hv, rn_bS, rn_bS, List.length_cons]
      omega
def rn_nx (A : rn_L) (v : Nat) : Nat := if v + 1 < rn_b A (rn_c A v + 1) then v + 1 else rn_b A (rn_c A v)
def rn_pv (A : rn_L) (v : Nat) : Nat := if rn_b A (rn_c A v) < v then v - 1 else rn_b A (rn_c A v + 1) - 1
/-- two visits of one crossing -/
def rn_mt (F : List (Nat × Nat)) (v w : Nat) : Prop := v ≠ w ∧ ∃ p q, F[v]? = some p ∧ F[w]? = some q ∧ p.1 = q.1
theorem rn_mt.symm {F : List (Nat × Nat)} {v w : Nat} (h : rn_mt F v w) : rn_mt F w v := by
  obtain ⟨h1, p, q, h2, h3, h4⟩ := h
  exact ⟨fun e => h1 e.symm, q, p, h3, h2, h4.symm⟩
/-- no crossing has three visits, and all are below 40 -/
def rn_d2 (F : List (Nat × Nat)) : Prop := (∀ v w w', rn_mt F v w → rn_mt F v w' → w = w') ∧ ∀ (v : Nat) (p : Nat × Nat), F[v]? = some p → p.1 < 40 ∧ p.2 < 2
def rn_LI (z : ow_MS) (n : Nat) (A : rn_L) (m : Nat) : Prop := (∀ v, v < m → z.2.1 (n + 8) v = nI (rn_c A v) ∧ z.2.1 (n + 9) v = nI (rn_nx A v) ∧ z.2.1 (n + 10) v = nI (rn_pv A v)) ∧ (∀ x, x < 40 → (z.2.1 (n + 11) x = -1 ∧ ∀ v p, v < m → A.flatten[v]? = some p → p.1 ≠ x) ∨ ∃ v p, v < m ∧ A.flatten[v]? = some p ∧ p.1 = x ∧ z.2.1 (n + 11) x = nI v) ∧ ∀ v w, v < m → w < m → rn_mt A.flatten v w → z.2.1 (n + 7) v = nI w
def rn_fr (n : Nat) (z z1 : ow_MS) : Prop := z1.1 = z.1 ∧ z1.2.2 = z.2.2 ∧ ∀ g, g < n + 7 ∨ n + 11 < g → z1.2.1 g = z.2.1 g
theorem rn_fr_rf {n : Nat} {z : ow_MS} : rn_fr n z z := ⟨rfl, rfl, fun _ _ => rfl⟩
theorem rn_fr_tr {n : Nat} {z z1 z2 : ow_MS} (h1 : rn_fr n z z1) (h2 : rn_fr n z1 z2) : rn_fr n z z2 := ⟨h2.1.trans h1.1, h2.2.1.trans h1.2.1, fun g hg => (h2.2.2 g hg).trans (h1.2.2 g hg)⟩
theorem rn_fr_I {n h i : Nat} {x : Int32} {z : ow_MS} (h1 : n + 7 ≤ h) (h2 : h ≤ n + 11) : rn_fr n z (usI z h i x) := ⟨rfl, rfl, fun g hg => po_usI_ot (by omega)⟩
theorem rn_fr_At {n : Nat} {z z1 : ow_MS} {A : rn_L} {B : List (Nat × Nat)} (hf : rn_fr n z z1) (h : rn_At z n A B) : rn_At z1 n A B := by
  obtain ⟨h1, h2, h3, h4⟩ := h
  refine ⟨by rw [hf.1]; exact h1, by rw [hf.1]; exact h2, fun c hc => by rw [hf.2.2 _ (by omega)]; exact h3 c hc, fun v p hv => by rw [hf.2.2 _ (by omega), hf.2.2 _ (by omega)]; exact h4 v p hv⟩
theorem rn_neg1 {v : Nat} (hv : v < 2 ^ 31) : ¬ nI v = -1 := by
  intro e
  have h1 := congrArg Int32.toInt e
  rw [nI_toInt hv] at h1
  have h2 : (-1 : Int32).toInt = -1 := by decide
  rw [h2] at h1
  omega
/-- the first three rows of an inner turn -/
def rn_z3 (z : ow_MS) (n : Nat) (A : rn_L) (v : Nat) : ow_MS := usI (usI (usI z (n + 8) v (nI (rn_c A v))) (n + 9) v (nI (rn_nx A v))) (n + 10) v (nI (rn_pv A v))
theorem rn_link_it {K k n c v : Nat} {z : ow_MS} {A : rn_L} {p : Nat × Nat} (hn : mw_net n) (hA : rn_At z n A []) (hlen : A.flatten.length ≤ 40) (hcn : A.length ≤ 39) (hc : c < A.length) (h1 : rn_b A c ≤ v) (h2 : v < rn_b A (c + 1)) (hp : A.flatten[v]? = some p) (hx : p.1 < 40) : q_X12_link K (k + 3) 3 (nI c) (nI v) 0 n 0 0 z = rdI mX (rn_z3 z n A v) (n + 11) (nI p.1) fun v13 => (if v13 = (-1) then wrI mX (rn_z3 z n A v) (n + 11) (nI p.1) (nI v) fun z18 => q_X12_link K k 6 (nI c) (nI v) (nI p.1) n 0 0 z18 else rdI mX (rn_z3 z n A v) (n + 11) (nI p.1) fun v14 => wrI mX (rn_z3 z n A v) (n + 7) (nI v) v14 fun z15 => rdI mX z15 (n + 11) (nI p.1) fun v16 => wrI mX z15 (n + 7) v16 (nI v) fun z17 => q_X12_link K k 6 (nI c) (nI v) (nI p.1) n 0 0 z17) := by
  obtain ⟨l3, l4, -, -, l7, l8, l9, l10, l11, -⟩ := po_len hn
  have hv40 : v < 40 := by
    have := rn_b_le A (c + 1)
    omega
  have b0 : z.2.1 (n + 3) c = nI (rn_b A c) := hA.2.2.1 c (by omega)
  have b1 : z.2.1 (n + 3) (c + 1) = nI (rn_b A (c + 1)) := hA.2.2.1 (c + 1) (by omega)
  have hbl := rn_b_le A (c + 1)
  have hco := rn_c_of A c v h1 h2
  have hcr : z.2.1 (n + 4) v = nI p.1 := (hA.2.2.2 v p (by rw [List.append_nil]; exact hp)).1
  have hz : rn_z3 z n A v = usI (usI (usI z (n + 8) v (nI c)) (n + 9) v (nI (rn_nx A v))) (n + 10) v (nI (rn_pv A v)) := by
    unfold rn_z3
    rw [hco]
  -- label 5
  have s5 : ∀ z9 : ow_MS, z9.2.1 (n + 4) v = nI p.1 → q_X12_link K (k + 1) 5 (nI c) (nI v) 0 n (nI (rn_pv A v)) (nI v) z9 = rdI mX (usI z9 (n + 10) v (nI (rn_pv A v))) (n + 11) (nI p.1) fun v13 => (if v13 = (-1) then wrI mX (usI z9 (n + 10) v (nI (rn_pv A v))) (n + 11) (nI p.1) (nI v) fun z18 => q_X12_link K k 6 (nI c) (nI v) (nI p.1) n 0 0 z18 else rdI mX (usI z9 (n + 10) v (nI (rn_pv A v))) (n + 11) (nI p.1) fun v14 => wrI mX (usI z9 (n + 10) v (nI (rn_pv A v))) (n + 7) (nI v) v14 fun z15 => rdI mX z15 (n + 11) (nI p.1) fun v16 => wrI mX z15 (n + 7) v16 (nI v) fun z17 => q_X12_link K k 6 (nI c) (nI v) (nI p.1) n 0 0 z17) := by
    intro z9 h9
    show qm_X12_link_5 K (q_X12_link K k) (nI c) (nI v) 0 n (nI (rn_pv A v)) (nI v) z9 = _
    unfold qm_X12_link_5
    rw [po_wrI (by rw [l10]; omega) (by omega), po_rdI (by rw [l4]; omega) (by omega), po_usI_ot (by omega), h9]
  -- label 4
  have s4 : ∀ z9 : ow_MS, z9.2.1 (n + 3) c = nI (rn_b A c) → z9.2.1 (n + 3) (c + 1) = nI (rn_b A (c + 1)) → q_X12_link K (k + 2) 4 (nI c) (nI v) 0 n (nI (rn_nx A v)) (nI v) z9 = q_X12_link K (k + 1) 5 (nI c) (nI v) 0 n (nI (rn_pv A v)) (nI v) (usI z9 (n + 9) v (nI (rn_nx A v))) := by
    intro z9 e0 e1
    show qm_X12_link_4 K (q_X12_link K (k + 1)) (nI c) (nI v) 0 n (nI (rn_nx A v)) (nI v) z9 = _
    unfold qm_X12_link_4
    rw [po_wrI (by rw [l9]; omega) (by omega), po_rdI (by rw [l3]; omega) (by omega), po_usI_ot (by omega), e0]
    by_cases hb : rn_b A c < v
    · have ep : rn_pv A v = v - 1 := by
        unfold rn_pv
        rw [hco, if_pos hb]
      have e9 : nI v - 1 = nI (v - 1) := pk_sub (b := 1) (by omega)
      rw [po_leN (by omega) hb, ep, e9]
    · have ep : rn_pv A v = rn_b A (c + 1) - 1 := by
        unfold rn_pv
        rw [hco, if_neg hb]
      have e9 : nI (rn_b A (c + 1)) - 1 = nI (rn_b A (c + 1) - 1) := pk_sub (b := 1) (by omega)
      rw [po_le (by omega) (by omega), nI_1, po_rdI (by rw [l3]; omega) (by omega), po_usI_ot (by omega), e1, e9, ep]
  show qm_X12_link_3 K (q_X12_link K (k + 2)) (nI c) (nI v) 0 n 0 0 z = _
  unfold qm_X12_link_3
  rw [nI_1, po_rdI (by rw [l3]; omega) (by omega), b1, po_leN (by omega) h2, po_wrI (by rw [l8]; omega) (by omega), po_rdI (by rw [l3]; omega) (by omega), po_usI_ot (by omega), b1, nI_1]
  have e4 : (if nI (rn_b A (c + 1)) ≤ nI (v + 1) then rdI mX (usI z (n + 8) v (nI c)) (n + 3) (nI c) fun v7 => q_X12_link K (k + 2) 4 (nI c) (nI v) 0 n v7 (nI v) (usI z (n + 8) v (nI c)) else q_X12_link K (k + 2) 4 (nI c) (nI v) 0 n (nI (v + 1)) (nI v) (usI z (n + 8) v (nI c))) = q_X12_link K (k + 2) 4 (nI c) (nI v) 0 n (nI (rn_nx A v)) (nI v) (usI z (n + 8) v (nI c)) := by
    by_cases hb : v + 1 < rn_b A (c + 1)
    · rw [po_leN (by omega) hb]
      unfold rn_nx
      rw [hco, if_pos hb]
    · rw [po_le (by omega) (by omega), po_rdI (by rw [l3]; omega) (by omega), po_usI_ot (by omega), b0]
      unfold rn_nx
      rw [hco, if_neg hb]
  rw [e4, s4 _ (by rw [po_usI_ot (by omega)]; exact b0) (by rw [po_usI_ot (by omega)]; exact b1), s5 _ (by rw [po_usI_ot (by omega), po_usI_ot (by omega)]; exact hcr), ← hz]
theorem rn_z3_fr {z : ow_MS} {n v : Nat} {A : rn_L} : rn_fr n z (rn_z3 z n A v) := rn_fr_tr (rn_fr_tr (rn_fr_I (by omega) (by omega)) (rn_fr_I (by omega) (by omega))) (rn_fr_I (by omega) (by omega))
theorem rn_z3_rows {z : ow_MS} {n v : Nat} {A : rn_L} : (rn_z3 z n A v).2.1 (n + 7) = z.2.1 (n + 7) ∧ (rn_z3 z n A v).2.1 (n + 11) = z.2.1 (n + 11) ∧ ∀ m, (∀ w, w < m → z.2.1 (n + 8) w = nI (rn_c A w) ∧ z.2.1 (n + 9) w = nI (rn_nx A w) ∧ z.2.1 (n + 10) w = nI (rn_pv A w)) → m ≤ v → ∀ w, w < m ∨ w = v → (rn_z3 z n A v).2.1 (n + 8) w = nI (rn_c A w) ∧ (rn_z3 z n A v).2.1 (n + 9) w = nI (rn_nx A w) ∧ (rn_z3 z n A v).2.1 (n + 10) w = nI (rn_pv A w) := by
  unfold rn_z3
  refine ⟨by rw [po_usI_ot (by omega), po_usI_ot (by omega), po_usI_ot (by omega)], by rw [po_usI_ot (by omega), po_usI_ot (by omega), po_usI_ot (by omega)], fun m hm hv w hw => ?_⟩
  rw [po_usI_ot (h := n + 10) (g := n + 8) (by omega), po_usI_ot (h := n + 9) (g := n + 8) (by omega), po_usI_ot (h := n + 10) (g := n + 9) (by omega)]
  by_cases hwv : w = v
  · subst hwv
    exact ⟨po_usI_at, po_usI_at, po_usI_at⟩
  · have hwm : w < m := hw.resolve_right hwv
    rw [po_usI_ne hwv, po_usI_ne hwv, po_usI_ne hwv, po_usI_ot (by omega), po_usI_ot (by omega), po_usI_ot (by omega)]
    exact hm w hwm
/-- one inner turn -/
theorem rn_link_turn {K k n c v : Nat} {z : ow_MS} {A : rn_L} (hn : mw_net n) (hA : rn_At z n A []) (hlen : A.flatten.length ≤ 40) (hcn : A.length ≤ 39) (hd : rn_d2 A.flatten) (hc : c < A.length) (h1 : rn_b A c ≤ v) (h2 : v < rn_b A (c + 1)) (hI : rn_LI z n A v) : ∃ z1, q_X12_link K (k + 4) 3 (nI c) (nI v) 0 n 0 0 z = q_X12_link K k 3 (nI c) (nI (v + 1)) 0 n 0 0 z1 ∧ rn_fr n z z1 ∧ rn_LI z1 n A (v + 1) := by
  obtain ⟨l3, l4, -, -, l7, l8, l9, l10, l11, -⟩ := po_len hn
  have hbl := rn_b_le A (c + 1)
  obtain ⟨p, hp⟩ : ∃ p, A.flatten[v]? = some p := ⟨_, List.getElem?_eq_getElem (by omega)⟩
  have hx := (hd.2 v p hp).1
  obtain ⟨i1, i2, i3⟩ := hI
  obtain ⟨r7, r11, r8⟩ := rn_z3_rows (z := z) (n := n) (v := v) (A := A)
  have hit := rn_link_it (K := K) (k := k + 1) hn hA hlen hcn hc h1 h2 hp hx
  have s6 : ∀ (x3 : Int32) (z9 : ow_MS), q_X12_link K (k + 1) 6 (nI c) (nI v) x3 n 0 0 z9 = q_X12_link K k 3 (nI c) (nI (v + 1)) 0 n 0 0 z9 := by
    intro x3 z9
    show qm_X12_link_6 K (q_X12_link K k) (nI c) (nI v) x3 n 0 0 z9 = _
    unfold qm_X12_link_6
    rw [nI_1]
  have rows : ∀ z1 : ow_MS, z1.2.1 (n + 8) = (rn_z3 z n A v).2.1 (n + 8) → z1.2.1 (n + 9) = (rn_z3 z n A v).2.1 (n + 9) → z1.2.1 (n + 10) = (rn_z3 z n A v).2.1 (n + 10) → ∀ w, w < v + 1 → z1.2.1 (n + 8) w = nI (rn_c A w) ∧ z1.2.1 (n + 9) w = nI (rn_nx A w) ∧ z1.2.1 (n + 10) w = nI (rn_pv A w) := by
    intro z1 e8 e9 e10 w hw
    rw [e8, e9, e10]
    exact r8 v i1 (Nat.le_refl _) w (by omega)
  rcases i2 p.1 hx with ⟨j1, j2⟩ | ⟨w, p2, j1, j2, j3, j4⟩
  · refine ⟨usI (rn_z3 z n A v) (n + 11) p.1 (nI v), ?_, rn_fr_tr rn_z3_fr (rn_fr_I (by omega) (by omega)), rows _ (po_usI_ot (by omega)) (po_usI_ot (by omega)) (po_usI_ot (by omega)), fun x hx2 => ?_, fun a b ha hb hm => ?_⟩
    · show q_X12_link K (k + 1 + 3) 3 (nI c) (nI v) 0 n 0 0 z = _
      rw [hit, po_rdI (by rw [l11]; omega) (by omega), r11, j1, if_pos rfl, po_wrI (by rw [l11]; omega) (by omega), s6]
    · by_cases hxe : x = p.1
      · subst hxe
        exact Or.inr ⟨v, p, by omega, hp, rfl, po_usI_at⟩
      · rw [po_usI_ne hxe, r11]
        rcases i2 x hx2 with ⟨a1, a2⟩ | ⟨a, b, a1, a2, a3, a4⟩
        · refine Or.inl ⟨a1, fun w p9 hw hp9 => ?_⟩
          by_cases hwv : w = v
          · subst hwv
            rw [hp] at hp9
            cases hp9
            exact fun e => hxe e.symm
          · exact a2 w p9 (by omega) hp9
        · exact Or.inr ⟨a, b, by omega, a2, a3, a4⟩
    · rw [po_usI_ot (by omega), r7]
      have no : ∀ w, w < v → ¬ rn_mt A.flatten v w := by
        intro w hw hm9
        obtain ⟨-, p9, q9, e1, e2, e3⟩ := hm9
        rw [hp] at e1
        cases e1
        exact j2 w q9 hw e2 e3.symm
      have hav : a ≠ v := fun e => by
        subst e
        exact no b (by have := hm.1; omega) hm
      have hbv : b ≠ v := fun e => by
        subst e
        exact no a (by omega) hm.symm
      exact i3 a b (by omega) (by omega) hm
  · have hvw : rn_mt A.flatten v w := ⟨by omega, p, p2, hp, j2, j3.symm⟩
    refine ⟨usI (usI (rn_z3 z n A v) (n + 7) v (nI w)) (n + 7) w (nI v), ?_, rn_fr_tr rn_z3_fr (rn_fr_tr (rn_fr_I (by omega) (by omega)) (rn_fr_I (by omega) (by omega))), rows _ (by rw [po_usI_ot (by omega), po_usI_ot (by omega)]) (by rw [po_usI_ot (by omega), po_usI_ot (by omega)]) (by rw [po_usI_ot (by omega), po_usI_ot (by omega)]), fun x hx2 => ?_, fun a b ha hb hm => ?_⟩
    · show q_X12_link K (k + 1 + 3) 3 (nI c) (nI v) 0 n 0 0 z = _
      rw [hit, po_rdI (by rw [l11]; omega) (by omega), r11, j4, if_neg (rn_neg1 (by omega)), po_rdI (by rw [l11]; omega) (by omega), r11, j4, po_wrI (by rw [l7]; omega) (by omega), po_rdI (by rw [l11]; omega) (by omega), po_usI_ot (by omega), r11, j4, po_wrI (by rw [l7]; omega) (by omega), s6]
    · rw [po_usI_ot (by omega), po_usI_ot (by omega), r11]
      rcases i2 x hx2 with ⟨a1, a2⟩ | ⟨a, b, a1, a2, a3, a4⟩
      · refine Or.inl ⟨a1, fun w9 p9 hw hp9 => ?_⟩
        by_cases hwv : w9 = v
        · subst hwv
          rw [hp] at hp9
          cases hp9
          rw [← j3]
          exact a2 w p2 j1 j2
        · exact a2 w9 p9 (by omega) hp9
      · exact Or.inr ⟨a, b, by omega, a2, a3, a4⟩
    · by_cases haw : a = w
      · subst haw
        rw [po_usI_at, hd.1 a b v hm hvw.symm]
      · rw [po_usI_ne haw]
        by_cases hav : a = v
        · subst hav
          rw [po_usI_at, hd.1 a b w hm hvw]
        · rw [po_usI_ne hav, r7]
          have hbv : b ≠ v := fun e => by
            subst e
            exact haw (hd.1 b a w hm.symm hvw)
          exact i3 a b (by omega) (by omega) hm
theorem rn_link_in {K n c : Nat} {A : rn_L} (hn : mw_net n) (hlen : A.flatten.length ≤ 40) (hcn : A.length ≤ 39) (hd : rn_d2 A.flatten) (hc : c < A.length) : ∀ (d v k : Nat) (z : ow_MS), v + d = rn_b A (c + 1) → rn_b A c ≤ v → rn_At z n A [] → rn_LI z n A v → ∃ z1, q_X12_link K (k + 4 * d + 1) 3 (nI c) (nI v) 0 n 0 0 z = q_X12_link K k 2 (nI (c + 1)) 0 0 n 0 0 z1 ∧ rn_fr n z z1 ∧ rn_LI z1 n A (rn_b A (c + 1)) := by
  obtain ⟨l3, -⟩ := po_len hn
  have hbl := rn_b_le A (c + 1)
  intro d
  induction d with
  | zero =>
    intro v k z hv h1 hA hI
    have hv2 : v = rn_b A (c + 1) := by omega
    subst hv2
    refine ⟨z, ?_, rn_fr_rf, hI⟩
    show qm_X12_link_3 K (q_X12_link K k) (nI c) (nI (rn_b A (c + 1))) 0 n 0 0 z = _
    unfold qm_X12_link_3
    have b1 : z.2.1 (n + 3) (c + 1) = nI (rn_b A (c + 1)) := hA.2.2.1 (c + 1) (by omega)
    rw [nI_1, po_rdI (by rw [l3]; omega) (by omega), b1, po_le (by omega) (Nat.le_refl _)]
  | succ d ih =>
    intro v k z hv h1 hA hI
    obtain ⟨z2, e1, e2, e3⟩ := rn_link_turn (K := K) (k := k + 4 * d + 1) hn hA hlen hcn hd hc h1 (by omega) hI
    obtain ⟨z1, f1, f2, f3⟩ := ih (v + 1) k z2 (by omega) (by omega) (rn_fr_At e2 hA) e3
    refine ⟨z1, ?_, rn_fr_tr e2 f2, f3⟩
    rw [show k + 4 * (d + 1) + 1 = k + 4 * d + 1 + 4 by omega, e1]
    exact f1
theorem rn_link_out {K n : Nat} {A : rn_L} (hn : mw_net n) (hlen : A.flatten.length ≤ 40) (hcn : A.length ≤ 39) (hd : rn_d2 A.flatten) : ∀ (d c k : Nat) (z : ow_MS), c + d = A.length → rn_At z n A [] → rn_LI z n A (rn_b A c) → 4 * (A.flatten.length - rn_b A c) + 2 * d + 1 ≤ k → ∃ z1, q_X12_link K k 2 (nI c) 0 0 n 0 0 z = some z1 ∧ rn_fr n z z1 ∧ rn_LI z1 n A A.flatten.length := by
  obtain ⟨l3, -⟩ := po_len hn
  intro d
  induction d with
  | zero =>
    intro c k z hc hA hI hk
    obtain ⟨k, rfl⟩ : ∃ k', k = k' + 1 := ⟨k - 1, by omega⟩
    have hc2 : c = A.length := by omega
    subst hc2
    refine ⟨z, ?_, rn_fr_rf, ?_⟩
    · show qm_X12_link_2 K (q_X12_link K k) (nI A.length) 0 0 n 0 0 z = _
      unfold qm_X12_link_2
      simp only [rdF]
      rw [hA.2.1, po_le (by omega) (Nat.le_refl _)]
    · rw [rn_b_len] at hI
      exact hI
  | succ d ih =>
    intro c k z hc hA hI hk
    have hm := rn_b_mono A c
    have hbl := rn_b_le A (c + 1)
    obtain ⟨k2, rfl⟩ : ∃ k', k = k' + 4 * (rn_b A (c + 1) - rn_b A c) + 1 + 1 := ⟨k - 4 * (rn_b A (c + 1) - rn_b A c) - 2, by omega⟩
    obtain ⟨z2, e1, e2, e3⟩ := rn_link_in (K := K) hn hlen hcn hd (by omega) (rn_b A (c + 1) - rn_b A c) (rn_b A c) k2 z (by omega) (Nat.le_refl _) hA hI
    obtain ⟨z1, f1, f2, f3⟩ := ih (c + 1) k2 z2 (by omega) (rn_fr_At e2 hA) e3 (by omega)
    refine ⟨z1, ?_, rn_fr_tr e2 f2, f3⟩
    show qm_X12_link_2 K (q_X12_link K (k2 + 4 * (rn_b A (c + 1) - rn_b A c) + 1)) (nI c) 0 0 n 0 0 z = _
    unfold qm_X12_link_2
    simp only [rdF]
    have b0 : z.2.1 (n + 3) c = nI (rn_b A c) := hA.2.2.1 c (by omega)
    rw [hA.2.1, po_leN (by omega) (by omega), po_rdI (by rw [l3]; omega) (by omega), b0, e1]
    exact f1
theorem rn_link_0 {K n : Nat} (hn : mw_net n) : ∀ (d i k : Nat) (z : ow_MS), i + d = 40 → (∀ x, x < i → z.2.1 (n + 11) x = -1) → ∃ z1, q_X12_link K (k + d + 1) 1 (nI i) 0 0 n 0 0 z = q_X12_link K k 2 0 0 0 n 0 0 z1 ∧ rn_fr n z z1 ∧ ∀ x, x < 40 → z1.2.1 (n + 11) x = -1 := by
  have l11 := (po_len hn).2.2.2.2.2.2.2.2.1
  intro d
  induction d with
  | zero =>
    intro i k z hi hz
    refine ⟨z, ?_, rn_fr_rf, fun x hx => hz x (by omega)⟩
    show qm_X12_link_1 K (q_X12_link K k) (nI i) 0 0 n 0 0 z = _
    unfold qm_X12_link_1
    rw [show (40 : Int32) = nI 40 from rfl, po_le (by omega) (by omega)]
  | succ d ih =>
    intro i k z hi hz
    obtain ⟨z1, e1, e2, e3⟩ := ih (i + 1) k (usI z (n + 11) i (-1)) (by omega) (fun x hx => by
      by_cases hxi : x = i
      · subst hxi
        exact po_usI_at
      · rw [po_usI_ne hxi]
        exact hz x (by omega))
    refine ⟨z1, ?_, rn_fr_tr (rn_fr_I (by omega) (by omega)) e2, e3⟩
    show qm_X12_link_1 K (q_X12_link K (k + d + 1)) (nI i) 0 0 n 0 0 z = _
    unfold qm_X12_link_1
    rw [show (40 : Int32) = nI 40 from rfl, po_leN (by omega) (by omega), po_wrI (by rw [l11]; omega) (by omega), nI_1]
    exact e1
/-- link: components, neighbours, mates -/
theorem rn_link {K n : Nat} {z : ow_MS} {A : rn_L} (hK : 1000 ≤ K) (hn : mw_net n) (hlen : A.flatten.length ≤ 40) (hcn : A.length ≤ 39) (hd : rn_d2 A.flatten) (hA : rn_At z n A []) : ∃ z1, qe_X12_link K n z = some z1 ∧ rn_fr n z z1 ∧ rn_At z1 n A [] ∧ rn_LI z1 n A A.flatten.length := by
  obtain ⟨k, rfl⟩ : ∃ k', K = k' + 40 + 1 + 1 := ⟨K - 42, by omega⟩
  obtain ⟨z2, e1, e2, e3⟩ := rn_link_0 (K := k + 40 + 1 + 1) (n := n) hn 40 0 k z (by omega) (fun x hx => by omega)
  obtain ⟨z1, f1, f2, f3⟩ := rn_link_out (K := k + 40 + 1 + 1) hn hlen hcn hd A.length 0 k z2 (by omega) (rn_fr_At e2 hA) ⟨fun v hv => by rw [rn_b0] at hv; omega, fun x hx => Or.inl ⟨e3 x hx, fun v p hv => by rw [rn_b0] at hv; omega⟩, fun v w hv => by rw [rn_b0] at hv; omega⟩ (by rw [rn_b0]; omega)
  refine ⟨z1, ?_, rn_fr_tr e2 f2, rn_fr_At (rn_fr_tr e2 f2) hA, f3⟩
  show qm_X12_link_0 (k + 40 + 1 + 1) (q_X12_link (k + 40 + 1 + 1) (k + 40 + 1)) 0 0 0 n 0 0 z = _
  unfold qm_X12_link_0
  exact e1.trans f1
