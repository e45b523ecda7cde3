/-! the reference's nets: link -/
def rn_b (A : rn_L) (c : Nat) : Nat := (A.take c).flatten.length
theorem rn_b0 (A : rn_L) : rn_b A 0 = 0 := rfl
theorem rn_bS (B : List (Nat × Nat)) (A : rn_L) (c : Nat) : rn_b (B :: A) (c + 1) = B.length + rn_b A c := by
  unfold rn_b
  rw [List.take_succ_cons, List.flatten_cons, List.length_append]
theorem rn_bN (c : Nat) : rn_b [] c = 0 := by
  unfold rn_b
  rw [List.take_nil]
  rfl
theorem rn_b_mono : ∀ (A : rn_L) (c : Nat), rn_b A c ≤ rn_b A (c + 1)
  | [], c => by rw [rn_bN, rn_bN]; exact Nat.le_refl _
  | B :: A, 0 => by rw [rn_b0]; exact Nat.zero_le _
  | B :: A, c + 1 => by
    rw [rn_bS, rn_bS]
    exact Nat.add_le_add_left (rn_b_mono A c) _
theorem rn_b_len (A : rn_L) : rn_b A A.length = A.flatten.length := by
  unfold rn_b
  rw [List.take_length]
theorem rn_b_le : ∀ (A : rn_L) (c : Nat), rn_b A c ≤ A.flatten.length
  | [], c => by rw [rn_bN]; exact Nat.zero_le _
  | B :: A, 0 => by rw [rn_b0]; exact Nat.zero_le _
  | B :: A, c + 1 => by
    rw [rn_bS, List.flatten_cons, List.length_append]
    exact Nat.add_le_add_left (rn_b_le A c) _
/-- the component of a visit -/
def rn_c : rn_L → Nat → Nat
  | [], _ => 0
  | B :: A, v => if v < B.length then 0 else rn_c A (v - B.length) + 1
theorem rn_c_of : ∀ (A : rn_L) (c v : Nat), rn_b A c ≤ v → v < rn_b A (c + 1) → rn_c A v = c
  | [], c, v, _, h => by rw [rn_bN] at h; omega
  | B :: A, 0, v, _, h => by
    rw [rn_bS, rn_b0] at h
    unfold rn_c
    rw [if_pos (by omega)]
  | B :: A, c + 1, v, h1, h2 => by
    rw [rn_bS] at h1 h2
    unfold rn_c
    rw [if_neg (by omega), rn_c_of A c (v - B.length) (by omega) (by omega)]
theorem rn_c_in : ∀ (A : rn_L) (v : Nat), v < A.flatten.length → rn_c A v < A.length ∧ rn_b A (rn_c A v) ≤ v ∧ v < rn_b A (rn_c A v + 1)
  | [], v, h => by simp at h
  | B :: A, v, h => by
    rw [List.flatten_cons, List.length_append] at h
    unfold rn_c
    by_cases hv : v < B.length
    · rw [if_pos hv, rn_b0, rn_bS, rn_b0, List.length_cons]
      omega
    · obtain ⟨h1, h2, h3⟩ := rn_c_in A (v - B.length) (by omega)
      rw [if_neg hv, rn_bS, rn_bS, List.length_cons]
      omega
def rn_nx (A : rn_L) (v : Nat) : Nat := if v + 1 < rn_b A (rn_c A v + 1) then v + 1 else rn_b A (rn_c A v)
def rn_pv (A : rn_L) (v : Nat) : Nat := if rn_b A (rn_c A v) < v then v - 1 else rn_b A (rn_c A v + 1) - 1
/-- two visits of one crossing -/
def rn_mt (F : List (Nat × Nat)) (v w : Nat) : Prop := v ≠ w ∧ ∃ p q, F[v]? = some p ∧ F[w]? = some q ∧ p.1 = q.1
theorem rn_mt.symm {F : List (Nat × Nat)} {v w : Nat} (h : rn_mt F v w) : rn_mt F w v := by
  obtain ⟨h1, p, q, h2, h3, h4⟩ := h
  exact ⟨fun e => h1 e.symm, q, p, h3, h2, h4.symm⟩
/-- no crossing has three visits, and all are below 40 -/
def rn_d2 (F : List (Nat × Nat)) : Prop := (∀ v w w', rn_mt F v w → rn_mt F v w' → w = w') ∧ ∀ (v : Nat) (p : Nat × Nat), F[v]? = some p → p.1 < 40 ∧ p.2 < 2
def rn_LI (z : ow_MS) (n : Nat) (A : rn_L) (m : Nat) : Prop := (∀ v, v < m → z.2.1 (n + 8) v = nI (rn_c A v) ∧ z.2.1 (n + 9) v = nI (rn_nx A v) ∧ z.2.1 (n + 10) v = nI (rn_pv A v)) ∧ (∀ x, x < 40 → (z.2.1 (n + 11) x = -1 ∧ ∀ v p, v < m → A.flatten[v]? = some p → p.1 ≠ x) ∨ ∃ v p, v < m ∧ A.flatten[v]? = some p ∧ p.1 = x ∧ z.2.1 (n + 11) x = nI v) ∧ ∀ v w, v < m → w < m → rn_mt A.flatten v w → z.2.1 (n + 7) v = nI w
theorem rn_neg1 {v : Nat} (hv : v < 2 ^ 31) : ¬ nI v = -1 := by
  intro e
  have h1 := congrArg Int32.toInt e
  rw [nI_toInt hv] at h1
  have h2 : (-1 : Int32).toInt = -1 := by decide
  rw [h2] at h1
  omega
/-- the first three rows of an inner turn -/
def rn_z3 (z : ow_MS) (n : Nat) (A : rn_L) (v : Nat) : ow_MS := usI (usI (usI z (n + 8) v (nI (rn_c A v))) (n + 9) v (nI (rn_nx A v))) (n + 10) v (nI (rn_pv A v))
theorem rn_z3_rows {z : ow_MS} {n v : Nat} {A : rn_L} : (rn_z3 z n A v).2.1 (n + 7) = z.2.1 (n + 7) ∧ (rn_z3 z n A v).2.1 (n + 11) = z.2.1 (n + 11) ∧ ∀ m, (∀ w, w < m → z.2.1 (n + 8) w = nI (rn_c A w) ∧ z.2.1 (n + 9) w = nI (rn_nx A w) ∧ z.2.1 (n + 10) w = nI (rn_pv A w)) → m ≤ v → ∀ w, w < m ∨ w = v → (rn_z3 z n A v).2.1 (n + 8) w = nI (rn_c A w) ∧ (rn_z3 z n A v).2.1 (n + 9) w = nI (rn_nx A w) ∧ (rn_z3 z n A v).2.1 (n + 10) w = nI (rn_pv A w) := by
  unfold rn_z3
  refine ⟨by rw [po_usI_ot (by omega), po_usI_ot (by omega), po_usI_ot (by omega)], by rw [po_usI_ot (by omega), po_usI_ot (by omega), po_usI_ot (by omega)], fun m hm hv w hw => ?_⟩
  rw [po_usI_ot (h := n + 10) (g := n + 8) (by omega), po_usI_ot (h := n + 9) (g := n + 8) (by omega), po_usI_ot (h := n + 10) (g := n + 9) (by omega)]
  by_cases hwv : w = v
  · subst hwv
    exact ⟨po_usI_at, po_usI_at, po_usI_at⟩
  · have hwm : w < m := hw.resolve_right hwv
    rw [po_usI_ne hwv, po_usI_ne hwv, po_usI_ne hwv, po_usI_ot (by omega), po_usI_ot (by omega), po_usI_ot (by omega)]
    exact hm w hwm
theorem rn_LI_a {n v : Nat} {z : ow_MS} {A : rn_L} {p : Nat × Nat} (hI : rn_LI z n A v) (hp : A.flatten[v]? = some p) (hx : p.1 < 40) (j1 : z.2.1 (n + 11) p.1 = -1) (j2 : ∀ w p9, w < v → A.flatten[w]? = some p9 → p9.1 ≠ p.1) : rn_LI (usI (rn_z3 z n A v) (n + 11) p.1 (nI v)) n A (v + 1) := by
  obtain ⟨i1, i2, i3⟩ := hI
  obtain ⟨r7, r11, r8⟩ := rn_z3_rows (z := z) (n := n) (v := v) (A := A)
  have rows : ∀ z1 : ow_MS, z1.2.1 (n + 8) = (rn_z3 z n A v).2.1 (n + 8) → z1.2.1 (n + 9) = (rn_z3 z n A v).2.1 (n + 9) → z1.2.1 (n + 10) = (rn_z3 z n A v).2.1 (n + 10) → ∀ w, w < v + 1 → z1.2.1 (n + 8) w = nI (rn_c A w) ∧ z1.2.1 (n + 9) w = nI (rn_nx A w) ∧ z1.2.1 (n + 10) w = nI (rn_pv A w) := by
    intro z1 e8 e9 e10 w hw
    rw [e8, e9, e10]
    exact r8 v i1 (Nat.le_refl _) w (by omega)
  refine ⟨rows _ (po_usI_ot (by omega)) (po_usI_ot (by omega)) (po_usI_ot (by omega)), fun x hx2 => ?_, fun a b ha hb hm => ?_⟩
  · by_cases hxe : x = p.1
    · subst hxe
      exact Or.inr ⟨v, p, by omega, hp, rfl, po_usI_at⟩
    · rw [po_usI_ne hxe, r11]
      rcases i2 x hx2 with ⟨a1, a2⟩ | ⟨a, b, a1, a2, a3, a4⟩
      · refine Or.inl ⟨a1, fun w p9 hw hp9 => ?_⟩
        by_cases hwv : w = v
        · subst hwv
          rw [hp] at hp9
          cases hp9
          exact fun e => hxe e.symm
        · exact a2 w p9 (by omega) hp9
      · exact Or.inr ⟨a, b, by omega, a2, a3, a4⟩
  · rw [po_usI_ot (by omega), r7]
    have no : ∀ w, w < v → ¬ rn_mt A.flatten v w := by
      intro w hw hm9
      obtain ⟨-, p9, q9, e1, e2, e3⟩ := hm9
      rw [hp] at e1
      cases e1
      exact j2 w q9 hw e2 e3.symm
    have hav : a ≠ v := fun e => by
      subst e
      exact no b (by have := hm.1; omega) hm
    have hbv : b ≠ v := fun e => by
      subst e
      exact no a (by omega) hm.symm
    exact i3 a b (by omega) (by omega) hm
theorem rn_LI_b {n v w : Nat} {z : ow_MS} {A : rn_L} {p p2 : Nat × Nat} (hd : rn_d2 A.flatten) (hI : rn_LI z n A v) (hp : A.flatten[v]? = some p) (hx : p.1 < 40) (j1 : w < v) (j2 : A.flatten[w]? = some p2) (j3 : p2.1 = p.1) : rn_LI (usI (usI (rn_z3 z n A v) (n + 7) v (nI w)) (n + 7) w (nI v)) n A (v + 1) := by
  obtain ⟨i1, i2, i3⟩ := hI
  obtain ⟨r7, r11, r8⟩ := rn_z3_rows (z := z) (n := n) (v := v) (A := A)
  have rows : ∀ z1 : ow_MS, z1.2.1 (n + 8) = (rn_z3 z n A v).2.1 (n + 8) → z1.2.1 (n + 9) = (rn_z3 z n A v).2.1 (n + 9) → z1.2.1 (n + 10) = (rn_z3 z n A v).2.1 (n + 10) → ∀ w, w < v + 1 → z1.2.1 (n + 8) w = nI (rn_c A w) ∧ z1.2.1 (n + 9) w = nI (rn_nx A w) ∧ z1.2.1 (n + 10) w = nI (rn_pv A w) := by
    intro z1 e8 e9 e10 w hw
    rw [e8, e9, e10]
    exact r8 v i1 (Nat.le_refl _) w (by omega)
  have hvw : rn_mt A.flatten v w := ⟨by omega, p, p2, hp, j2, j3.symm⟩
  refine ⟨rows _ (by rw [po_usI_ot (by omega), po_usI_ot (by omega)]) (by rw [po_usI_ot (by omega), po_usI_ot (by omega)]) (by rw [po_usI_ot (by omega), po_usI_ot (by omega)]), fun x hx2 => ?_, fun a b ha hb hm => ?_⟩
  · rw [po_usI_ot (by omega), po_usI_ot (by omega), r11]
    rcases i2 x hx2 with ⟨a1, a2⟩ | ⟨a, b, a1, a2, a3, a4⟩
    · refine Or.inl ⟨a1, fun w9 p9 hw hp9 => ?_⟩
      by_cases hwv : w9 = v
      · subst hwv
        rw [hp] at hp9
        cases hp9
        rw [← j3]
        exact a2 w p2 j1 j2
      · exact a2 w9 p9 (by omega) hp9
    · exact Or.inr ⟨a, b, by omega, a2, a3, a4⟩
  · by_cases haw : a = w
    · subst haw
      rw [po_usI_at, hd.1 a b v hm hvw.symm]
    · rw [po_usI_ne haw]
      by_cases hav : a = v
      · subst hav
        rw [po_usI_at, hd.1 a b w hm hvw]
      · rw [po_usI_ne hav, r7]
        have hbv : b ≠ v := fun e => by
          subst e
          exact haw (hd.1 b a w hm.symm hvw)
        exact i3 a b (by omega) (by omega) hm
abbrev frL (n g : Nat) : Prop := n + 7 ≤ g ∧ g ≤ n + 11
theorem rn_z3_fr {z : ow_MS} {n v : Nat} {A : rn_L} : fr (frL n) z (rn_z3 z n A v) := fr_I2 (fr_I2 (fr_I ⟨by omega, by omega⟩) ⟨by omega, by omega⟩) ⟨by omega, by omega⟩
theorem u_X12_link_3 {x1 : Int32} {x2 : Int32} {x3 : Int32} {r0 : Nat} {t0 : Int32} {t1 : Int32} {z : ow_MS} {Q : ow_MS → Prop} (H : Tt (fun K k => qm_X12_link_3 K (q_X12_link K k) x1 x2 x3 r0 t0 t1 z) Q) : Tt (fun K k => q_X12_link K k 3 x1 x2 x3 r0 t0 t1 z) Q := w_un (fun _ _ => rfl) H
theorem u_X12_link_6 {x1 : Int32} {x2 : Int32} {x3 : Int32} {r0 : Nat} {t0 : Int32} {t1 : Int32} {z : ow_MS} {Q : ow_MS → Prop} (H : Tt (fun K k => qm_X12_link_6 K (q_X12_link K k) x1 x2 x3 r0 t0 t1 z) Q) : Tt (fun K k => q_X12_link K k 6 x1 x2 x3 r0 t0 t1 z) Q := w_un (fun _ _ => rfl) H
theorem u_X12_link_5 {x1 : Int32} {x2 : Int32} {x3 : Int32} {r0 : Nat} {t0 : Int32} {t1 : Int32} {z : ow_MS} {Q : ow_MS → Prop} (H : Tt (fun K k => qm_X12_link_5 K (q_X12_link K k) x1 x2 x3 r0 t0 t1 z) Q) : Tt (fun K k => q_X12_link K k 5 x1 x2 x3 r0 t0 t1 z) Q := w_un (fun _ _ => rfl) H
theorem u_X12_link_4 {x1 : Int32} {x2 : Int32} {x3 : Int32} {r0 : Nat} {t0 : Int32} {t1 : Int32} {z : ow_MS} {Q : ow_MS → Prop} (H : Tt (fun K k => qm_X12_link_4 K (q_X12_link K k) x1 x2 x3 r0 t0 t1 z) Q) : Tt (fun K k => q_X12_link K k 4 x1 x2 x3 r0 t0 t1 z) Q := w_un (fun _ _ => rfl) H
theorem u_X12_link_2 {x1 : Int32} {x2 : Int32} {x3 : Int32} {r0 : Nat} {t0 : Int32} {t1 : Int32} {z : ow_MS} {Q : ow_MS → Prop} (H : Tt (fun K k => qm_X12_link_2 K (q_X12_link K k) x1 x2 x3 r0 t0 t1 z) Q) : Tt (fun K k => q_X12_link K k 2 x1 x2 x3 r0 t0 t1 z) Q := w_un (fun _ _ => rfl) H
theorem u_X12_link_1 {x1 : Int32} {x2 : Int32} {x3 : Int32} {r0 : Nat} {t0 : Int32} {t1 : Int32} {z : ow_MS} {Q : ow_MS → Prop} (H : Tt (fun K k => qm_X12_link_1 K (q_X12_link K k) x1 x2 x3 r0 t0 t1 z) Q) : Tt (fun K k => q_X12_link K k 1 x1 x2 x3 r0 t0 t1 z) Q := w_un (fun _ _ => rfl) H
theorem e_X12_link {r0 : Nat} {z : ow_MS} {Q : ow_MS → Prop} (H : Tt (fun K k => q_X12_link K k 0 0 0 0 r0 0 0 z) Q) : Te (fun K => qe_X12_link K r0 z) Q := w_te H
theorem u_X12_link_0 {x1 : Int32} {x2 : Int32} {x3 : Int32} {r0 : Nat} {t0 : Int32} {t1 : Int32} {z : ow_MS} {Q : ow_MS → Prop} (H : Tt (fun K k => qm_X12_link_0 K (q_X12_link K k) x1 x2 x3 r0 t0 t1 z) Q) : Tt (fun K k => q_X12_link K k 0 x1 x2 x3 r0 t0 t1 z) Q := w_un (fun _ _ => rfl) H
/-- link: components, neighbours, mates -/
theorem tn_link {n : Nat} {z : ow_MS} {A : rn_L} (hn : mw_net n) (hlen : A.flatten.length ≤ 40) (hcn : A.length ≤ 39) (hd : rn_d2 A.flatten) (hA : rn_At z n A []) : Te (fun K => qe_X12_link K n z) (fun z1 => fr (frL n) z z1 ∧ rn_At z1 n A [] ∧ rn_LI z1 n A A.flatten.length) := by
  have frA : ∀ {y y1 : ow_MS}, fr (frL n) y y1 → rn_At y n A [] → rn_At y1 n A [] := fun hf h => fr_At hf (fun g hg => by have := hg.1; omega) h
  let Q : ow_MS → Prop := fun z1 => fr (frL n) z z1 ∧ rn_At z1 n A [] ∧ rn_LI z1 n A A.flatten.length
  have inn : ∀ (c : Nat), c < A.length → (∀ z1, fr (frL n) z z1 → rn_At z1 n A [] → rn_LI z1 n A (rn_b A (c + 1)) → Tt (fun K k => q_X12_link K k 2 (nI (c + 1)) 0 0 n 0 0 z1) Q) → ∀ (d v : Nat) (z1 : ow_MS), v + d = rn_b A (c + 1) → rn_b A c ≤ v → fr (frL n) z z1 → rn_At z1 n A [] → rn_LI z1 n A v → Tt (fun K k => q_X12_link K k 3 (nI c) (nI v) 0 n 0 0 z1) Q := by
    intro c hc hout d
    have hbl := rn_b_le A (c + 1)
    induction d with
    | zero =>
      intro v z1 hv h1 hf hA hI
      have hv2 : v = rn_b A (c + 1) := by omega
      subst hv2
      have b1 : z1.2.1 (n + 3) (c + 1) = nI (rn_b A (c + 1)) := hA.2.2.1 (c + 1) (by omega)
      refine u_X12_link_3 ?_; unfold qm_X12_link_3
      refine w_rdI (pl3 hn) (nI_1 _) (by omega) b1 (w_leT (by omega) (Nat.le_refl _) ?_)
      rw [nI_1]
      exact hout z1 hf hA hI
    | succ d ih =>
      intro v z1 hv h1 hf hA hI
      have b0 : z1.2.1 (n + 3) c = nI (rn_b A c) := hA.2.2.1 c (by omega)
      have b1 : z1.2.1 (n + 3) (c + 1) = nI (rn_b A (c + 1)) := hA.2.2.1 (c + 1) (by omega)
      have h2 : v < rn_b A (c + 1) := by omega
      have hco := rn_c_of A c v h1 h2
      obtain ⟨p, hp⟩ : ∃ p, A.flatten[v]? = some p := ⟨_, List.getElem?_eq_getElem (by omega)⟩
      have hx := (hd.2 v p hp).1
      have hcr : z1.2.1 (n + 4) v = nI p.1 := (hA.2.2.2 v p (by rw [List.append_nil]; exact hp)).1
      have hz : usI (usI (usI z1 (n + 8) v (nI c)) (n + 9) v (nI (rn_nx A v))) (n + 10) v (nI (rn_pv A v)) = rn_z3 z1 n A v := by
        unfold rn_z3
        rw [hco]
      have r11 := (rn_z3_rows (z := z1) (n := n) (v := v) (A := A)).2.1
      have hnx : rn_nx A v = if v + 1 < rn_b A (c + 1) then v + 1 else rn_b A c := by
        unfold rn_nx
        rw [hco]
      have hpv : rn_pv A v = if rn_b A c < v then v - 1 else rn_b A (c + 1) - 1 := by
        unfold rn_pv
        rw [hco]
      have c6 : ∀ (x3 : Int32) (z2 : ow_MS), fr (frL n) z1 z2 → rn_LI z2 n A (v + 1) → Tt (fun K k => q_X12_link K k 6 (nI c) (nI v) x3 n 0 0 z2) Q := by
        intro x3 z2 hf2 hI2
        refine u_X12_link_6 ?_; unfold qm_X12_link_6
        rw [nI_1]
        exact ih (v + 1) z2 (by omega) (by omega) (fr_tr hf hf2) (frA hf2 hA) hI2
      have c5 : Tt (fun K k => q_X12_link K k 5 (nI c) (nI v) 0 n (nI (rn_pv A v)) (nI v) (usI (usI z1 (n + 8) v (nI c)) (n + 9) v (nI (rn_nx A v)))) Q := by
        refine u_X12_link_5 ?_; unfold qm_X12_link_5
        refine w_wrI (pl10 hn) rfl (by omega) ?_
        rw [hz]
        refine w_rdI (pl4 hn) rfl (by omega) (x := nI p.1) ?_ ?_
        · rw [(rn_z3_fr (n + 4) (by omega)).2.1]
          exact hcr
        · rcases hI.2.1 p.1 hx with ⟨j1, j2⟩ | ⟨w, p2, j1, j2, j3, j4⟩
          · refine w_rdI (pl11 hn) rfl hx (x := -1) (by rw [r11]; exact j1) (w_ifT rfl (w_wrI (pl11 hn) rfl hx ?_))
            exact c6 _ _ (fr_I2 rn_z3_fr ⟨by omega, by omega⟩) (rn_LI_a hI hp hx j1 (fun w p9 hw hp9 => j2 w p9 hw hp9))
          · refine w_rdI (pl11 hn) rfl hx (x := nI w) (by rw [r11]; exact j4) (w_ifF (rn_neg1 (by omega)) (w_rdI (pl11 hn) rfl hx (x := nI w) (by rw [r11]; exact j4) (w_wrI (pl7 hn) rfl (by omega) (w_rdI (pl11 hn) rfl hx (x := nI w) (rd_ot (by omega) (by rw [r11]; exact j4)) (w_wrI (pl7 hn) rfl (by omega) ?_)))))
            exact c6 _ _ (fr_I2 (fr_I2 rn_z3_fr ⟨by omega, by omega⟩) ⟨by omega, by omega⟩) (rn_LI_b hd hI hp hx j1 j2 j3)
      have c4 : Tt (fun K k => q_X12_link K k 4 (nI c) (nI v) 0 n (nI (rn_nx A v)) (nI v) (usI z1 (n + 8) v (nI c))) Q := by
        refine u_X12_link_4 ?_; unfold qm_X12_link_4
        refine w_wrI (pl9 hn) rfl (by omega) (w_rdI (pl3 hn) rfl (by omega) (rd_ot (by omega) (rd_ot (by omega) b0)) (w_le (by omega) (by omega) (fun hb => w_rdI (pl3 hn) (nI_1 _) (by omega) (rd_ot (by omega) (rd_ot (by omega) b1)) ?_) (fun hb => ?_)))
        · have e9 : nI (rn_b A (c + 1)) - 1 = nI (rn_pv A v) := by
            rw [hpv, if_neg (by omega)]
            exact pk_sub (b := 1) (by omega)
          rw [e9]
          exact c5
        · have e9 : nI v - 1 = nI (rn_pv A v) := by
            rw [hpv, if_pos hb]
            exact pk_sub (b := 1) (by omega)
          rw [e9]
          exact c5
      refine u_X12_link_3 ?_; unfold qm_X12_link_3
      refine w_rdI (pl3 hn) (nI_1 _) (by omega) b1 (w_leF (by omega) h2 (w_wrI (pl8 hn) rfl (by omega) (w_rdI (pl3 hn) (nI_1 _) (by omega) (rd_ot (by omega) b1) ?_)))
      rw [nI_1]
      refine w_le (by omega) (by omega) (fun hb => w_rdI (pl3 hn) rfl (by omega) (rd_ot (by omega) b0) ?_) (fun hb => ?_)
      · rw [hnx, if_neg (by omega)] at c4
        exact c4
      · rw [hnx, if_pos hb] at c4
        exact c4
  have out : ∀ (d c : Nat) (z1 : ow_MS), c + d = A.length → fr (frL n) z z1 → rn_At z1 n A [] → rn_LI z1 n A (rn_b A c) → Tt (fun K k => q_X12_link K k 2 (nI c) 0 0 n 0 0 z1) Q := by
    intro d
    induction d with
    | zero =>
      intro c z1 hc hf hA hI
      have hc2 : c = A.length := by omega
      subst hc2
      refine u_X12_link_2 ?_; unfold qm_X12_link_2
      rw [rn_b_len] at hI
      exact w_rdF hA.2.1 (w_leT (by omega) (Nat.le_refl _) (w_some ⟨hf, hA, hI⟩))
    | succ d ih =>
      intro c z1 hc hf hA hI
      have hm := rn_b_mono A c
      refine u_X12_link_2 ?_; unfold qm_X12_link_2
      exact w_rdF hA.2.1 (w_leF (by omega) (by omega) (w_rdI (pl3 hn) rfl (by omega) (hA.2.2.1 c (by omega)) (inn c (by omega) (fun z2 h1 h2 h3 => ih (c + 1) z2 (by omega) h1 h2 h3) (rn_b A (c + 1) - rn_b A c) (rn_b A c) z1 (by omega) (Nat.le_refl _) hf hA hI)))
  have zer : ∀ (d i : Nat) (z1 : ow_MS), i + d = 40 → fr (frL n) z z1 → (∀ x, x < i → z1.2.1 (n + 11) x = -1) → Tt (fun K k => q_X12_link K k 1 (nI i) 0 0 n 0 0 z1) Q := by
    intro d
    induction d with
    | zero =>
      intro i z1 hi hf hx
      refine u_X12_link_1 ?_; unfold qm_X12_link_1
      refine w_leT (a := 40) (by omega) (by omega) (out A.length 0 z1 (by omega) hf (frA hf hA) ⟨fun v hv => by rw [rn_b0] at hv; omega, fun x hx2 => Or.inl ⟨hx x (by omega), fun v p hv => by rw [rn_b0] at hv; omega⟩, fun v w hv => by rw [rn_b0] at hv; omega⟩)
    | succ d ih =>
      intro i z1 hi hf hx
      refine u_X12_link_1 ?_; unfold qm_X12_link_1
      refine w_leF (a := 40) (by omega) (by omega) (w_wrI (pl11 hn) rfl (by omega) ?_)
      rw [nI_1]
      refine ih (i + 1) _ (by omega) (fr_I2 hf ⟨by omega, by omega⟩) (fun x hx2 => ?_)
      by_cases hxi : x = i
      · rw [hxi]
        exact po_usI_at
      · exact rd_ne hxi (hx x (by omega))
  refine e_X12_link ?_
  refine u_X12_link_0 ?_; unfold qm_X12_link_0
  exact zer 40 0 z (by omega) fr_rf (fun x hx => by omega)
