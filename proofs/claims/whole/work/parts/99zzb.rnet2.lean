/-! the reference's nets: signsOf, copy -/
theorem rn_signs_lp {K n o : Nat} (hn : mw_net n) (ho : mw_net o) (hno : n / 1000 ≠ o / 1000) : ∀ (d i k : Nat) (z : ow_MS), i + d = 40 → d < k → ∃ z1, q_X12_signsOf K k 1 (nI i) n o z = some z1 ∧ z1.1 = z.1 ∧ z1.2.2 = z.2.2 ∧ (∀ g, g ≠ n + 6 → z1.2.1 g = z.2.1 g) ∧ ∀ x, z1.2.1 (n + 6) x = if i ≤ x ∧ x < 40 then z.2.1 (o + 6) x else z.2.1 (n + 6) x := by
  have l6 := (po_len hn).2.2.2.1
  have m6 := (po_len ho).2.2.2.1
  have hne : o + 6 ≠ n + 6 := by
    intro e
    have h1 := po_netk hn (k := 6) (by omega)
    have h2 := po_netk ho (k := 6) (by omega)
    rw [← e] at h1
    exact hno (h1.symm.trans h2)
  intro d
  induction d with
  | zero =>
    intro i k z hi hk
    obtain ⟨k, rfl⟩ : ∃ k', k = k' + 1 := ⟨k - 1, by omega⟩
    refine ⟨z, ?_, rfl, rfl, fun _ _ => rfl, fun x => ?_⟩
    · show qm_X12_signsOf_1 K (q_X12_signsOf K k) (nI i) n o z = _
      unfold qm_X12_signsOf_1
      exact po_le (a := 40) (by omega) (by omega)
    · rw [if_neg (by omega)]
  | succ d ih =>
    intro i k z hi hk
    obtain ⟨k, rfl⟩ : ∃ k', k = k' + 1 := ⟨k - 1, by omega⟩
    obtain ⟨z1, h1, h2, h3, h4, h5⟩ := ih (i + 1) k (usI z (n + 6) i (z.2.1 (o + 6) i)) (by omega) (by omega)
    refine ⟨z1, ?_, h2, h3, fun g hg => (h4 g hg).trans (po_usI_ot hg), fun x => ?_⟩
    · show qm_X12_signsOf_1 K (q_X12_signsOf K k) (nI i) n o z = _
      unfold qm_X12_signsOf_1
      rw [show (40 : Int32) = nI 40 from rfl, po_leN (by omega) (by omega), po_rdI (by rw [m6]; omega) (by omega), po_wrI (by rw [l6]; omega) (by omega), nI_1]
      exact h1
    · rw [h5 x, po_usI_ot hne]
      by_cases hx : x = i
      · subst hx
        rw [if_neg (by omega), if_pos (by omega), po_usI_at]
      · rw [po_usI_ne hx]
        by_cases hx2 : i + 1 ≤ x ∧ x < 40
        · rw [if_pos hx2, if_pos (by omega)]
        · rw [if_neg hx2, if_neg (by omega)]
theorem rn_signs {K n o : Nat} {z : ow_MS} (hn : mw_net n) (ho : mw_net o) (hno : n / 1000 ≠ o / 1000) (hK : 100 ≤ K) : ∃ z1, qe_X12_signsOf K n o z = some z1 ∧ z1.1 = z.1 ∧ z1.2.2 = z.2.2 ∧ (∀ g, g ≠ n + 6 → z1.2.1 g = z.2.1 g) ∧ ∀ x, x < 40 → z1.2.1 (n + 6) x = z.2.1 (o + 6) x := by
  obtain ⟨k, rfl⟩ : ∃ k', K = k' + 1 := ⟨K - 1, by omega⟩
  obtain ⟨z1, h1, h2, h3, h4, h5⟩ := rn_signs_lp (K := k + 1) hn ho hno 40 0 k z (by omega) (by omega)
  refine ⟨z1, h1, h2, h3, h4, fun x hx => ?_⟩
  rw [h5 x, if_pos (by omega)]
def rn_fo (A : rn_L) : Nat := (A.map (fun B => B.length + 2)).sum + 1
theorem rn_fo_cons (B : List (Nat × Nat)) (A : rn_L) : rn_fo (B :: A) = B.length + 2 + rn_fo A := by
  unfold rn_fo
  rw [List.map_cons, List.sum_cons]
  omega
theorem rn_at_idx {A1 A2 : rn_L} {B1 B2 : List (Nat × Nat)} {p : Nat × Nat} : ((A1 ++ (B1 ++ p :: B2) :: A2).flatten ++ [])[A1.flatten.length + B1.length]? = some p := by
  have e : (A1 ++ (B1 ++ p :: B2) :: A2).flatten ++ [] = (A1.flatten ++ B1) ++ (p :: (B2 ++ A2.flatten)) := by simp
  rw [e, ← List.length_append, List.getElem?_append_right (Nat.le_refl _), Nat.sub_self]
  rfl
theorem rn_take1 {A1 A2 : rn_L} {B : List (Nat × Nat)} : ((A1 ++ B :: A2).take (A1.length + 1)).flatten.length = A1.flatten.length + B.length := by
  rw [List.take_append, List.take_of_length_le (by omega)]
  have : A1.length + 1 - A1.length = 1 := by omega
  rw [this]
  simp
theorem rn_take0 {A1 A2 : rn_L} : ((A1 ++ A2).take A1.length).flatten.length = A1.flatten.length := by
  rw [List.take_append_of_le_length (Nat.le_refl _), List.take_length]
/-- what copy has done at its end -/
def rn_cpQ (n o : Nat) (A : rn_L) (z z1 : ow_MS) : Prop := rn_At z1 n A [] ∧ po_out n z z1 ∧ ∀ x, x < 40 → z1.2.1 (n + 6) x = z.2.1 (o + 6) x
theorem rn_copy_in {K n o : Nat} (hn : mw_net n) (ho : mw_net o) (hno : n / 1000 ≠ o / 1000) {A1 A2 : rn_L} {B : List (Nat × Nat)} (hlen : (A1 ++ B :: A2).flatten.length ≤ 40) (hcn : (A1 ++ B :: A2).length ≤ 39)
    (hout : ∀ (k : Nat) (z : ow_MS), rn_At z o (A1 ++ B :: A2) [] → rn_At z n (A1 ++ [B]) [] → rn_fo A2 ≤ k → ∃ z1, q_X12_copy K k 1 (nI (A1.length + 1)) 0 n o z = some z1 ∧ rn_cpQ n o (A1 ++ B :: A2) z z1) :
    ∀ (B2 B1 : List (Nat × Nat)) (k : Nat) (z : ow_MS), B1 ++ B2 = B → rn_At z o (A1 ++ B :: A2) [] → rn_At z n A1 B1 → B2.length + 1 + rn_fo A2 ≤ k → ∃ z1, q_X12_copy K k 2 (nI A1.length) (nI (A1.flatten.length + B1.length)) n o z = some z1 ∧ rn_cpQ n o (A1 ++ B :: A2) z z1 := by
  obtain ⟨m3, m4, m5, -⟩ := po_len ho
  have hL : A1.flatten.length + B.length ≤ 40 := by
    have : (A1 ++ B :: A2).flatten.length = A1.flatten.length + (B.length + A2.flatten.length) := by simp
    omega
  have hC : A1.length + 1 ≤ 39 := by
    have : (A1 ++ B :: A2).length = A1.length + (A2.length + 1) := by simp
    omega
  intro B2
  induction B2 with
  | nil =>
    intro B1 k z hB hzo hzn hk
    rw [List.append_nil] at hB
    subst hB
    obtain ⟨k, rfl⟩ : ∃ k', k = k' + 1 := ⟨k - 1, by omega⟩
    obtain ⟨z2, e1, e2, e3, e4⟩ := rn_end (K := K) hn hzn (by omega)
    obtain ⟨z1, f1, f2, f3, f4⟩ := hout k z2 (rn_out ho (fun e => hno e.symm) e3 hzo) e2 (by simp only [List.length_nil] at hk; omega)
    refine ⟨z1, ?_, f2, po_out_tr e3 f3, fun x hx => ?_⟩
    · show qm_X12_copy_2 K (q_X12_copy K k) (nI A1.length) (nI (A1.flatten.length + B1.length)) n o z = _
      unfold qm_X12_copy_2
      rw [nI_1, po_rdI (by rw [m3]; omega) (by omega), hzo.2.2.1 (A1.length + 1) (by simp), rn_take1, po_le (by omega) (Nat.le_refl _), po_cs0 e1]
      exact f1
    · rw [f4 x hx, (e3 (o + 6) (by rw [po_netk ho (by omega)]; exact fun e => hno e.symm)).2.1]
  | cons p B2 ih =>
    intro B1 k z hB hzo hzn hk
    obtain ⟨k, rfl⟩ : ∃ k', k = k' + 1 := ⟨k - 1, by omega⟩
    have hBl : B1.length + (B2.length + 1) = B.length := by
      rw [← hB, List.length_append]
      rfl
    obtain ⟨z2, e1, e2, e3, e4⟩ := rn_add (K := K) (x := p.1) (u := p.2) hn hzn (by rw [List.length_append]; omega)
    obtain ⟨z1, f1, f2, f3, f4⟩ := ih (B1 ++ [p]) k z2 (by rw [← hB]; simp) (rn_out ho (fun e => hno e.symm) e3 hzo) e2 (by simp only [List.length_cons] at hk; omega)
    have hx := hzo.2.2.2 (A1.flatten.length + B1.length) p (by rw [← hB]; exact rn_at_idx)
    refine ⟨z1, ?_, f2, po_out_tr e3 f3, fun x hx => ?_⟩
    · show qm_X12_copy_2 K (q_X12_copy K k) (nI A1.length) (nI (A1.flatten.length + B1.length)) n o z = _
      unfold qm_X12_copy_2
      rw [nI_1, po_rdI (by rw [m3]; omega) (by omega), hzo.2.2.1 (A1.length + 1) (by simp), rn_take1, po_leN (by omega) (by omega), po_rdI (by rw [m4]; omega) (by omega), po_rdI (by rw [m5]; omega) (by omega), hx.1, hx.2, po_cs0 e1, nI_1]
      rw [List.length_append] at f1
      exact f1
    · rw [f4 x hx, (e3 (o + 6) (by rw [po_netk ho (by omega)]; exact fun e => hno e.symm)).2.1]
theorem rn_copy_out {K n o : Nat} (hK : 100 ≤ K) (hn : mw_net n) (ho : mw_net o) (hno : n / 1000 ≠ o / 1000) : ∀ (A2 A1 : rn_L) (k : Nat) (z : ow_MS), (A1 ++ A2).flatten.length ≤ 40 → (A1 ++ A2).length ≤ 39 → rn_At z o (A1 ++ A2) [] → rn_At z n A1 [] → rn_fo A2 ≤ k → ∃ z1, q_X12_copy K k 1 (nI A1.length) 0 n o z = some z1 ∧ rn_cpQ n o (A1 ++ A2) z z1 := by
  obtain ⟨m3, m4, m5, -⟩ := po_len ho
  intro A2
  induction A2 with
  | nil =>
    intro A1 k z hlen hcn hzo hzn hk
    obtain ⟨k, rfl⟩ : ∃ k', k = k' + 1 := ⟨k - 1, by unfold rn_fo at hk; omega⟩
    rw [List.append_nil] at hzo hlen hcn
    obtain ⟨z1, e1, e2, e3, e4, e5⟩ := rn_signs (K := K) (z := z) hn ho hno hK
    have hpo : po_out n z z1 := fun g hg => ⟨by rw [e2], e4 g (fun e => hg (by rw [e]; exact po_netk hn (by omega))), by rw [e3]⟩
    refine ⟨z1, ?_, ?_, hpo, e5⟩
    · show qm_X12_copy_1 K (q_X12_copy K k) (nI A1.length) 0 n o z = _
      unfold qm_X12_copy_1
      simp only [rdF]
      rw [hzo.2.1, po_le (by omega) (Nat.le_refl _), po_cs0 e1]
    · rw [List.append_nil]
      obtain ⟨g1, g2, g3, g4⟩ := hzn
      refine ⟨by rw [e2]; exact g1, by rw [e2]; exact g2, fun c hc => by rw [e4 _ (by omega)]; exact g3 c hc, fun v p hv => by rw [e4 _ (by omega), e4 _ (by omega)]; exact g4 v p hv⟩
  | cons B A2 ih =>
    intro A1 k z hlen hcn hzo hzn hk
    rw [rn_fo_cons] at hk
    obtain ⟨k, rfl⟩ : ∃ k', k = k' + 1 := ⟨k - 1, by omega⟩
    have hC : A1.length + 1 ≤ 39 := by
      have : (A1 ++ B :: A2).length = A1.length + (A2.length + 1) := by simp
      omega
    have hL : A1.flatten.length + B.length ≤ 40 := by
      have : (A1 ++ B :: A2).flatten.length = A1.flatten.length + (B.length + A2.flatten.length) := by simp
      omega
    have eA : (A1 ++ [B]) ++ A2 = A1 ++ B :: A2 := by simp
    have hin := rn_copy_in (K := K) hn ho hno (A1 := A1) (A2 := A2) (B := B) hlen hcn (fun k9 z9 h1 h2 h3 => by
      have := ih (A1 ++ [B]) k9 z9 (by rw [eA]; exact hlen) (by rw [eA]; exact hcn) (by rw [eA]; exact h1) h2 h3
      rw [eA, List.length_append] at this
      exact this) B [] k z (List.nil_append _) hzo hzn (by omega)
    obtain ⟨z1, e1, e2⟩ := hin
    refine ⟨z1, ?_, e2⟩
    show qm_X12_copy_1 K (q_X12_copy K k) (nI A1.length) 0 n o z = _
    unfold qm_X12_copy_1
    simp only [rdF]
    have h2 : z.1 (o + 2) = nI (A1.length + (A2.length + 1)) := by
      rw [hzo.2.1]
      simp
    have hcn2 : A1.length + (A2.length + 1) ≤ 39 := by
      have : (A1 ++ B :: A2).length = A1.length + (A2.length + 1) := by simp
      omega
    rw [h2, po_leN (by omega) (by omega), po_rdI (by rw [m3]; omega) (by omega), hzo.2.2.1 A1.length (by simp), rn_take0]
    exact e1
/-- copy: the net n becomes what o is -/
theorem rn_copy {K n o : Nat} {z : ow_MS} {A : rn_L} (hK : 1000 ≤ K) (hn : mw_net n) (ho : mw_net o) (hno : n / 1000 ≠ o / 1000) (hlen : A.flatten.length ≤ 40) (hcn : A.length ≤ 39) (hzo : rn_At z o A []) : ∃ z1, qe_X12_copy K n o z = some z1 ∧ rn_cpQ n o A z z1 := by
  obtain ⟨k, rfl⟩ : ∃ k', K = k' + 1 := ⟨K - 1, by omega⟩
  obtain ⟨z2, e1, e2, e3, e4⟩ := rn_clear (K := k + 1) (z := z) hn
  have hfo : rn_fo A ≤ k := by
    have key : ∀ A : rn_L, rn_fo A = A.flatten.length + 2 * A.length + 1 := by
      intro A
      induction A with
      | nil => rfl
      | cons B A ih =>
        rw [rn_fo_cons, ih, List.flatten_cons, List.length_append, List.length_cons]
        omega
    rw [key]
    omega
  obtain ⟨z1, f1, f2, f3, f4⟩ := rn_copy_out (K := k + 1) (by omega) hn ho hno A [] k z2 hlen hcn (rn_out ho (fun e => hno e.symm) e3 hzo) e2 hfo
  refine ⟨z1, ?_, f2, po_out_tr e3 f3, fun x hx => ?_⟩
  · show qm_X12_copy_0 (k + 1) (q_X12_copy (k + 1) k) 0 0 n o z = _
    unfold qm_X12_copy_0
    rw [po_cs0 e1]
    exact f1
  · rw [f4 x hx, (e3 (o + 6) (by rw [po_netk ho (by omega)]; exact fun e => hno e.symm)).2.1]
