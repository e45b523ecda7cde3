theorem pl3 {n : Nat} (hn : mw_net n) : (mX.2 (n + 3)).2.1 = 40 := (po_len hn).1
theorem pl4 {n : Nat} (hn : mw_net n) : (mX.2 (n + 4)).2.1 = 40 := (po_len hn).2.1
theorem pl5 {n : Nat} (hn : mw_net n) : (mX.2 (n + 5)).2.1 = 40 := (po_len hn).2.2.1
theorem pl6 {n : Nat} (hn : mw_net n) : (mX.2 (n + 6)).2.1 = 40 := (po_len hn).2.2.2.1
theorem pl7 {n : Nat} (hn : mw_net n) : (mX.2 (n + 7)).2.1 = 40 := (po_len hn).2.2.2.2.1
theorem pl8 {n : Nat} (hn : mw_net n) : (mX.2 (n + 8)).2.1 = 40 := (po_len hn).2.2.2.2.2.1
theorem pl9 {n : Nat} (hn : mw_net n) : (mX.2 (n + 9)).2.1 = 40 := (po_len hn).2.2.2.2.2.2.1
theorem pl10 {n : Nat} (hn : mw_net n) : (mX.2 (n + 10)).2.1 = 40 := (po_len hn).2.2.2.2.2.2.2.1
theorem pl11 {n : Nat} (hn : mw_net n) : (mX.2 (n + 11)).2.1 = 40 := (po_len hn).2.2.2.2.2.2.2.2.1
theorem pl12 {n : Nat} (hn : mw_net n) : (mX.2 (n + 12)).2.1 = 40 := (po_len hn).2.2.2.2.2.2.2.2.2.1
theorem pl14 {n : Nat} (hn : mw_net n) : (mX.2 (n + 14)).2.1 = 80 := (po_len hn).2.2.2.2.2.2.2.2.2.2.1
theorem pl15 {n : Nat} (hn : mw_net n) : (mX.2 (n + 15)).2.1 = 80 := (po_len hn).2.2.2.2.2.2.2.2.2.2.2
/-! a net of the reference: closed components A, an open one B; a visit is (crossing, under) -/
abbrev rn_L := List (List (Nat × Nat))
def rn_At (z : ow_MS) (n : Nat) (A : rn_L) (B : List (Nat × Nat)) : Prop := z.1 (n + 1) = nI (A.flatten ++ B).length ∧ z.1 (n + 2) = nI A.length ∧ (∀ c, c ≤ A.length → z.2.1 (n + 3) c = nI (A.take c).flatten.length) ∧ ∀ v p, (A.flatten ++ B)[v]? = some p → z.2.1 (n + 4) v = nI p.1 ∧ z.2.1 (n + 5) v = nI p.2
theorem fr_At {P : Nat → Prop} {z z1 : ow_MS} {n : Nat} {A : rn_L} {B : List (Nat × Nat)} (hf : fr P z z1) (hP : ∀ g, P g → g < n + 1 ∨ n + 5 < g) (h : rn_At z n A B) : rn_At z1 n A B := by
  have e : ∀ g, n + 1 ≤ g → g ≤ n + 5 → z1.1 g = z.1 g ∧ z1.2.1 g = z.2.1 g := fun g h1 h2 => by
    have := hf g (fun h9 => by have := hP g h9; omega)
    exact ⟨this.1, this.2.1⟩
  obtain ⟨h1, h2, h3, h4⟩ := h
  refine ⟨?_, ?_, fun c hc => ?_, fun v p hv => ?_⟩
  · rw [(e _ (by omega) (by omega)).1]; exact h1
  · rw [(e _ (by omega) (by omega)).1]; exact h2
  · rw [(e _ (by omega) (by omega)).2]; exact h3 c hc
  · rw [(e _ (by omega) (by omega)).2, (e (n + 5) (by omega) (by omega)).2]; exact h4 v p hv
theorem net_mod {n : Nat} (hn : mw_net n) : n % 1000 = 0 ∧ 1000 ≤ n := by
  obtain ⟨o, ho, rfl⟩ := hn
  omega
/-- the handles of a net -/
def nblk (n g : Nat) : Prop := g / 1000 = n / 1000
theorem net_ne {n o k j : Nat} (hn : mw_net n) (ho : mw_net o) (hno : n ≠ o) (hk : k < 1000) (hj : j < 1000) : n + k ≠ o + j := by
  have := net_mod hn
  have := net_mod ho
  omega
theorem fr_At2 {P : Nat → Prop} {z z1 : ow_MS} {n o : Nat} {A : rn_L} {B : List (Nat × Nat)} (hn : mw_net n) (ho : mw_net o) (hno : n ≠ o) (hf : fr P z z1) (hP : ∀ g, P g → nblk n g) (h : rn_At z o A B) : rn_At z1 o A B := fr_At hf (fun g hg => by
  have h1 := hP g hg
  have := net_mod hn
  have := net_mod ho
  unfold nblk at h1
  omega) h
theorem e_X12_clear {r0 : Nat} {z : ow_MS} {Q : ow_MS → Prop} (H : Tt (fun K _ => qm_X12_clear_0 K r0 z) Q) : Te (fun K => qe_X12_clear K r0 z) Q := w_te0 H
theorem tn_clear {n : Nat} {z : ow_MS} (hn : mw_net n) : Te (fun K => qe_X12_clear K n z) (fun z1 => rn_At z1 n [] [] ∧ fr (fun g => g = n + 1 ∨ g = n + 2 ∨ g = n + 3) z z1) := by
  refine e_X12_clear ?_; unfold qm_X12_clear_0
  refine w_wrF (w_wrF (w_wrI (pl3 hn) nI_0.symm (by omega) (w_some ⟨⟨?_, ?_, fun c hc => ?_, fun v p hv => ?_⟩, ?_⟩)))
  · show (usF (usF z (n + 1) 0) (n + 2) 0).1 (n + 1) = 0
    rw [po_usF_ot (by omega), po_usF_at]
  · show (usF (usF z (n + 1) 0) (n + 2) 0).1 (n + 2) = 0
    exact po_usF_at
  · have h0 : c = 0 := Nat.le_zero.mp hc
    subst h0
    exact po_usI_at
  · simp at hv
  · exact fr_I2 (fr_F2 (fr_F (Or.inl rfl)) (Or.inr (Or.inl rfl))) (Or.inr (Or.inr rfl))
theorem e_X12_add {r0 : Nat} {x1 : Int32} {x2 : Int32} {z : ow_MS} {Q : ow_MS → Prop} (H : Tt (fun K _ => qm_X12_add_0 K x1 x2 r0 z) Q) : Te (fun K => qe_X12_add K r0 x1 x2 z) Q := w_te0 H
theorem tn_add {n x u : Nat} {z : ow_MS} {A : rn_L} {B : List (Nat × Nat)} (hn : mw_net n) (h : rn_At z n A B) (hlen : (A.flatten ++ B).length < 40) : Te (fun K => qe_X12_add K n (nI x) (nI u) z) (fun z1 => rn_At z1 n A (B ++ [(x, u)]) ∧ fr (fun g => g = n + 1 ∨ g = n + 4 ∨ g = n + 5) z z1) := by
  obtain ⟨h1, h2, h3, h4⟩ := h
  generalize hv : (A.flatten ++ B).length = v at h1 hlen
  refine e_X12_add ?_; unfold qm_X12_add_0
  refine w_rdF h1 (w_wrI (pl4 hn) rfl hlen (w_rdF (x := nI v) h1 (w_wrI (pl5 hn) rfl hlen (w_rdF (x := nI v) h1 (w_wrF (w_some ⟨⟨?_, ?_, fun c hc => ?_, fun w p hw => ?_⟩, ?_⟩))))))
  · rw [po_usF_at, ← List.append_assoc, List.length_append, hv]
    exact nI_1 v
  · rw [po_usF_ot (by omega)]
    exact h2
  · show (usI (usI z (n + 4) v (nI x)) (n + 5) v (nI u)).2.1 (n + 3) c = _
    rw [po_usI_ot (by omega), po_usI_ot (by omega)]
    exact h3 c hc
  · show (usI (usI z (n + 4) v (nI x)) (n + 5) v (nI u)).2.1 (n + 4) w = _ ∧ (usI (usI z (n + 4) v (nI x)) (n + 5) v (nI u)).2.1 (n + 5) w = _
    rw [po_usI_ot (h := n + 5) (g := n + 4) (by omega)]
    rw [← List.append_assoc] at hw
    by_cases hwv : w = v
    · subst hwv
      rw [← hv, List.getElem?_append_right (Nat.le_refl _), Nat.sub_self] at hw
      cases hw
      exact ⟨po_usI_at, po_usI_at⟩
    · have hlt : w < v := by
        have h9 := (List.getElem?_eq_some_iff.mp hw).1
        rw [List.length_append, hv] at h9
        have : w < v + 1 := h9
        omega
      rw [List.getElem?_append_left (by rw [hv]; exact hlt)] at hw
      rw [po_usI_ne hwv, po_usI_ne hwv, po_usI_ot (by omega)]
      exact h4 w p hw
  · exact fr_F2 (fr_I2 (fr_I (Or.inr (Or.inl rfl))) (Or.inr (Or.inr rfl))) (Or.inl rfl)
theorem e_X12_end {r0 : Nat} {z : ow_MS} {Q : ow_MS → Prop} (H : Tt (fun K _ => qm_X12_end_0 K r0 z) Q) : Te (fun K => qe_X12_end K r0 z) Q := w_te0 H
theorem tn_end {n : Nat} {z : ow_MS} {A : rn_L} {B : List (Nat × Nat)} (hn : mw_net n) (h : rn_At z n A B) (hlen : A.length < 39) : Te (fun K => qe_X12_end K n z) (fun z1 => rn_At z1 n (A ++ [B]) [] ∧ fr (fun g => g = n + 2 ∨ g = n + 3) z z1) := by
  obtain ⟨h1, h2, h3, h4⟩ := h
  have hfl : (A ++ [B]).flatten = A.flatten ++ B := by rw [List.flatten_append]; simp
  refine e_X12_end ?_; unfold qm_X12_end_0
  refine w_rdF h2 (w_wrF (w_rdF (x := nI (A.length + 1)) (po_usF_at.trans (nI_1 _)) (w_rdF (x := nI (A.flatten ++ B).length) (rf_ot (by omega) h1) (w_wrI (pl3 hn) rfl (by omega) (w_some ⟨⟨?_, ?_, fun c hc => ?_, fun w p hw => ?_⟩, ?_⟩)))))
  · show (usF z (n + 2) (nI A.length + 1)).1 (n + 1) = _
    rw [po_usF_ot (by omega), h1, hfl, List.append_nil]
  · show (usF z (n + 2) (nI A.length + 1)).1 (n + 2) = _
    rw [po_usF_at, List.length_append]
    exact nI_1 _
  · by_cases hc2 : c = A.length + 1
    · subst hc2
      rw [po_usI_at, List.take_of_length_le (by rw [List.length_append]; exact Nat.le_refl _), hfl]
    · have hc3 : c ≤ A.length := by
        rw [List.length_append] at hc
        have : c ≤ A.length + 1 := hc
        omega
      rw [po_usI_ne hc2, List.take_append_of_le_length hc3]
      exact h3 c hc3
  · rw [hfl, List.append_nil] at hw
    exact ⟨rd_ot (by omega) (h4 w p hw).1, rd_ot (by omega) (h4 w p hw).2⟩
  · exact fr_I2 (fr_F (Or.inl rfl)) (Or.inr rfl)
theorem e_X12_signsOf {r0 : Nat} {r1 : Nat} {z : ow_MS} {Q : ow_MS → Prop} (H : Tt (fun K k => q_X12_signsOf K k 0 0 r0 r1 z) Q) : Te (fun K => qe_X12_signsOf K r0 r1 z) Q := w_te H
theorem u_X12_signsOf_0 {x2 : Int32} {r0 : Nat} {r1 : Nat} {z : ow_MS} {Q : ow_MS → Prop} (H : Tt (fun K k => qm_X12_signsOf_0 K (q_X12_signsOf K k) x2 r0 r1 z) Q) : Tt (fun K k => q_X12_signsOf K k 0 x2 r0 r1 z) Q := w_un (fun _ _ => rfl) H
theorem u_X12_signsOf_1 {x2 : Int32} {r0 : Nat} {r1 : Nat} {z : ow_MS} {Q : ow_MS → Prop} (H : Tt (fun K k => qm_X12_signsOf_1 K (q_X12_signsOf K k) x2 r0 r1 z) Q) : Tt (fun K k => q_X12_signsOf K k 1 x2 r0 r1 z) Q := w_un (fun _ _ => rfl) H
theorem tn_signs {n o : Nat} {z : ow_MS} (hn : mw_net n) (ho : mw_net o) (hno : n ≠ o) : Te (fun K => qe_X12_signsOf K n o z) (fun z1 => fr (fun g => g = n + 6) z z1 ∧ ∀ x, x < 40 → z1.2.1 (n + 6) x = z.2.1 (o + 6) x) := by
  refine e_X12_signsOf ?_
  refine u_X12_signsOf_0 ?_; unfold qm_X12_signsOf_0
  have hne : o + 6 ≠ n + 6 := by omega
  have key : ∀ (d i : Nat) (z1 : ow_MS), i + d = 40 → fr (fun g => g = n + 6) z z1 → (∀ x, x < i → z1.2.1 (n + 6) x = z.2.1 (o + 6) x) → Tt (fun K k => q_X12_signsOf K k 1 (nI i) n o z1) (fun z1 => fr (fun g => g = n + 6) z z1 ∧ ∀ x, x < 40 → z1.2.1 (n + 6) x = z.2.1 (o + 6) x) := by
    intro d
    induction d with
    | zero =>
      intro i z1 hi hf hx
      refine u_X12_signsOf_1 ?_; unfold qm_X12_signsOf_1
      exact w_leT (a := 40) (by omega) (by omega) (w_some ⟨hf, fun x h9 => hx x (by omega)⟩)
    | succ d ih =>
      intro i z1 hi hf hx
      refine u_X12_signsOf_1 ?_; unfold qm_X12_signsOf_1
      refine w_leF (a := 40) (by omega) (by omega) (w_rdI (pl6 ho) rfl (by omega) rfl (w_wrI (pl6 hn) rfl (by omega) ?_))
      rw [nI_1]
      refine ih (i + 1) _ (by omega) (fr_I2 hf rfl) (fun x h9 => ?_)
      by_cases hxi : x = i
      · rw [hxi, po_usI_at, (hf _ hne).2.1]
      · rw [po_usI_ne hxi]
        exact hx x (by omega)
  exact key 40 0 z (by omega) fr_rf (fun x h9 => by omega)
theorem rn_at_idx {A1 A2 : rn_L} {B1 B2 : List (Nat × Nat)} {p : Nat × Nat} : ((A1 ++ (B1 ++ p :: B2) :: A2).flatten ++ [])[A1.flatten.length + B1.length]? = some p := by
  have e : (A1 ++ (B1 ++ p :: B2) :: A2).flatten ++ [] = (A1.flatten ++ B1) ++ (p :: (B2 ++ A2.flatten)) := by simp
  rw [e, ← List.length_append, List.getElem?_append_right (Nat.le_refl _), Nat.sub_self]
  rfl
theorem rn_take1 {A1 A2 : rn_L} {B : List (Nat × Nat)} : ((A1 ++ B :: A2).take (A1.length + 1)).flatten.length = A1.flatten.length + B.length := by
  rw [List.take_append, List.take_of_length_le (by omega)]
  have : A1.length + 1 - A1.length = 1 := by omega
  rw [this]
  simp
theorem rn_take0 {A1 A2 : rn_L} : ((A1 ++ A2).take A1.length).flatten.length = A1.flatten.length := by
  rw [List.take_append_of_le_length (Nat.le_refl _), List.take_length]
/-- what copy has done at its end -/
def rn_cpQ (n o : Nat) (A : rn_L) (z z1 : ow_MS) : Prop := rn_At z1 n A [] ∧ fr (fun g => n + 1 ≤ g ∧ g ≤ n + 6) z z1 ∧ ∀ x, x < 40 → z1.2.1 (n + 6) x = z.2.1 (o + 6) x
theorem u_X12_copy_1 {x2 : Int32} {x3 : Int32} {r0 : Nat} {r1 : Nat} {z : ow_MS} {Q : ow_MS → Prop} (H : Tt (fun K k => qm_X12_copy_1 K (q_X12_copy K k) x2 x3 r0 r1 z) Q) : Tt (fun K k => q_X12_copy K k 1 x2 x3 r0 r1 z) Q := w_un (fun _ _ => rfl) H
theorem u_X12_copy_2 {x2 : Int32} {x3 : Int32} {r0 : Nat} {r1 : Nat} {z : ow_MS} {Q : ow_MS → Prop} (H : Tt (fun K k => qm_X12_copy_2 K (q_X12_copy K k) x2 x3 r0 r1 z) Q) : Tt (fun K k => q_X12_copy K k 2 x2 x3 r0 r1 z) Q := w_un (fun _ _ => rfl) H
theorem e_X12_copy {r0 : Nat} {r1 : Nat} {z : ow_MS} {Q : ow_MS → Prop} (H : Tt (fun K k => q_X12_copy K k 0 0 0 r0 r1 z) Q) : Te (fun K => qe_X12_copy K r0 r1 z) Q := w_te H
theorem u_X12_copy_0 {x2 : Int32} {x3 : Int32} {r0 : Nat} {r1 : Nat} {z : ow_MS} {Q : ow_MS → Prop} (H : Tt (fun K k => qm_X12_copy_0 K (q_X12_copy K k) x2 x3 r0 r1 z) Q) : Tt (fun K k => q_X12_copy K k 0 x2 x3 r0 r1 z) Q := w_un (fun _ _ => rfl) H
theorem tn_copy {n o : Nat} {z : ow_MS} {A : rn_L} (hn : mw_net n) (ho : mw_net o) (hno : n ≠ o) (hlen : A.flatten.length ≤ 40) (hcn : A.length ≤ 39) (hzo : rn_At z o A []) : Te (fun K => qe_X12_copy K n o z) (rn_cpQ n o A z) := by
  have hm := net_mod hn
  have hm2 := net_mod ho
  have frO : ∀ {P : Nat → Prop} {y y1 : ow_MS}, fr P y y1 → (∀ g, P g → n + 1 ≤ g ∧ g ≤ n + 6) → rn_At y o A [] → rn_At y1 o A [] := fun hf hP h => fr_At hf (fun g hg => by have := hP g hg; omega) h
  have frM : ∀ {P : Nat → Prop} {y y1 : ow_MS}, (∀ g, P g → n + 1 ≤ g ∧ g ≤ n + 6) → fr P y y1 → fr (fun g => n + 1 ≤ g ∧ g ≤ n + 6) y y1 := fun hP hf => fr_mono hP hf
  have out : ∀ (A2 A1 : rn_L) (z1 : ow_MS), A1 ++ A2 = A → fr (fun g => n + 1 ≤ g ∧ g ≤ n + 6) z z1 → rn_At z1 o A [] → rn_At z1 n A1 [] → Tt (fun K k => q_X12_copy K k 1 (nI A1.length) 0 n o z1) (rn_cpQ n o A z) := by
    intro A2
    induction A2 with
    | nil =>
      intro A1 z1 hA hf hzo hzn
      rw [List.append_nil] at hA
      subst hA
      refine u_X12_copy_1 ?_; unfold qm_X12_copy_1
      refine w_rdF hzo.2.1 (w_leT (by omega) (Nat.le_refl _) (w_cs0 (tn_signs hn ho hno) (fun z2 ⟨e1, e2⟩ => w_some ⟨fr_At e1 (fun g hg => by omega) hzn, fr_tr hf (frM (fun g hg => by omega) e1), fun x hx => ?_⟩)))
      rw [e2 x hx, (hf (o + 6) (by omega)).2.1]
    | cons B A2 ih =>
      intro A1 z1 hA hf hzo hzn
      have hC : A1.length + 1 ≤ A.length := by
        rw [← hA, List.length_append, List.length_cons]
        omega
      have hL : A1.flatten.length + B.length ≤ A.flatten.length := by
        have : (A1 ++ B :: A2).flatten.length = A1.flatten.length + (B.length + A2.flatten.length) := by simp
        rw [← hA]
        omega
      have b0 : ∀ y, rn_At y o A [] → y.2.1 (o + 3) A1.length = nI A1.flatten.length := fun y hy => by
        rw [hy.2.2.1 _ (by omega), ← hA, rn_take0]
      have b1 : ∀ y, rn_At y o A [] → y.2.1 (o + 3) (A1.length + 1) = nI (A1.flatten.length + B.length) := fun y hy => by
        rw [hy.2.2.1 _ (by omega), ← hA, rn_take1]
      have inn : ∀ (B2 B1 : List (Nat × Nat)) (z1 : ow_MS), B1 ++ B2 = B → fr (fun g => n + 1 ≤ g ∧ g ≤ n + 6) z z1 → rn_At z1 o A [] → rn_At z1 n A1 B1 → Tt (fun K k => q_X12_copy K k 2 (nI A1.length) (nI (A1.flatten.length + B1.length)) n o z1) (rn_cpQ n o A z) := by
        intro B2
        induction B2 with
        | nil =>
          intro B1 z1 hB hf hzo hzn
          rw [List.append_nil] at hB
          subst hB
          refine u_X12_copy_2 ?_; unfold qm_X12_copy_2
          refine w_rdI (pl3 ho) (nI_1 _) (by omega) (b1 _ hzo) (w_leT (by omega) (Nat.le_refl _) (w_cs0 (tn_end hn hzn (by omega)) (fun z2 ⟨e1, e2⟩ => ?_)))
          have := ih (A1 ++ [B1]) z2 (by rw [← hA]; simp) (fr_tr hf (frM (fun g hg => by omega) e2)) (frO e2 (fun g hg => by omega) hzo) e1
          rw [List.length_append] at this
          rw [nI_1]
          exact this
        | cons p B2 ihB =>
          intro B1 z1 hB hf hzo hzn
          have hBl : B1.length + (B2.length + 1) = B.length := by
            rw [← hB, List.length_append]
            rfl
          have hx := hzo.2.2.2 (A1.flatten.length + B1.length) p (by rw [← hA, ← hB]; exact rn_at_idx)
          refine u_X12_copy_2 ?_; unfold qm_X12_copy_2
          refine w_rdI (pl3 ho) (nI_1 _) (by omega) (b1 _ hzo) (w_leF (by omega) (by omega) (w_rdI (pl4 ho) rfl (by omega) hx.1 (w_rdI (pl5 ho) rfl (by omega) hx.2 (w_cs0 (tn_add hn hzn (by rw [List.length_append]; omega)) (fun z2 ⟨e1, e2⟩ => ?_)))))
          have := ihB (B1 ++ [p]) z2 (by rw [← hB]; simp) (fr_tr hf (frM (fun g hg => by omega) e2)) (frO e2 (fun g hg => by omega) hzo) e1
          rw [List.length_append] at this
          rw [nI_1]
          exact this
      refine u_X12_copy_1 ?_; unfold qm_X12_copy_1
      have hlA : A.length ≤ 39 := hcn
      exact w_rdF hzo.2.1 (w_leF (by omega) (by omega) (w_rdI (pl3 ho) rfl (by omega) (b0 _ hzo) (inn B [] z1 (List.nil_append _) hf hzo hzn)))
  refine e_X12_copy ?_
  refine u_X12_copy_0 ?_; unfold qm_X12_copy_0
  refine w_cs0 (tn_clear hn) (fun z1 ⟨e1, e2⟩ => ?_)
  exact out A [] z1 (List.nil_append _) (frM (fun g hg => by omega) e2) (frO e2 (fun g hg => by omega) hzo) e1
