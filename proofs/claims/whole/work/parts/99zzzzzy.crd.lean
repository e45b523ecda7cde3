/-! the class: Reader, a diagram read -/
/-- links of closed components and of an open one -/
def lkS (S : ow_NP) (A : rn_L) (L : List (Nat × Nat)) : Prop := (∀ v, v < A.flatten.length → S.1 (lb (vAt A v)) = lb (vAt A (rn_nx A v)) ∧ S.2 (lb (vAt A (rn_nx A v))) = lb (vAt A v)) ∧ ∀ i p q, L[i]? = some p → L[i + 1]? = some q → S.1 (lb p) = lb q ∧ S.2 (lb q) = lb p
section CR9
variable {S : ow_NP} {A : rn_L} {L : List (Nat × Nat)} {p q : Nat × Nat}
theorem lk_nil (h : lkS S A []) : lkS S (A ++ [[]]) [] := by
  refine ⟨fun v hv => ?_, fun i p q e => by rw [List.getElem?_nil] at e; cases e⟩
  rw [fl_app, List.append_nil] at hv
  rw [vAt_ap hv, rnx_app hv, vAt_ap (rnx_lt hv)]
  exact h.1 v hv
theorem lk_one (h : lkS S A []) : lkS S A [p] := by
  refine ⟨h.1, fun i a b _ e => ?_⟩
  rw [List.getElem?_cons_succ, List.getElem?_nil] at e
  cases e
theorem lk_close (hv : vOK (A.flatten ++ p :: L)) (hq : (p :: L)[L.length]? = some q) (h : lkS S A (p :: L)) : lkS (nl S (lb q) (lb p)) (A ++ [p :: L]) [] := by
  obtain ⟨h4, h5⟩ := h
  refine ⟨fun v hv1 => ?_, fun i a b e => by rw [List.getElem?_nil] at e; cases e⟩
  rw [fl_app, List.length_append] at hv1
  have hlen : (p :: L).length = L.length + 1 := rfl
  have n1 : ∀ k, k ≠ lb q → (nl S (lb q) (lb p)).1 k = S.1 k := fun k hk => if_neg hk
  have n2 : ∀ k, k ≠ lb p → (nl S (lb q) (lb p)).2 k = S.2 k := fun k hk => if_neg hk
  have n3 : (nl S (lb q) (lb p)).1 (lb q) = lb p := if_pos rfl
  have n4 : (nl S (lb q) (lb p)).2 (lb p) = lb q := if_pos rfl
  have hqF : (A.flatten ++ p :: L)[A.flatten.length + L.length]? = some q := by
    rw [List.getElem?_append_right (by omega), show A.flatten.length + L.length - A.flatten.length = L.length by omega]
    exact hq
  have hpF : (A.flatten ++ p :: L)[A.flatten.length]? = some p := by
    rw [List.getElem?_append_right (Nat.le_refl _), Nat.sub_self]
    rfl
  by_cases e : v < A.flatten.length
  · have hx := rnx_lt e
    rw [vAt_ap e, rnx_app e, vAt_ap hx]
    have g1 : (A.flatten ++ p :: L)[v]? = some (vAt A v) := by
      rw [List.getElem?_append_left e]
      exact vAt_of e
    have g2 : (A.flatten ++ p :: L)[rn_nx A v]? = some (vAt A (rn_nx A v)) := by
      rw [List.getElem?_append_left hx]
      exact vAt_of hx
    rw [n1 _ (vOK_ne hv g1 hqF (by omega)), n2 _ (vOK_ne hv g2 hpF (by omega))]
    exact h4 v e
  · obtain ⟨i, rfl⟩ : ∃ i, v = A.flatten.length + i := ⟨v - A.flatten.length, by omega⟩
    have hi : i < (p :: L).length := by omega
    rw [rnx_new hi]
    by_cases hi2 : i + 1 < (p :: L).length
    · rw [if_pos hi2, vAt_nw (List.getElem?_eq_getElem hi), vAt_nw (List.getElem?_eq_getElem hi2)]
      have g1 : (A.flatten ++ p :: L)[A.flatten.length + i]? = some (p :: L)[i] := by
        rw [List.getElem?_append_right (by omega), show A.flatten.length + i - A.flatten.length = i by omega]
        exact List.getElem?_eq_getElem hi
      have g2 : (A.flatten ++ p :: L)[A.flatten.length + (i + 1)]? = some (p :: L)[i + 1] := by
        rw [List.getElem?_append_right (by omega), show A.flatten.length + (i + 1) - A.flatten.length = i + 1 by omega]
        exact List.getElem?_eq_getElem hi2
      rw [n1 _ (vOK_ne hv g1 hqF (by omega)), n2 _ (vOK_ne hv g2 hpF (by omega))]
      exact h5 i _ _ (List.getElem?_eq_getElem hi) (List.getElem?_eq_getElem hi2)
    · have ei : i = L.length := by omega
      rw [if_neg hi2, ei, vAt_nw hq, show A.flatten.length = A.flatten.length + 0 from rfl, vAt_nw (A := A) (L := p :: L) (i := 0) (p := p) rfl]
      exact ⟨n3, n4⟩
theorem lk_more {r : Nat × Nat} (hv : vOK (A.flatten ++ p :: L ++ [r])) (hq : (p :: L)[L.length]? = some q) (h : lkS S A (p :: L)) : lkS (nl S (lb q) (lb r)) A (p :: L ++ [r]) := by
  obtain ⟨h4, h5⟩ := h
  have hloc : ∀ a, a ∈ A.flatten ++ p :: L → lb a ≠ lb r := fun a ha => vOK_new hv ha
  have hqF : (A.flatten ++ p :: L)[A.flatten.length + L.length]? = some q := by
    rw [List.getElem?_append_right (by omega), show A.flatten.length + L.length - A.flatten.length = L.length by omega]
    exact hq
  refine ⟨fun v hv1 => ?_, fun i a b ea eb => ?_⟩
  · have hx := rnx_lt hv1
    have g1 : (A.flatten ++ p :: L)[v]? = some (vAt A v) := by
      rw [List.getElem?_append_left hv1]
      exact vAt_of hv1
    have m1 : lb (vAt A v) ≠ lb q := vOK_ne (vOK_pre hv) g1 hqF (by omega)
    have m2 : lb (vAt A (rn_nx A v)) ≠ lb r := hloc _ (List.mem_append_left _ (vAt_mem hx))
    show (if lb (vAt A v) = lb q then lb r else S.1 (lb (vAt A v))) = _ ∧ (if lb (vAt A (rn_nx A v)) = lb r then lb q else S.2 (lb (vAt A (rn_nx A v)))) = _
    rw [if_neg m1, if_neg m2]
    exact h4 v hv1
  · show (if lb a = lb q then lb r else S.1 (lb a)) = lb b ∧ (if lb b = lb r then lb q else S.2 (lb b)) = lb a
    have hi := (List.getElem?_eq_some_iff.mp eb).1
    rw [List.length_append] at hi
    have hi' : i + 1 < L.length + 1 + 1 := hi
    by_cases ei : i = L.length
    · have eb' : b = r := by
        rw [ei, List.getElem?_append_right (show (p :: L).length ≤ L.length + 1 from Nat.le_refl _)] at eb
        rw [show L.length + 1 - (p :: L).length = 0 from Nat.sub_self _] at eb
        cases eb
        rfl
      have ea' : a = q := by
        rw [ei, List.getElem?_append_left (Nat.lt_succ_self _)] at ea
        rw [hq] at ea
        cases ea
        rfl
      rw [eb', ea', if_pos rfl, if_pos rfl]
      exact ⟨rfl, rfl⟩
    · rw [List.getElem?_append_left (show i < L.length + 1 by omega)] at ea
      rw [List.getElem?_append_left (show i + 1 < L.length + 1 by omega)] at eb
      have g1 : (A.flatten ++ p :: L)[A.flatten.length + i]? = some a := by
        rw [List.getElem?_append_right (by omega), show A.flatten.length + i - A.flatten.length = i by omega]
        exact ea
      rw [if_neg (vOK_ne (vOK_pre hv) g1 hqF (by omega)), if_neg (hloc b (List.mem_append_right _ (List.mem_of_getElem? eb)))]
      exact h5 i a b ea eb
end CR9
/-- a net whose links go round its components, each visit there once, is valid -/
theorem lk_net {A : rn_L} {T : ow_NT} (hok : okF A.flatten T.1) (hc : T.1 ≤ 12) (h6 : A.length ≤ 6) (hb : ow_b24 T.2.2.1) (hci : T.2.1 = cirs A) (h : lkS T.2.2.1 A []) : nv T ∧ isoN A (fun x => decide (T.2.2.2 x < 0)) (fun x => x) T := by
  have hw : wkF A.flatten := okF_wk (by omega) hok
  have hlen : A.flatten.length = 2 * T.1 := okF_len hok
  have hin : ∀ v, v < A.flatten.length → crs A v < T.1 ∧ uns A v < 2 := fun v hv => (hok.2 _).mp (vAt_mem hv)
  have hiso : isoN A (fun x => decide (T.2.2.2 x < 0)) (fun x => x) T := ⟨hw, hlen, hc, fun v hv => (hin v hv).1, fun v w _ _ e => e, fun v hv => (h.1 v hv).1, fun v hv => by rw [decide_eq_true_iff], hci.symm⟩
  have hr := iso_rg hiso
  refine ⟨⟨fun k hk => ?_, hc, hb, by omega⟩, hiso⟩
  obtain ⟨v, hv, e⟩ := lbv_sur hiso hk
  have hx := rnx_lt hv
  have hlx : lb (vAt A (rn_nx A v)) < 2 * T.1 := lbv_lt hiso hx
  have e' : lb (vAt A v) = k := e
  have hw1 := rn_pv_lt hv
  have hw2 := nx_pv hv
  have hlw : lb (vAt A (rn_pv A v)) < 2 * T.1 := lbv_lt hiso hw1
  have q1 := h.1 v hv
  have q2 := h.1 _ hw1
  rw [hw2] at q2
  rw [← e']
  refine ⟨?_, ?_, ?_, ?_⟩
  · rw [q1.1]
    exact hlx
  · rw [q2.2]
    exact hlw
  · rw [q1.1]
    exact q1.2
  · rw [q2.2]
    exact q2.1
section CRV
variable {vl : Nat → Nat} {y : ow_MS}
theorem ch_11003 : ((cX vl).2 11003).2.1 = 100 := rfl
theorem ch_11004 : ((cX vl).2 11004).2.1 = 24 := rfl
def rvP (g : Nat) : Prop := g = 11005 ∨ g = 11006
theorem u_X9_readVisit_5 {vl : Nat → Nat} {r0 : Nat} {z : ow_MS} {Q : (Int32 × ow_MS) → Prop} (H : Tt (fun K k => cm_X9_readVisit_5 vl K (c_X9_readVisit vl K k) r0 z) Q) : Tt (fun K k => c_X9_readVisit vl K k 5 r0 z) Q := w_un (fun _ _ => rfl) H
theorem u_X9_readVisit_4 {vl : Nat → Nat} {r0 : Nat} {z : ow_MS} {Q : (Int32 × ow_MS) → Prop} (H : Tt (fun K k => cm_X9_readVisit_4 vl K (c_X9_readVisit vl K k) r0 z) Q) : Tt (fun K k => c_X9_readVisit vl K k 4 r0 z) Q := w_un (fun _ _ => rfl) H
theorem u_X9_readVisit_2 {vl : Nat → Nat} {r0 : Nat} {z : ow_MS} {Q : (Int32 × ow_MS) → Prop} (H : Tt (fun K k => cm_X9_readVisit_2 vl K (c_X9_readVisit vl K k) r0 z) Q) : Tt (fun K k => c_X9_readVisit vl K k 2 r0 z) Q := w_un (fun _ _ => rfl) H
theorem u_X9_readVisit_3 {vl : Nat → Nat} {r0 : Nat} {z : ow_MS} {Q : (Int32 × ow_MS) → Prop} (H : Tt (fun K k => cm_X9_readVisit_3 vl K (c_X9_readVisit vl K k) r0 z) Q) : Tt (fun K k => c_X9_readVisit vl K k 3 r0 z) Q := w_un (fun _ _ => rfl) H
theorem u_X9_readVisit_1 {vl : Nat → Nat} {r0 : Nat} {z : ow_MS} {Q : (Int32 × ow_MS) → Prop} (H : Tt (fun K k => cm_X9_readVisit_1 vl K (c_X9_readVisit vl K k) r0 z) Q) : Tt (fun K k => c_X9_readVisit vl K k 1 r0 z) Q := w_un (fun _ _ => rfl) H
theorem e_X9_readVisit {vl : Nat → Nat} {r0 : Nat} {z : ow_MS} {Q : (Int32 × ow_MS) → Prop} (H : Tt (fun K k => c_X9_readVisit vl K k 0 r0 z) Q) : Te (fun K => ce_X9_readVisit vl K r0 z) Q := w_te H
theorem u_X9_readVisit_0 {vl : Nat → Nat} {r0 : Nat} {z : ow_MS} {Q : (Int32 × ow_MS) → Prop} (H : Tt (fun K k => cm_X9_readVisit_0 vl K (c_X9_readVisit vl K k) r0 z) Q) : Tt (fun K k => c_X9_readVisit vl K k 0 r0 z) Q := w_un (fun _ _ => rfl) H
theorem tc_readVisit {a n : Nat} (ha : y.1 11005 = nI a) (hn : y.1 11001 = nI n) (han : a < n) (h400 : n ≤ 400) : Te (fun K => ce_X9_readVisit vl K 11000 y) (fun r => fr rvP y r.2 ∧ ((∃ b, b ≤ n ∧ r.1 = nI b) ∨ r.1 = -1 ∧ ∃ a' k, a < a' ∧ a' ≤ n ∧ 1 ≤ k ∧ k < 100 ∧ r.2.1 11005 = nI a' ∧ r.2.1 11006 = nI k)) := by
  let Q : Int32 × ow_MS → Prop := fun r => fr rvP y r.2 ∧ ((∃ b, b ≤ n ∧ r.1 = nI b) ∨ r.1 = -1 ∧ ∃ a' k, a < a' ∧ a' ≤ n ∧ 1 ≤ k ∧ k < 100 ∧ r.2.1 11005 = nI a' ∧ r.2.1 11006 = nI k)
  have nf : ∀ {z : ow_MS}, fr rvP y z → z.1 11001 = nI n := fun hf => (hf 11001 (by unfold rvP; omega)).1.trans hn
  have c5 : ∀ (z : ow_MS) (b k : Nat), fr rvP y z → a < b → b < n → 1 ≤ k → k < 100 → z.1 11005 = nI b → z.1 11006 = nI k → Tt (fun K t => c_X9_readVisit vl K t 5 11000 z) Q := by
    intro z b k hf h1 h2 h3 h4 h5 h6
    refine u_X9_readVisit_5 ?_; unfold cm_X9_readVisit_5
    refine w_rdF h5 (w_wrF ?_)
    rw [nI_1]
    exact w_some ⟨fr_F2 hf (Or.inl rfl), Or.inr ⟨rfl, b + 1, k, by omega, by omega, h3, h4, po_usF_at, rf_ot (by omega) h6⟩⟩
  have c4 : ∀ (z : ow_MS) (b : Nat), fr rvP y z → b ≤ n → z.1 11005 = nI b → Tt (fun K t => c_X9_readVisit vl K t 4 11000 z) Q := by
    intro z b hf h1 h2
    refine u_X9_readVisit_4 ?_; unfold cm_X9_readVisit_4
    exact w_rdF h2 (w_some ⟨hf, Or.inl ⟨b, h1, rfl⟩⟩)
  have c2 : ∀ (z : ow_MS) (b : Nat), fr rvP y z → b ≤ n → z.1 11005 = nI b → Tt (fun K t => c_X9_readVisit vl K t 2 11000 z) Q := by
    intro z b hf h1 h2
    refine u_X9_readVisit_2 ?_; unfold cm_X9_readVisit_2
    exact w_rdF h2 (w_some ⟨hf, Or.inl ⟨b, h1, rfl⟩⟩)
  have c3 : ∀ (z : ow_MS) (b k : Nat), fr rvP y z → a < b → b ≤ n → 1 ≤ k → k < 100 → z.1 11005 = nI b → z.1 11006 = nI k → Tt (fun K t => c_X9_readVisit vl K t 3 11000 z) Q := by
    intro z b k hf h1 h2 h3 h4 h5 h6
    refine u_X9_readVisit_3 ?_; unfold cm_X9_readVisit_3
    refine w_rdF h5 (w_rdF (nf hf) (w_le (by omega) (by omega) (fun _ => c4 z b hf h2 h5) (fun h7 => w_rdF h5 (w_crI ch_11002 rfl (by omega) rfl (w_if (fun _ => c5 z b k hf h1 h7 h3 h4 h5 h6) (fun _ => w_rdF h5 (w_crI ch_11002 rfl (by omega) rfl (w_if (fun _ => c5 z b k hf h1 h7 h3 h4 h5 h6) (fun _ => c4 z b hf h2 h5)))))))))
  have c1 : Tt (fun K t => c_X9_readVisit vl K t 1 11000 y) Q := by
    refine u_X9_readVisit_1 ?_; unfold cm_X9_readVisit_1
    refine w_rdF ha (w_wrF ?_)
    rw [nI_1]
    have f1 : fr rvP y (usF y 11005 (nI (a + 1))) := fr_F (Or.inl rfl)
    have e1 : (usF y 11005 (nI (a + 1))).1 11005 = nI (a + 1) := po_usF_at
    refine w_rdF e1 (w_rdF (nf f1) (w_le (by omega) (by omega) (fun _ => c2 _ (a + 1) f1 (by omega) e1) (fun h1 => w_rdF e1 (w_crI ch_11002 rfl (by omega) rfl (w_if (fun _ => c2 _ (a + 1) f1 (by omega) e1) (fun h49 => w_rdF e1 (w_crI ch_11002 rfl (by omega) rfl (w_if (fun h57 => ?_) (fun _ => c2 _ (a + 1) f1 (by omega) e1)))))))))
    have hch : ∃ k, 1 ≤ k ∧ k ≤ 9 ∧ (usF y 11005 (nI (a + 1))).2.1 11002 (a + 1) - 48 = nI k := by
      generalize (usF y 11005 (nI (a + 1))).2.1 11002 (a + 1) = x at h49 h57
      have h0 : ¬ x < 0 := fun h9 => h49 (Int32.lt_trans h9 (by decide))
      obtain ⟨k, k31, rfl⟩ := nI_of h0
      have q1 : 49 ≤ k := by
        apply Nat.le_of_not_lt
        exact fun h9 => h49 (nI_lt (b := 49) h9 (by omega))
      have q2 : k ≤ 57 := (nI_leI k31 (by omega : 57 < 2 ^ 31)).mp h57
      exact ⟨k - 48, by omega, by omega, pk_sub (b := 48) (by omega)⟩
    obtain ⟨k, k1, k2, k3⟩ := hch
    refine w_rdF e1 (w_crI ch_11002 rfl (show a + 1 < 400 by omega) rfl (w_wrF ?_))
    rw [k3]
    have e2 : (usF (usF y 11005 (nI (a + 1))) 11006 (nI k)).1 11005 = nI (a + 1) := rf_ot (by omega) e1
    refine w_rdF e2 (w_wrF ?_)
    rw [nI_1]
    have f3 : fr rvP y (usF (usF (usF y 11005 (nI (a + 1))) 11006 (nI k)) 11005 (nI (a + 1 + 1))) := fr_F2 (fr_F2 f1 (Or.inr rfl)) (Or.inl rfl)
    have e3 : (usF (usF (usF y 11005 (nI (a + 1))) 11006 (nI k)) 11005 (nI (a + 1 + 1))).1 11005 = nI (a + 1 + 1) := po_usF_at
    have e4 : (usF (usF (usF y 11005 (nI (a + 1))) 11006 (nI k)) 11005 (nI (a + 1 + 1))).1 11006 = nI k := rf_ot (by omega) po_usF_at
    generalize usF (usF (usF y 11005 (nI (a + 1))) 11006 (nI k)) 11005 (nI (a + 1 + 1)) = z at f3 e3 e4
    have t3 := c3 z (a + 1 + 1) k f3 (by omega) (by omega) k1 (by omega) e3 e4
    refine w_rdF e3 (w_rdF (nf f3) (w_le (by omega) (by omega) (fun _ => t3) (fun h2 => w_rdF e3 (w_crI ch_11002 rfl (by omega) rfl (w_if (fun _ => t3) (fun h48 => w_rdF e3 (w_crI ch_11002 rfl (by omega) rfl (w_if (fun _ => t3) (fun h57' => w_rdF e4 (w_rdF e3 (w_crI ch_11002 rfl (show a + 1 + 1 < 400 by omega) rfl (w_wrF ?_))))))))))))
    have hch : ∃ m, 10 ≤ m ∧ m < 100 ∧ (10 * nI k + z.2.1 11002 (a + 1 + 1)) - 48 = nI m := by
      generalize z.2.1 11002 (a + 1 + 1) = x at h48 h57'
      have h0 : ¬ x < 0 := fun h9 => h48 (Int32.lt_trans h9 (by decide))
      obtain ⟨j, j31, rfl⟩ := nI_of h0
      have q1 : 48 ≤ j := by
        apply Nat.le_of_not_lt
        exact fun h9 => h48 (nI_lt (b := 48) h9 (by omega))
      have q2 : j ≤ 57 := by
        apply Nat.le_of_not_lt
        exact fun h9 => h57' (nI_lt (a := 57) h9 j31)
      refine ⟨10 * k + j - 48, by omega, by omega, ?_⟩
      rw [show (10 : Int32) * nI k = nI (10 * k) from pk_mul 10 _, nI_add]
      exact pk_sub (b := 48) (by omega)
    obtain ⟨m, m1, m2, m3⟩ := hch
    rw [m3]
    have e5 : (usF z 11006 (nI m)).1 11005 = nI (a + 1 + 1) := rf_ot (by omega) e3
    refine w_rdF e5 (w_wrF ?_)
    rw [nI_1]
    exact c3 _ (a + 1 + 1 + 1) m (fr_F2 (fr_F2 f3 (Or.inr rfl)) (Or.inl rfl)) (by omega) (by omega) (by omega) m2 po_usF_at (rf_ot (by omega) po_usF_at)
  refine e_X9_readVisit ?_
  refine u_X9_readVisit_0 ?_; unfold cm_X9_readVisit_0
  exact w_rdF ha (w_crI ch_11002 rfl (by omega) rfl (w_if (fun _ => c1) (fun _ => w_rdF ha (w_crI ch_11002 rfl (by omega) rfl (w_if (fun _ => c1) (fun _ => w_rdF ha (w_some ⟨fr_rf, Or.inl ⟨a, by omega, rfl⟩⟩)))))))
end CRV
