/-! the class reads so -/
def rvR (bt : Nat → Int32) (n a : Nat) (R : Nat ⊕ (Nat × Int32 × Int32 × Nat)) (r : Int32 × ow_MS) : Prop := match R with
  | .inl j => r.1 = nI j ∧ j ≤ n
  | .inr (u, x, s, j) => r.1 = -1 ∧ r.2.1 11005 = nI j ∧ a < j ∧ j ≤ n ∧ u = (if bt a = 117 then 1 else 0) ∧ s = (if bt (j - 1) = 43 then 1 else -1) ∧ ∃ k, k < 100 ∧ x = nI k ∧ r.2.1 11006 = nI k
def atN (nm : rtN) (k : Nat) : Nat := (nm.getD k (0, 0, 0)).2.2
def sgV (nm : rtN) (k : Nat) : Int32 := (nm.getD k (0, 0, 0)).2.1
def oxI : Option Nat → Int32
  | none => -1
  | some x => nI x
/-- what has been read: names nm, visits F -/
def rcT (t : Nat) (z : ow_MS) (nm : rtN) (F : List vT) (T : ow_NT) : Prop := cAt z 4000 T ∧ ow_b24 T.2.2.1 ∧ T.1 = nm.length ∧ rtP t nm F ∧ (∀ x, x < T.1 → ∃ u, (x, u) ∈ F) ∧ (∀ v, v < 24 → (z.2.1 11004 v = -1 ∧ kp v ∉ F) ∨ ∃ b, b < 400 ∧ z.2.1 11004 v = nI b ∧ kp v ∈ F ∧ (kp (mt v) ∉ F → b = atN nm (v / 2))) ∧ (∀ k, k < 100 → z.2.1 11003 k = oxI (nix nm (nI k))) ∧ ∀ x, x < T.1 → T.2.2.2 x = sgV nm x
theorem nix_app {nm : rtN} {x y : Int32} {e : Int32 × Nat} (hx : nix nm x = none) : nix (nm ++ [(x, e)]) y = if y = x then some nm.length else nix nm y := by
  have g0 : ∀ j, j < nm.length → (nm ++ [(x, e)]).getD j (0, 0, 0) = nm.getD j (0, 0, 0) := fun j hj => by
    rw [List.getD_eq_getElem?_getD, List.getD_eq_getElem?_getD, List.getElem?_append_left hj]
  have g1 : (nm ++ [(x, e)]).getD nm.length (0, 0, 0) = (x, e) := getD_of (by rw [List.getElem?_append_right (Nat.le_refl _), Nat.sub_self]; rfl)
  by_cases h : y = x
  · rw [if_pos h, h]
    refine nix_some.mpr ⟨by rw [List.length_append]; exact Nat.lt_succ_self _, by rw [g1], fun j hj => ?_⟩
    rw [g0 j hj]
    exact nix_none.mp hx j hj
  · rw [if_neg h]
    cases e9 : nix nm y with
    | none =>
      refine nix_none.mpr (fun j hj => ?_)
      rw [List.length_append] at hj
      have hj : j < nm.length + 1 := hj
      by_cases ej : j = nm.length
      · rw [ej, g1]
        exact fun e8 => h e8.symm
      · rw [g0 j (by omega)]
        exact nix_none.mp e9 j (by omega)
    | some k =>
      obtain ⟨k1, k2, k3⟩ := nix_some.mp e9
      refine nix_some.mpr ⟨by rw [List.length_append]; omega, by rw [g0 k k1]; exact k2, fun j hj => ?_⟩
      rw [g0 j (by omega)]
      exact k3 j hj
theorem at_app {nm : rtN} {e : Int32 × Int32 × Nat} {k : Nat} (h : k < nm.length) : atN (nm ++ [e]) k = atN nm k ∧ sgV (nm ++ [e]) k = sgV nm k := by
  unfold atN sgV
  rw [List.getD_eq_getElem?_getD, List.getD_eq_getElem?_getD, List.getElem?_append_left h]
  exact ⟨rfl, rfl⟩
theorem at_new {nm : rtN} {e : Int32 × Int32 × Nat} : (nm ++ [e]).getD nm.length (0, 0, 0) = e := getD_of (by rw [List.getElem?_append_right (Nat.le_refl _), Nat.sub_self]; rfl)
theorem rcT_fr {P : Nat → Prop} {t : Nat} {y y1 : ow_MS} {nm : rtN} {F : List vT} {T : ow_NT} (hf : fr P y y1) (hP : ∀ g, P g → ¬ cP 4000 g ∧ g ≠ 11003 ∧ g ≠ 11004) (h : rcT t y nm F T) : rcT t y1 nm F T := by
  obtain ⟨s1, s2, s3, s4, s5, s6, s7, s8⟩ := h
  refine ⟨cAt_fr hf (fun g hg h9 => (hP g h9).1 hg) s1, s2, s3, s4, s5, fun v hv => ?_, fun k hk => ?_, s8⟩
  · rw [(hf 11004 (fun h9 => (hP _ h9).2.2 rfl)).2.1]
    exact s6 v hv
  · rw [(hf 11003 (fun h9 => (hP _ h9).2.1 rfl)).2.1]
    exact s7 k hk
section XRC
variable {vl : Nat → Nat} {y : ow_MS} {bt : Nat → Int32} {t : Nat} {nm : rtN} {F : List vT} {T : ow_NT}
theorem xc_readVisit {a n : Nat} (ha : y.1 11005 = nI a) (hn : y.1 11001 = nI n) (han : a < n) (h400 : n ≤ 400) (hbt : ∀ k, k < n → y.2.1 11002 k = bt k) : Te (fun K => ce_X9_readVisit vl K 11000 y) (fun r => fr rvP y r.2 ∧ rvR bt n a (pV bt n a) r) := by
  obtain ⟨R, hR⟩ : ∃ R, pV bt n a = R := ⟨_, rfl⟩
  rw [hR]
  let Q : Int32 × ow_MS → Prop := fun r => fr rvP y r.2 ∧ rvR bt n a R r
  have nf : ∀ {z : ow_MS}, fr rvP y z → z.1 11001 = nI n := fun hf => (hf 11001 (by unfold rvP; omega)).1.trans hn
  have bf : ∀ {z : ow_MS}, fr rvP y z → ∀ k, k < n → z.2.1 11002 k = bt k := fun hf k hk => by
    rw [(hf 11002 (by unfold rvP; omega)).2.1]
    exact hbt k hk
  have c4 : ∀ (z : ow_MS) (b : Nat), fr rvP y z → b ≤ n → z.1 11005 = nI b → R = .inl b → Tt (fun K t => c_X9_readVisit vl K t 4 11000 z) Q := by
    intro z b hf h1 h2 h3
    refine u_X9_readVisit_4 ?_; unfold cm_X9_readVisit_4
    exact w_rdF h2 (w_some ⟨hf, by rw [h3]; exact ⟨rfl, h1⟩⟩)
  have c2 : ∀ (z : ow_MS) (b : Nat), fr rvP y z → b ≤ n → z.1 11005 = nI b → R = .inl b → Tt (fun K t => c_X9_readVisit vl K t 2 11000 z) Q := by
    intro z b hf h1 h2 h3
    refine u_X9_readVisit_2 ?_; unfold cm_X9_readVisit_2
    exact w_rdF h2 (w_some ⟨hf, by rw [h3]; exact ⟨rfl, h1⟩⟩)
  have c3 : ∀ (z : ow_MS) (b k : Nat), fr rvP y z → a < b → b ≤ n → k < 100 → z.1 11005 = nI b → z.1 11006 = nI k → pSg bt n a b (nI k) = R → Tt (fun K t => c_X9_readVisit vl K t 3 11000 z) Q := by
    intro z b k hf h1 h2 h4 h5 h6 hS
    have c5 : b < n → (bt b = 43 ∨ bt b = 45) → Tt (fun K t => c_X9_readVisit vl K t 5 11000 z) Q := by
      intro hbn hs
      unfold pSg at hS
      rw [if_neg (by omega), if_pos hs] at hS
      refine u_X9_readVisit_5 ?_; unfold cm_X9_readVisit_5
      refine w_rdF h5 (w_wrF ?_)
      rw [nI_1]
      refine w_some ⟨fr_F2 hf (Or.inl rfl), ?_⟩
      rw [← hS]
      exact ⟨rfl, po_usF_at, by omega, by omega, rfl, by rw [Nat.add_sub_cancel], k, h4, rfl, rf_ot (by omega) h6⟩
    refine u_X9_readVisit_3 ?_; unfold cm_X9_readVisit_3
    refine w_rdF h5 (w_rdF (nf hf) (w_le (by omega) (by omega) (fun h7 => c4 z b hf h2 h5 ?_) (fun h7 => w_rdF h5 (w_crI ch_11002 rfl (by omega) (bf hf b h7) (w_if (fun h8 => c5 h7 (Or.inl h8)) (fun h8 => w_rdF h5 (w_crI ch_11002 rfl (by omega) (bf hf b h7) (w_if (fun h9 => c5 h7 (Or.inr h9)) (fun h9 => c4 z b hf h2 h5 ?_)))))))))
    · unfold pSg at hS
      have hbn : b = n := by omega
      rw [if_pos hbn] at hS
      rw [← hS, hbn]
    · unfold pSg at hS
      rw [if_neg (by omega), if_neg (fun h6 => h6.elim h8 h9)] at hS
      exact hS.symm
  have c1 : (bt a = 111 ∨ bt a = 117) → Tt (fun K t => c_X9_readVisit vl K t 1 11000 y) Q := by
    intro hou
    unfold pV at hR
    rw [if_pos hou] at hR
    refine u_X9_readVisit_1 ?_; unfold cm_X9_readVisit_1
    refine w_rdF ha (w_wrF ?_)
    rw [nI_1]
    have f1 : fr rvP y (usF y 11005 (nI (a + 1))) := fr_F (Or.inl rfl)
    have e1 : (usF y 11005 (nI (a + 1))).1 11005 = nI (a + 1) := po_usF_at
    refine w_rdF e1 (w_rdF (nf f1) (w_le (by omega) (by omega) (fun h1 => c2 _ (a + 1) f1 (by omega) e1 ?_) (fun h1 => w_rdF e1 (w_crI ch_11002 rfl (by omega) (bf f1 (a + 1) h1) ?_))))
    · have han1 : a + 1 = n := by omega
      rw [if_pos han1] at hR
      rw [← hR, han1]
    rw [if_neg (by omega)] at hR
    refine w_if (fun h49 => c2 _ (a + 1) f1 (by omega) e1 (by rw [if_pos h49] at hR; exact hR.symm)) (fun h49 => w_rdF e1 (w_crI ch_11002 rfl (by omega) (bf f1 (a + 1) h1) (w_if (fun h57 => ?_) (fun h57 => c2 _ (a + 1) f1 (by omega) e1 (by rw [if_neg h49, if_neg h57] at hR; exact hR.symm)))))
    rw [if_neg h49, if_pos h57] at hR
    have hch : ∃ k, 1 ≤ k ∧ k ≤ 9 ∧ bt (a + 1) - 48 = nI k := by
      generalize bt (a + 1) = x at h49 h57
      have h0 : ¬ x < 0 := fun h9 => h49 (Int32.lt_trans h9 (by decide))
      obtain ⟨k, k31, rfl⟩ := nI_of h0
      have q1 : 49 ≤ k := by
        apply Nat.le_of_not_lt
        exact fun h9 => h49 (nI_lt (b := 49) h9 (by omega))
      have q2 : k ≤ 57 := (nI_leI k31 (by omega : 57 < 2 ^ 31)).mp h57
      exact ⟨k - 48, by omega, by omega, pk_sub (b := 48) (by omega)⟩
    obtain ⟨k, k1, k2, k3⟩ := hch
    rw [k3] at hR
    refine w_rdF e1 (w_crI ch_11002 rfl (show a + 1 < 400 by omega) (bf f1 (a + 1) h1) (w_wrF ?_))
    rw [k3]
    have e2 : (usF (usF y 11005 (nI (a + 1))) 11006 (nI k)).1 11005 = nI (a + 1) := rf_ot (by omega) e1
    refine w_rdF e2 (w_wrF ?_)
    rw [nI_1]
    have f3 : fr rvP y (usF (usF (usF y 11005 (nI (a + 1))) 11006 (nI k)) 11005 (nI (a + 1 + 1))) := fr_F2 (fr_F2 f1 (Or.inr rfl)) (Or.inl rfl)
    have e3 : (usF (usF (usF y 11005 (nI (a + 1))) 11006 (nI k)) 11005 (nI (a + 1 + 1))).1 11005 = nI (a + 1 + 1) := po_usF_at
    have e4 : (usF (usF (usF y 11005 (nI (a + 1))) 11006 (nI k)) 11005 (nI (a + 1 + 1))).1 11006 = nI k := rf_ot (by omega) po_usF_at
    generalize usF (usF (usF y 11005 (nI (a + 1))) 11006 (nI k)) 11005 (nI (a + 1 + 1)) = z at f3 e3 e4
    have t3 : ¬ (a + 2 < n ∧ ¬ bt (a + 2) < 48 ∧ ¬ 57 < bt (a + 2)) → Tt (fun K t => c_X9_readVisit vl K t 3 11000 z) Q := fun hno => by
      rw [if_neg hno] at hR
      exact c3 z (a + 1 + 1) k f3 (by omega) (by omega) (by omega) e3 e4 hR
    refine w_rdF e3 (w_rdF (nf f3) (w_le (by omega) (by omega) (fun h2 => t3 (fun h9 => by omega)) (fun h2 => w_rdF e3 (w_crI ch_11002 rfl (by omega) (bf f3 (a + 1 + 1) h2) (w_if (fun h48 => t3 (fun h9 => h9.2.1 h48)) (fun h48 => w_rdF e3 (w_crI ch_11002 rfl (by omega) (bf f3 (a + 1 + 1) h2) (w_if (fun h57' => t3 (fun h9 => h9.2.2 h57')) (fun h57' => w_rdF e4 (w_rdF e3 (w_crI ch_11002 rfl (show a + 1 + 1 < 400 by omega) (bf f3 (a + 1 + 1) h2) (w_wrF ?_))))))))))))
    rw [if_pos ⟨h2, h48, h57'⟩] at hR
    have hch : ∃ m, m < 100 ∧ (10 * nI k + bt (a + 1 + 1)) - 48 = nI m := by
      generalize bt (a + 1 + 1) = x at h48 h57'
      have h0 : ¬ x < 0 := fun h9 => h48 (Int32.lt_trans h9 (by decide))
      obtain ⟨j, j31, rfl⟩ := nI_of h0
      have q1 : 48 ≤ j := by
        apply Nat.le_of_not_lt
        exact fun h9 => h48 (nI_lt (b := 48) h9 (by omega))
      have q2 : j ≤ 57 := by
        apply Nat.le_of_not_lt
        exact fun h9 => h57' (nI_lt (a := 57) h9 j31)
      refine ⟨10 * k + j - 48, by omega, ?_⟩
      rw [show (10 : Int32) * nI k = nI (10 * k) from pk_mul 10 _, nI_add]
      exact pk_sub (b := 48) (by omega)
    obtain ⟨m, m2, m3⟩ := hch
    have hR : pSg bt n a (a + 1 + 1 + 1) (10 * nI k + bt (a + 1 + 1) - 48) = R := hR
    rw [m3] at hR ⊢
    have e5 : (usF z 11006 (nI m)).1 11005 = nI (a + 1 + 1) := rf_ot (by omega) e3
    refine w_rdF e5 (w_wrF ?_)
    rw [nI_1]
    exact c3 _ (a + 1 + 1 + 1) m (fr_F2 (fr_F2 f3 (Or.inr rfl)) (Or.inl rfl)) (by omega) (by omega) m2 po_usF_at (rf_ot (by omega) po_usF_at) hR
  refine e_X9_readVisit ?_
  refine u_X9_readVisit_0 ?_; unfold cm_X9_readVisit_0
  refine w_rdF ha (w_crI ch_11002 rfl (by omega) (hbt a han) (w_if (fun h1 => c1 (Or.inl h1)) (fun h1 => w_rdF ha (w_crI ch_11002 rfl (by omega) (hbt a han) (w_if (fun h2 => c1 (Or.inr h2)) (fun h2 => w_rdF ha (w_some ⟨fr_rf, ?_⟩)))))))
  unfold pV at hR
  rw [if_neg (fun h9 => h9.elim h1 h2)] at hR
  rw [← hR]
  exact ⟨rfl, by omega⟩
/-- a visit entered: its answer -/
def enQ (t : Nat) (y : ow_MS) (nm : rtN) (F : List vT) (T : ow_NT) (b u k : Nat) (s : Int32) (r : Int32 × ow_MS) : Prop := (r.1 = -1 ∧ (∃ T', cAt r.2 4000 T' ∧ ow_b24 T'.2.2.1) ∧ (nix nm (nI k) = none ∧ nm.length = 12 ∨ ∃ x, nix nm (nI k) = some x ∧ ((x, u) ∈ F ∨ sgV nm x ≠ s))) ∨ (∃ T', T'.2.1 = T.2.1 ∧ T'.2.2.1 = T.2.2.1 ∧ (nix nm (nI k) = none ∧ nm.length ≠ 12 ∧ r.1 = nI (lb (nm.length, u)) ∧ rcT t r.2 (nm ++ [(nI k, s, b)]) (F ++ [(nm.length, u)]) T' ∨ ∃ x, nix nm (nI k) = some x ∧ ¬ ((x, u) ∈ F ∨ sgV nm x ≠ s) ∧ r.1 = nI (lb (x, u)) ∧ rcT t r.2 nm (F ++ [(x, u)]) T'))
theorem xc_enter {a k b u n : Nat} {s : Int32} (hS : rcT t y nm F T) (ht : t ≤ 400) (ha : y.1 11005 = nI a) (ha1 : 1 ≤ a) (ha4 : a ≤ n) (hn : n ≤ 400) (hk : y.1 11006 = nI k) (hk1 : k < 100) (hb : b < t) (hbt : ∀ k, k < n → y.2.1 11002 k = bt k) (hbn : b < n) (hu : u = if bt b = 117 then 1 else 0) (hs : s = if bt (a - 1) = 43 then 1 else -1) : Te (fun K => ce_X9_enter vl K 11000 4000 (nI b) y) (fun r => fr enR y r.2 ∧ enQ t y nm F T b u k s r) := by
  let Q : Int32 × ow_MS → Prop := fun r => fr enR y r.2 ∧ enQ t y nm F T b u k s r
  obtain ⟨s1', s2, s3, s4, s5, s6, s7, s8⟩ := id hS
  have hN := s4.1
  have hu2 : u < 2 := by rw [hu]; split <;> omega
  have hss : s1 s := by
    rw [hs]
    split
    · exact Or.inl rfl
    · exact Or.inr rfl
  -- a visit at crossing x
  have c3 : ∀ (z : ow_MS) (nm2 : rtN) (T1 : ow_NT) (x : Nat), fr enR y z → cAt z 4000 T1 → T1.2.1 = T.2.1 → T1.2.2.1 = T.2.2.1 → T1.1 = nm2.length → x < nm2.length → rtP t nm2 F → (∀ x', x' < T1.1 → x' = x ∨ ∃ u, (x', u) ∈ F) → (∀ v, v < 24 → (z.2.1 11004 v = -1 ∧ kp v ∉ F) ∨ ∃ b, b < 400 ∧ z.2.1 11004 v = nI b ∧ kp v ∈ F ∧ (kp (mt v) ∉ F → b = atN nm2 (v / 2))) → (∀ k, k < 100 → z.2.1 11003 k = oxI (nix nm2 (nI k))) → (∀ x, x < T1.1 → T1.2.2.2 x = sgV nm2 x) → ((∀ u', (x, u') ∉ F) → atN nm2 x = b) → (((x, u) ∈ F ∨ sgV nm2 x ≠ s) → nix nm (nI k) = some x ∧ nm2 = nm) → (¬ ((x, u) ∈ F ∨ sgV nm2 x ≠ s) → ∀ r T', r.1 = nI (lb (x, u)) → T'.2.1 = T.2.1 → T'.2.2.1 = T.2.2.1 → rcT t r.2 nm2 (F ++ [(x, u)]) T' → enQ t y nm F T b u k s r) → Tt (fun K t => c_X9_enter vl K t 3 (nI b) s (nI x) 11000 4000 (nI u) (nI (2 * x)) z) Q := by
    intro z nm2 T1 x hf h1 h2 h3 h4 h5 h6 h8 h9 h10 h11 h12 h13 h14
    have hN2 := h6.1
    have hv24 : 2 * x + u < 24 := by omega
    have hb24 : ow_b24 T1.2.2.1 := by rw [h3]; exact s2
    have ekp : kp (2 * x + u) = (x, u) := kp_lb2 (p := (x, u)) hu2
    have bad : ((x, u) ∈ F ∨ sgV nm2 x ≠ s) → Q (-1, z) := fun h => by
      obtain ⟨q1, q2⟩ := h13 h
      refine ⟨hf, Or.inl ⟨rfl, ⟨T1, h1, hb24⟩, Or.inr ⟨x, q1, ?_⟩⟩⟩
      rw [← q2]
      exact h
    refine u_X9_enter_3 ?_; unfold cm_X9_enter_3
    rw [nI_add]
    rcases h9 (2 * x + u) hv24 with ⟨e1, e2⟩ | ⟨b', b1, e1, e2, -⟩
    · rw [ekp] at e2
      refine w_crI ch_11004 rfl hv24 e1 (w_ifT rfl (w_crI (nH_3 nH4) rfl (show x < 12 by omega) ((h1.2.2.2.2 x).trans (h11 x (by omega))) (w_if (fun hsg => w_ctI ch_11004 rfl hv24 (w_some ⟨fr_I2 hf (Or.inr (Or.inr (Or.inr rfl))), ?_⟩)) (fun hsg => w_some (bad (Or.inr hsg))))))
      refine h14 (fun h => h.elim e2 (fun h7 => h7 hsg)) _ T1 rfl h2 h3 ⟨cAt_fr (P := fun q => q = 11004) (fr_I rfl) (fun g hg h => by unfold cP at hg; omega) h1, hb24, h4, ⟨hN2, ?_, fun p hp => ?_, h6.2.2.2⟩, fun x' hx' => ?_, fun v hv => ?_, fun k9 hk9 => rd_ot (by omega) (h10 k9 hk9), h11⟩
      · rw [List.nodup_append]
        refine ⟨h6.2.1, List.nodup_cons.mpr ⟨fun h => (by cases h), List.nodup_nil⟩, fun p hp q hq e => ?_⟩
        rw [List.mem_singleton.mp hq] at e
        rw [e] at hp
        exact e2 hp
      · rcases List.mem_append.mp hp with h | h
        · exact h6.2.2.1 p h
        · rw [List.mem_singleton.mp h]
          exact ⟨h5, hu2⟩
      · rcases h8 x' hx' with h | ⟨u', h⟩
        · exact ⟨u, List.mem_append_right _ (by rw [h]; exact List.mem_singleton.mpr rfl)⟩
        · exact ⟨u', List.mem_append_left _ h⟩
      · by_cases ev : v = 2 * x + u
        · refine Or.inr ⟨b, by omega, by rw [ev]; exact po_usI_at, List.mem_append_right _ (by rw [ev, ekp]; exact List.mem_singleton.mpr rfl), fun hno => ?_⟩
          rw [show v / 2 = x by omega]
          refine (h12 (fun u' hu' => ?_)).symm
          -- the other visit is not there
          have h2u : u' < 2 := (h6.2.2.1 _ hu').2
          by_cases eu : u' = u
          · rw [eu] at hu'
            exact e2 hu'
          · refine hno (List.mem_append_left _ ?_)
            have : kp (mt v) = (x, u') := by
              unfold kp mt
              rw [ev]
              by_cases eo : (2 * x + u) % 2 = 0
              · rw [if_pos eo]
                exact Prod.ext (by show (2 * x + u + 1) / 2 = x; omega) (by show (2 * x + u + 1) % 2 = u'; omega)
              · rw [if_neg eo]
                exact Prod.ext (by show (2 * x + u - 1) / 2 = x; omega) (by show (2 * x + u - 1) % 2 = u'; omega)
            rw [this]
            exact hu'
        · rcases h9 v hv with ⟨q1, q2⟩ | ⟨b', q1, q2, q3, q4⟩
          · refine Or.inl ⟨rd_ne ev q1, fun hm => ?_⟩
            rcases List.mem_append.mp hm with h | h
            · exact q2 h
            · have h9 := List.mem_singleton.mp h
              have := congrArg lb h9
              rw [kp_lb] at this
              exact ev this
          · exact Or.inr ⟨b', q1, rd_ne ev q2, List.mem_append_left _ q3, fun hno => q4 (fun h => hno (List.mem_append_left _ h))⟩
    · rw [ekp] at e2
      exact w_crI ch_11004 rfl hv24 e1 (w_ifF (nI_nm1 (by omega)) (w_some (bad (Or.inl e2))))
  have c2 : ∀ (z : ow_MS) (x : Nat), fr enR y z → Tt (fun K t => c_X9_enter vl K t 3 (nI b) s (nI x) 11000 4000 (nI u) (nI (2 * x)) z) Q → Tt (fun K t => c_X9_enter vl K t 2 (nI b) s (nI x) 11000 4000 0 0 z) Q := by
    intro z x hf h3
    have eb : z.2.1 11002 b = bt b := by
      rw [(hf 11002 (by unfold enR; omega)).2.1]
      exact hbt b hbn
    refine u_X9_enter_2 ?_; unfold cm_X9_enter_2
    rw [show (2 : Int32) * nI x = nI (2 * x) from pk_mul 2 _]
    refine w_crI ch_11002 rfl (by omega) eb (w_if (fun h7 => ?_) (fun h7 => ?_))
    · rw [if_pos h7] at hu
      rw [hu] at h3
      exact h3
    · rw [if_neg h7] at hu
      rw [hu] at h3
      exact h3
  have c1 : Tt (fun K t => c_X9_enter vl K t 1 (nI b) 0 0 11000 4000 s 0 y) Q := by
    refine u_X9_enter_1 ?_; unfold cm_X9_enter_1
    have e3 := s7 k hk1
    cases hx : nix nm (nI k) with
    | none =>
      rw [hx] at e3
      have e3 : y.2.1 11003 k = -1 := e3
      refine w_rdF hk (w_crI ch_11003 rfl hk1 e3 (w_ifT rfl (w_rdF s1'.1 (w_lt (b := 12) (by omega) (by omega) (fun h12 => w_rdF s1'.1 (w_rdF s1'.1 (w_wrF ?_))) (fun h12 => w_some ⟨fr_rf, Or.inl ⟨rfl, ⟨T, s1', s2⟩, Or.inl ⟨hx, by omega⟩⟩⟩)))))
      rw [nI_1]
      have hk2 : (usF y 4008 (nI (T.1 + 1))).1 11006 = nI k := rf_ot (by omega) hk
      refine w_rdF hk2 (w_ctI ch_11003 rfl hk1 (w_ctI (nH_3 nH4) rfl h12 ?_))
      have hf : fr enR y (usI (usI (usF y 4008 (nI (T.1 + 1))) 11003 k (nI T.1)) 4003 T.1 s) := fr_I2 (fr_I2 (fr_F (Or.inl rfl)) (Or.inr (Or.inr (Or.inl rfl)))) (Or.inr (Or.inl rfl))
      have hcA : cAt (usI (usI (usF y 4008 (nI (T.1 + 1))) 11003 k (nI T.1)) 4003 T.1 s) 4000 (T.1 + 1, T.2.1, T.2.2.1, su T.2.2.2 T.1 s) := ⟨show (usF y 4008 (nI (T.1 + 1))).1 4008 = _ from po_usF_at, show (usF y 4008 (nI (T.1 + 1))).1 4009 = nI T.2.1 from rf_ot (by omega) s1'.2.1, fun v => rd_ot (by omega) (rd_ot (by omega) (s1'.2.2.1 v)), fun v => rd_ot (by omega) (rd_ot (by omega) (s1'.2.2.2.1 v)), fun v => by
        show _ = su T.2.2.2 T.1 s v
        by_cases ev : v = T.1
        · rw [ev]
          exact po_usI_at.trans (if_pos rfl).symm
        · rw [show su T.2.2.2 T.1 s v = T.2.2.2 v from if_neg ev]
          exact rd_ne ev (rd_ot (by omega) (s1'.2.2.2.2 v))⟩
      have hno : ∀ u', (T.1, u') ∉ F := fun u' h9 => by
        have := (s4.2.2.1 _ h9).1
        have this : T.1 < nm.length := this
        omega
      have hnew : (nm ++ [(nI k, s, b)]).getD T.1 (0, 0, 0) = (nI k, s, b) := by rw [s3]; exact at_new
      have hsn : sgV (nm ++ [(nI k, s, b)]) T.1 = s := by unfold sgV; rw [hnew]
      have hno2 : ¬ ((T.1, u) ∈ F ∨ sgV (nm ++ [(nI k, s, b)]) T.1 ≠ s) := fun h => h.elim (hno u) (fun h9 => h9 hsn)
      refine c2 _ T.1 hf (c3 _ (nm ++ [(nI k, s, b)]) (T.1 + 1, T.2.1, T.2.2.1, su T.2.2.2 T.1 s) T.1 hf hcA rfl rfl (by rw [List.length_append, s3]; rfl) (by rw [List.length_append, s3]; exact Nat.lt_succ_self _) ⟨by rw [List.length_append]; show nm.length + 1 ≤ 12; omega, s4.2.1, fun p hp => ⟨by rw [List.length_append]; have := (s4.2.2.1 p hp).1; omega, (s4.2.2.1 p hp).2⟩, fun e he => ?_⟩ (fun x' hx' => ?_) (fun v hv => ?_) (fun k9 hk9 => ?_) (fun x' hx' => ?_) (fun _ => by unfold atN; rw [hnew]) (fun h => absurd h hno2) (fun _ r T' r1 r2 r3 r4 => Or.inr ⟨T', r2, r3, Or.inl ⟨hx, by omega, by rw [← s3]; exact r1, by rw [← s3]; exact r4⟩⟩))
      · rcases List.mem_append.mp he with h9 | h9
        · exact s4.2.2.2 e h9
        · rw [List.mem_singleton.mp h9]
          exact ⟨hss, hb⟩
      · have hx' : x' < T.1 + 1 := hx'
        by_cases ex : x' = T.1
        · exact Or.inl ex
        · exact Or.inr (s5 x' (by omega))
      · rw [show (usI (usI (usF y 4008 (nI (T.1 + 1))) 11003 k (nI T.1)) 4003 T.1 s).2.1 11004 v = y.2.1 11004 v from rd_ot (by omega) (rd_ot (by omega) rfl)]
        rcases s6 v hv with h9 | ⟨b', q1, q2, q3, q4⟩
        · exact Or.inl h9
        · refine Or.inr ⟨b', q1, q2, q3, fun h9 => ?_⟩
          have hlt := (s4.2.2.1 _ q3).1
          have hlt : v / 2 < nm.length := hlt
          rw [(at_app hlt).1]
          exact q4 h9
      · rw [nix_app hx]
        by_cases ek : k9 = k
        · rw [ek, if_pos rfl, ← s3]
          exact rd_ot (by omega) po_usI_at
        · rw [if_neg (fun e => ek (nI_inj9 (by omega) (by omega) e))]
          exact rd_ot (by omega) (rd_ne ek (s7 k9 hk9))
      · have hx' : x' < T.1 + 1 := hx'
        show su T.2.2.2 T.1 s x' = _
        by_cases ex : x' = T.1
        · rw [ex, hsn]
          exact if_pos rfl
        · rw [show su T.2.2.2 T.1 s x' = T.2.2.2 x' from if_neg ex, (at_app (show x' < nm.length by omega)).2]
          exact s8 x' (by omega)
    | some x =>
      rw [hx] at e3
      have e3 : y.2.1 11003 k = nI x := e3
      have hxl := (nix_some.mp hx).1
      refine w_rdF hk (w_crI ch_11003 rfl hk1 e3 (w_ifF (nI_nm1 (by omega)) (c2 y x fr_rf (c3 y nm T x fr_rf s1' rfl rfl s3 hxl s4 (fun x' hx' => Or.inr (s5 x' hx')) s6 s7 s8 (fun h9 => ?_) (fun _ => ⟨hx, rfl⟩) (fun hno r T' r1 r2 r3 r4 => Or.inr ⟨T', r2, r3, Or.inr ⟨x, hx, hno, r1, r4⟩⟩)))))
      obtain ⟨u', h8⟩ := s5 x (by omega)
      exact absurd h8 (h9 u')
  refine e_X9_enter ?_
  refine u_X9_enter_0 ?_; unfold cm_X9_enter_0
  refine w_rdF ha ?_
  rw [show nI a - 1 = nI (a - 1) from pk_sub (b := 1) ha1]
  refine w_crI ch_11002 rfl (show a - 1 < 400 by omega) (hbt (a - 1) (by omega)) (w_if (fun h9 => ?_) (fun h9 => ?_))
  · rw [if_pos h9] at hs
    rw [hs] at c1
    exact c1
  · rw [if_neg h9] at hs
    rw [hs] at c1
    exact c1
end XRC
