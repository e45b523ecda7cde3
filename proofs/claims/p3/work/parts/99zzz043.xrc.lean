section
/-! 99zzzzzzzzzzr.xrc -/
/-! the class reads so -/
def rvR (bt : Nat → Int32) (n a : Nat) (R : Nat ⊕ (Nat × Int32 × Int32 × Nat)) (r : Int32 × ow_MS) : Prop := match R with
  | .inl j => r.1 = nI j ∧ j ≤ n
  | .inr (u, x, s, j) => r.1 = -1 ∧ r.2.1 11005 = nI j ∧ a < j ∧ j ≤ n ∧ u = (if bt a = 117 then 1 else 0) ∧ s = (if bt (j - 1) = 43 then 1 else -1) ∧ ∃ k, k < 100 ∧ x = nI k ∧ r.2.1 11006 = nI k
def atN (nm : rtN) (k : Nat) : Nat := (nm.getD k (0, 0, 0)).2.2
def sgV (nm : rtN) (k : Nat) : Int32 := (nm.getD k (0, 0, 0)).2.1
def oxI : Option Nat → Int32
  | none => -1
  | some x => nI x
/-- what has been read: names nm, visits F -/
def rcT (t : Nat) (z : ow_MS) (nm : rtN) (F : List vT) (T : ow_NT) : Prop := cAt z 4000 T ∧ ow_b24 T.2.2.1 ∧ T.1 = nm.length ∧ rtP t nm F ∧ (∀ x, x < T.1 → ∃ u, (x, u) ∈ F) ∧ (∀ v, v < 24 → (z.2.1 11004 v = -1 ∧ kp v ∉ F) ∨ ∃ b, b < 400 ∧ z.2.1 11004 v = nI b ∧ kp v ∈ F ∧ (kp (mt v) ∉ F → b = atN nm (v / 2))) ∧ (∀ k, k < 100 → z.2.1 11003 k = oxI (nix nm (nI k))) ∧ ∀ x, x < T.1 → T.2.2.2 x = sgV nm x
theorem nix_app {nm : rtN} {x y : Int32} {e : Int32 × Nat} (hx : nix nm x = none) : nix (nm ++ [(x, e)]) y = if y = x then some nm.length else nix nm y := by
  have g0 : ∀ j, j < nm.length → (nm ++ [(x, e)]).getD j (0, 0, 0) = nm.getD j (0, 0, 0) := fun j hj => by
    rw [List.getD_eq_getElem?_getD, List.getD_eq_getElem?_getD, List.getElem?_append_left hj]
  have g1 : (nm ++ [(x, e)]).getD nm.length (0, 0, 0) = (x, e) := getD_of (by rw [List.getElem?_append_right (Nat.le_refl _), Nat.sub_self]; rfl)
  by_cases h : y = x
  · rw [if_pos h, h]
    refine nix_some.mpr ⟨by rw [List.length_append]; exact Nat.lt_succ_self _, by rw [g1], fun j hj => ?_⟩
    rw [g0 j hj]
    exact nix_none.mp hx j hj
  · rw [if_neg h]
    cases e9 : nix nm y with
    | none =>
      refine nix_none.mpr (fun j hj => ?_)
      rw [List.length_append] at hj
      have hj : j < nm.length + 1 := hj
      by_cases ej : j = nm.length
      · rw [ej, g1]
        exact fun e8 => h e8.symm
      · rw [g0 j (by omega)]
        exact nix_none.mp e9 j (by omega)
    | some k =>
      obtain ⟨k1, k2, k3⟩ := nix_some.mp e9
      refine nix_some.mpr ⟨by rw [List.length_append]; omega, by rw [g0 k k1]; exact k2, fun j hj => ?_⟩
      rw [g0 j (by omega)]
      exact k3 j hj
theorem at_app {nm : rtN} {e : Int32 × Int32 × Nat} {k : Nat} (h : k < nm.length) : atN (nm ++ [e]) k = atN nm k ∧ sgV (nm ++ [e]) k = sgV nm k := by
  unfold atN sgV
  rw [List.getD_eq_getElem?_getD, List.getD_eq_getElem?_getD, List.getElem?_append_left h]
  exact ⟨rfl, rfl⟩
theorem at_new {nm : rtN} {e : Int32 × Int32 × Nat} : (nm ++ [e]).getD nm.length (0, 0, 0) = e := getD_of (by rw [List.getElem?_append_right (Nat.le_refl _), Nat.sub_self]; rfl)
theorem rcT_fr {P : Nat → Prop} {t : Nat} {y y1 : ow_MS} {nm : rtN} {F : List vT} {T : ow_NT} (hf : fr P y y1) (hP : ∀ g, P g → ¬ cP 4000 g ∧ g ≠ 11003 ∧ g ≠ 11004) (h : rcT t y nm F T) : rcT t y1 nm F T := by
  obtain ⟨s1, s2, s3, s4, s5, s6, s7, s8⟩ := h
  refine ⟨cAt_fr hf (fun g hg h9 => (hP g h9).1 hg) s1, s2, s3, s4, s5, fun v hv => ?_, fun k hk => ?_, s8⟩
  · rw [(hf 11004 (fun h9 => (hP _ h9).2.2 rfl)).2.1]
    exact s6 v hv
  · rw [(hf 11003 (fun h9 => (hP _ h9).2.1 rfl)).2.1]
    exact s7 k hk
section XRC
variable {vl : Nat → Nat} {y : ow_MS} {bt : Nat → Int32} {t : Nat} {nm : rtN} {F : List vT} {T : ow_NT}
theorem xc_readVisit {a n : Nat} (ha : y.1 11005 = nI a) (hn : y.1 11001 = nI n) (han : a < n) (h400 : n ≤ 400) (hbt : ∀ k, k < n → y.2.1 11002 k = bt k) : Te (fun K => ce_X9_readVisit vl K 11000 y) (fun r => fr rvP y r.2 ∧ rvR bt n a (pV bt n a) r) := by
  obtain ⟨R, hR⟩ : ∃ R, pV bt n a = R := ⟨_, rfl⟩
  rw [hR]
  let Q : Int32 × ow_MS → Prop := fun r => fr rvP y r.2 ∧ rvR bt n a R r
  have nf : ∀ {z : ow_MS}, fr rvP y z → z.1 11001 = nI n := fun hf => (hf 11001 (by unfold rvP; omega)).1.trans hn
  have bf : ∀ {z : ow_MS}, fr rvP y z → ∀ k, k < n → z.2.1 11002 k = bt k := fun hf k hk => by
    rw [(hf 11002 (by unfold rvP; omega)).2.1]
    exact hbt k hk
  have c4 : ∀ (z : ow_MS) (b : Nat), fr rvP y z → b ≤ n → z.1 11005 = nI b → R = .inl b → Tt (fun K t => c_X9_readVisit vl K t 4 11000 z) Q := by
    intro z b hf h1 h2 h3
    refine u_X9_readVisit_4 ?_; unfold cm_X9_readVisit_4
    exact w_rdF h2 (w_some ⟨hf, by rw [h3]; exact ⟨rfl, h1⟩⟩)
  have c2 : ∀ (z : ow_MS) (b : Nat), fr rvP y z → b ≤ n → z.1 11005 = nI b → R = .inl b → Tt (fun K t => c_X9_readVisit vl K t 2 11000 z) Q := by
    intro z b hf h1 h2 h3
    refine u_X9_readVisit_2 ?_; unfold cm_X9_readVisit_2
    exact w_rdF h2 (w_some ⟨hf, by rw [h3]; exact ⟨rfl, h1⟩⟩)
  have c3 : ∀ (z : ow_MS) (b k : Nat), fr rvP y z → a < b → b ≤ n → k < 100 → z.1 11005 = nI b → z.1 11006 = nI k → pSg bt n a b (nI k) = R → Tt (fun K t => c_X9_readVisit vl K t 3 11000 z) Q := by
    intro z b k hf h1 h2 h4 h5 h6 hS
    have c5 : b < n → (bt b = 43 ∨ bt b = 45) → Tt (fun K t => c_X9_readVisit vl K t 5 11000 z) Q := by
      intro hbn hs
      unfold pSg at hS
      rw [if_neg (by omega), if_pos hs] at hS
      refine u_X9_readVisit_5 ?_; unfold cm_X9_readVisit_5
      refine w_rdF h5 (w_wrF ?_)
      rw [nI_1]
      refine w_some ⟨fr_F2 hf (Or.inl rfl), ?_⟩
      rw [← hS]
      exact ⟨rfl, po_usF_at, by omega, by omega, rfl, by rw [Nat.add_sub_cancel], k, h4, rfl, rf_ot (by omega) h6⟩
    refine u_X9_readVisit_3 ?_; unfold cm_X9_readVisit_3
    refine w_rdF h5 (w_rdF (nf hf) (w_le (by omega) (by omega) (fun h7 => c4 z b hf h2 h5 ?_) (fun h7 => w_rdF h5 (w_crI ch_11002 rfl (by omega) (bf hf b h7) (w_if (fun h8 => c5 h7 (Or.inl h8)) (fun h8 => w_rdF h5 (w_crI ch_11002 rfl (by omega) (bf hf b h7) (w_if (fun h9 => c5 h7 (Or.inr h9)) (fun h9 => c4 z b hf h2 h5 ?_)))))))))
    · unfold pSg at hS
      have hbn : b = n := by omega
      rw [if_pos hbn] at hS
      rw [← hS, hbn]
    · unfold pSg at hS
      rw [if_neg (by omega), if_neg (fun h6 => h6.elim h8 h9)] at hS
      exact hS.symm
  have c1 : (bt a = 111 ∨ bt a = 117) → Tt (fun K t => c_X9_readVisit vl K t 1 11000 y) Q := by
    intro hou
    unfold pV at hR
    rw [if_pos hou] at hR
    refine u_X9_readVisit_1 ?_; unfold cm_X9_readVisit_1
    refine w_rdF ha (w_wrF ?_)
    rw [nI_1]
    have f1 : fr rvP y (usF y 11005 (nI (a + 1))) := fr_F (Or.inl rfl)
    have e1 : (usF y 11005 (nI (a + 1))).1 11005 = nI (a + 1) := po_usF_at
    refine w_rdF e1 (w_rdF (nf f1) (w_le (by omega) (by omega) (fun h1 => c2 _ (a + 1) f1 (by omega) e1 ?_) (fun h1 => w_rdF e1 (w_crI ch_11002 rfl (by omega) (bf f1 (a + 1) h1) ?_))))
    · have han1 : a + 1 = n := by omega
      rw [if_pos han1] at hR
      rw [← hR, han1]
    rw [if_neg (by omega)] at hR
    refine w_if (fun h49 => c2 _ (a + 1) f1 (by omega) e1 (by rw [if_pos h49] at hR; exact hR.symm)) (fun h49 => w_rdF e1 (w_crI ch_11002 rfl (by omega) (bf f1 (a + 1) h1) (w_if (fun h57 => ?_) (fun h57 => c2 _ (a + 1) f1 (by omega) e1 (by rw [if_neg h49, if_neg h57] at hR; exact hR.symm)))))
    rw [if_neg h49, if_pos h57] at hR
    have hch : ∃ k, 1 ≤ k ∧ k ≤ 9 ∧ bt (a + 1) - 48 = nI k := by
      generalize bt (a + 1) = x at h49 h57
      have h0 : ¬ x < 0 := fun h9 => h49 (Int32.lt_trans h9 (by decide))
      obtain ⟨k, k31, rfl⟩ := nI_of h0
      have q1 : 49 ≤ k := by
        apply Nat.le_of_not_lt
        exact fun h9 => h49 (nI_lt (b := 49) h9 (by omega))
      have q2 : k ≤ 57 := (nI_leI k31 (by omega : 57 < 2 ^ 31)).mp h57
      exact ⟨k - 48, by omega, by omega, pk_sub (b := 48) (by omega)⟩
    obtain ⟨k, k1, k2, k3⟩ := hch
    rw [k3] at hR
    refine w_rdF e1 (w_crI ch_11002 rfl (show a + 1 < 400 by omega) (bf f1 (a + 1) h1) (w_wrF ?_))
    rw [k3]
    have e2 : (usF (usF y 11005 (nI (a + 1))) 11006 (nI k)).1 11005 = nI (a + 1) := rf_ot (by omega) e1
    refine w_rdF e2 (w_wrF ?_)
    rw [nI_1]
    have f3 : fr rvP y (usF (usF (usF y 11005 (nI (a + 1))) 11006 (nI k)) 11005 (nI (a + 1 + 1))) := fr_F2 (fr_F2 f1 (Or.inr rfl)) (Or.inl rfl)
    have e3 : (usF (usF (usF y 11005 (nI (a + 1))) 11006 (nI k)) 11005 (nI (a + 1 + 1))).1 11005 = nI (a + 1 + 1) := po_usF_at
    have e4 : (usF (usF (usF y 11005 (nI (a + 1))) 11006 (nI k)) 11005 (nI (a + 1 + 1))).1 11006 = nI k := rf_ot (by omega) po_usF_at
    generalize usF (usF (usF y 11005 (nI (a + 1))) 11006 (nI k)) 11005 (nI (a + 1 + 1)) = z at f3 e3 e4
    have t3 : ¬ (a + 2 < n ∧ ¬ bt (a + 2) < 48 ∧ ¬ 57 < bt (a + 2)) → Tt (fun K t => c_X9_readVisit vl K t 3 11000 z) Q := fun hno => by
      rw [if_neg hno] at hR
      exact c3 z (a + 1 + 1) k f3 (by omega) (by omega) (by omega) e3 e4 hR
    refine w_rdF e3 (w_rdF (nf f3) (w_le (by omega) (by omega) (fun h2 => t3 (fun h9 => by omega)) (fun h2 => w_rdF e3 (w_crI ch_11002 rfl (by omega) (bf f3 (a + 1 + 1) h2) (w_if (fun h48 => t3 (fun h9 => h9.2.1 h48)) (fun h48 => w_rdF e3 (w_crI ch_11002 rfl (by omega) (bf f3 (a + 1 + 1) h2) (w_if (fun h57' => t3 (fun h9 => h9.2.2 h57')) (fun h57' => w_rdF e4 (w_rdF e3 (w_crI ch_11002 rfl (show a + 1 + 1 < 400 by omega) (bf f3 (a + 1 + 1) h2) (w_wrF ?_))))))))))))
    rw [if_pos ⟨h2, h48, h57'⟩] at hR
    have hch : ∃ m, m < 100 ∧ (10 * nI k + bt (a + 1 + 1)) - 48 = nI m := by
      generalize bt (a + 1 + 1) = x at h48 h57'
      have h0 : ¬ x < 0 := fun h9 => h48 (Int32.lt_trans h9 (by decide))
      obtain ⟨j, j31, rfl⟩ := nI_of h0
      have q1 : 48 ≤ j := by
        apply Nat.le_of_not_lt
        exact fun h9 => h48 (nI_lt (b := 48) h9 (by omega))
      have q2 : j ≤ 57 := by
        apply Nat.le_of_not_lt
        exact fun h9 => h57' (nI_lt (a := 57) h9 j31)
      refine ⟨10 * k + j - 48, by omega, ?_⟩
      rw [show (10 : Int32) * nI k = nI (10 * k) from pk_mul 10 _, nI_add]
      exact pk_sub (b := 48) (by omega)
    obtain ⟨m, m2, m3⟩ := hch
    have hR : pSg bt n a (a + 1 + 1 + 1) (10 * nI k + bt (a + 1 + 1) - 48) = R := hR
    rw [m3] at hR ⊢
    have e5 : (usF z 11006 (nI m)).1 11005 = nI (a + 1 + 1) := rf_ot (by omega) e3
    refine w_rdF e5 (w_wrF ?_)
    rw [nI_1]
    exact c3 _ (a + 1 + 1 + 1) m (fr_F2 (fr_F2 f3 (Or.inr rfl)) (Or.inl rfl)) (by omega) (by omega) m2 po_usF_at (rf_ot (by omega) po_usF_at) hR
  refine e_X9_readVisit ?_
  refine u_X9_readVisit_0 ?_; unfold cm_X9_readVisit_0
  refine w_rdF ha (w_crI ch_11002 rfl (by omega) (hbt a han) (w_if (fun h1 => c1 (Or.inl h1)) (fun h1 => w_rdF ha (w_crI ch_11002 rfl (by omega) (hbt a han) (w_if (fun h2 => c1 (Or.inr h2)) (fun h2 => w_rdF ha (w_some ⟨fr_rf, ?_⟩)))))))
  unfold pV at hR
  rw [if_neg (fun h9 => h9.elim h1 h2)] at hR
  rw [← hR]
  exact ⟨rfl, by omega⟩
/-- a visit entered: its answer -/
def enQ (t : Nat) (y : ow_MS) (nm : rtN) (F : List vT) (T : ow_NT) (b u k : Nat) (s : Int32) (r : Int32 × ow_MS) : Prop := (r.1 = -1 ∧ (∃ T', cAt r.2 4000 T' ∧ ow_b24 T'.2.2.1) ∧ (nix nm (nI k) = none ∧ nm.length = 12 ∨ ∃ x, nix nm (nI k) = some x ∧ ((x, u) ∈ F ∨ sgV nm x ≠ s))) ∨ (∃ T', T'.2.1 = T.2.1 ∧ T'.2.2.1 = T.2.2.1 ∧ (nix nm (nI k) = none ∧ nm.length ≠ 12 ∧ r.1 = nI (lb (nm.length, u)) ∧ rcT t r.2 (nm ++ [(nI k, s, b)]) (F ++ [(nm.length, u)]) T' ∨ ∃ x, nix nm (nI k) = some x ∧ ¬ ((x, u) ∈ F ∨ sgV nm x ≠ s) ∧ r.1 = nI (lb (x, u)) ∧ rcT t r.2 nm (F ++ [(x, u)]) T'))
theorem xc_enter {a k b u n : Nat} {s : Int32} (hS : rcT t y nm F T) (ht : t ≤ 400) (ha : y.1 11005 = nI a) (ha1 : 1 ≤ a) (ha4 : a ≤ n) (hn : n ≤ 400) (hk : y.1 11006 = nI k) (hk1 : k < 100) (hb : b < t) (hbt : ∀ k, k < n → y.2.1 11002 k = bt k) (hbn : b < n) (hu : u = if bt b = 117 then 1 else 0) (hs : s = if bt (a - 1) = 43 then 1 else -1) : Te (fun K => ce_X9_enter vl K 11000 4000 (nI b) y) (fun r => fr enR y r.2 ∧ enQ t y nm F T b u k s r) := by
  let Q : Int32 × ow_MS → Prop := fun r => fr enR y r.2 ∧ enQ t y nm F T b u k s r
  obtain ⟨s1', s2, s3, s4, s5, s6, s7, s8⟩ := id hS
  have hN := s4.1
  have hu2 : u < 2 := by rw [hu]; split <;> omega
  have hss : s1 s := by
    rw [hs]
    split
    · exact Or.inl rfl
    · exact Or.inr rfl
  -- a visit at crossing x
  have c3 : ∀ (z : ow_MS) (nm2 : rtN) (T1 : ow_NT) (x : Nat), fr enR y z → cAt z 4000 T1 → T1.2.1 = T.2.1 → T1.2.2.1 = T.2.2.1 → T1.1 = nm2.length → x < nm2.length → rtP t nm2 F → (∀ x', x' < T1.1 → x' = x ∨ ∃ u, (x', u) ∈ F) → (∀ v, v < 24 → (z.2.1 11004 v = -1 ∧ kp v ∉ F) ∨ ∃ b, b < 400 ∧ z.2.1 11004 v = nI b ∧ kp v ∈ F ∧ (kp (mt v) ∉ F → b = atN nm2 (v / 2))) → (∀ k, k < 100 → z.2.1 11003 k = oxI (nix nm2 (nI k))) → (∀ x, x < T1.1 → T1.2.2.2 x = sgV nm2 x) → ((∀ u', (x, u') ∉ F) → atN nm2 x = b) → (((x, u) ∈ F ∨ sgV nm2 x ≠ s) → nix nm (nI k) = some x ∧ nm2 = nm) → (¬ ((x, u) ∈ F ∨ sgV nm2 x ≠ s) → ∀ r T', r.1 = nI (lb (x, u)) → T'.2.1 = T.2.1 → T'.2.2.1 = T.2.2.1 → rcT t r.2 nm2 (F ++ [(x, u)]) T' → enQ t y nm F T b u k s r) → Tt (fun K t => c_X9_enter vl K t 3 (nI b) s (nI x) 11000 4000 (nI u) (nI (2 * x)) z) Q := by
    intro z nm2 T1 x hf h1 h2 h3 h4 h5 h6 h8 h9 h10 h11 h12 h13 h14
    have hN2 := h6.1
    have hv24 : 2 * x + u < 24 := by omega
    have hb24 : ow_b24 T1.2.2.1 := by rw [h3]; exact s2
    have ekp : kp (2 * x + u) = (x, u) := kp_lb2 (p := (x, u)) hu2
    have bad : ((x, u) ∈ F ∨ sgV nm2 x ≠ s) → Q (-1, z) := fun h => by
      obtain ⟨q1, q2⟩ := h13 h
      refine ⟨hf, Or.inl ⟨rfl, ⟨T1, h1, hb24⟩, Or.inr ⟨x, q1, ?_⟩⟩⟩
      rw [← q2]
      exact h
    refine u_X9_enter_3 ?_; unfold cm_X9_enter_3
    rw [nI_add]
    rcases h9 (2 * x + u) hv24 with ⟨e1, e2⟩ | ⟨b', b1, e1, e2, -⟩
    · rw [ekp] at e2
      refine w_crI ch_11004 rfl hv24 e1 (w_ifT rfl (w_crI (nH_3 nH4) rfl (show x < 12 by omega) ((h1.2.2.2.2 x).trans (h11 x (by omega))) (w_if (fun hsg => w_ctI ch_11004 rfl hv24 (w_some ⟨fr_I2 hf (Or.inr (Or.inr (Or.inr rfl))), ?_⟩)) (fun hsg => w_some (bad (Or.inr hsg))))))
      refine h14 (fun h => h.elim e2 (fun h7 => h7 hsg)) _ T1 rfl h2 h3 ⟨cAt_fr (P := fun q => q = 11004) (fr_I rfl) (fun g hg h => by unfold cP at hg; omega) h1, hb24, h4, ⟨hN2, ?_, fun p hp => ?_, h6.2.2.2⟩, fun x' hx' => ?_, fun v hv => ?_, fun k9 hk9 => rd_ot (by omega) (h10 k9 hk9), h11⟩
      · rw [List.nodup_append]
        refine ⟨h6.2.1, List.nodup_cons.mpr ⟨fun h => (by cases h), List.nodup_nil⟩, fun p hp q hq e => ?_⟩
        rw [List.mem_singleton.mp hq] at e
        rw [e] at hp
        exact e2 hp
      · rcases List.mem_append.mp hp with h | h
        · exact h6.2.2.1 p h
        · rw [List.mem_singleton.mp h]
          exact ⟨h5, hu2⟩
      · rcases h8 x' hx' with h | ⟨u', h⟩
        · exact ⟨u, List.mem_append_right _ (by rw [h]; exact List.mem_singleton.mpr rfl)⟩
        · exact ⟨u', List.mem_append_left _ h⟩
      · by_cases ev : v = 2 * x + u
        · refine Or.inr ⟨b, by omega, by rw [ev]; exact po_usI_at, List.mem_append_right _ (by rw [ev, ekp]; exact List.mem_singleton.mpr rfl), fun hno => ?_⟩
          rw [show v / 2 = x by omega]
          refine (h12 (fun u' hu' => ?_)).symm
          -- the other visit is not there
          have h2u : u' < 2 := (h6.2.2.1 _ hu').2
          by_cases eu : u' = u
          · rw [eu] at hu'
            exact e2 hu'
          · refine hno (List.mem_append_left _ ?_)
            have : kp (mt v) = (x, u') := by
              unfold kp mt
              rw [ev]
              by_cases eo : (2 * x + u) % 2 = 0
              · rw [if_pos eo]
                exact Prod.ext (by show (2 * x + u + 1) / 2 = x; omega) (by show (2 * x + u + 1) % 2 = u'; omega)
              · rw [if_neg eo]
                exact Prod.ext (by show (2 * x + u - 1) / 2 = x; omega) (by show (2 * x + u - 1) % 2 = u'; omega)
            rw [this]
            exact hu'
        · rcases h9 v hv with ⟨q1, q2⟩ | ⟨b', q1, q2, q3, q4⟩
          · refine Or.inl ⟨rd_ne ev q1, fun hm => ?_⟩
            rcases List.mem_append.mp hm with h | h
            · exact q2 h
            · have h9 := List.mem_singleton.mp h
              have := congrArg lb h9
              rw [kp_lb] at this
              exact ev this
          · exact Or.inr ⟨b', q1, rd_ne ev q2, List.mem_append_left _ q3, fun hno => q4 (fun h => hno (List.mem_append_left _ h))⟩
    · rw [ekp] at e2
      exact w_crI ch_11004 rfl hv24 e1 (w_ifF (nI_nm1 (by omega)) (w_some (bad (Or.inl e2))))
  have c2 : ∀ (z : ow_MS) (x : Nat), fr enR y z → Tt (fun K t => c_X9_enter vl K t 3 (nI b) s (nI x) 11000 4000 (nI u) (nI (2 * x)) z) Q → Tt (fun K t => c_X9_enter vl K t 2 (nI b) s (nI x) 11000 4000 0 0 z) Q := by
    intro z x hf h3
    have eb : z.2.1 11002 b = bt b := by
      rw [(hf 11002 (by unfold enR; omega)).2.1]
      exact hbt b hbn
    refine u_X9_enter_2 ?_; unfold cm_X9_enter_2
    rw [show (2 : Int32) * nI x = nI (2 * x) from pk_mul 2 _]
    refine w_crI ch_11002 rfl (by omega) eb (w_if (fun h7 => ?_) (fun h7 => ?_))
    · rw [if_pos h7] at hu
      rw [hu] at h3
      exact h3
    · rw [if_neg h7] at hu
      rw [hu] at h3
      exact h3
  have c1 : Tt (fun K t => c_X9_enter vl K t 1 (nI b) 0 0 11000 4000 s 0 y) Q := by
    refine u_X9_enter_1 ?_; unfold cm_X9_enter_1
    have e3 := s7 k hk1
    cases hx : nix nm (nI k) with
    | none =>
      rw [hx] at e3
      have e3 : y.2.1 11003 k = -1 := e3
      refine w_rdF hk (w_crI ch_11003 rfl hk1 e3 (w_ifT rfl (w_rdF s1'.1 (w_lt (b := 12) (by omega) (by omega) (fun h12 => w_rdF s1'.1 (w_rdF s1'.1 (w_wrF ?_))) (fun h12 => w_some ⟨fr_rf, Or.inl ⟨rfl, ⟨T, s1', s2⟩, Or.inl ⟨hx, by omega⟩⟩⟩)))))
      rw [nI_1]
      have hk2 : (usF y 4008 (nI (T.1 + 1))).1 11006 = nI k := rf_ot (by omega) hk
      refine w_rdF hk2 (w_ctI ch_11003 rfl hk1 (w_ctI (nH_3 nH4) rfl h12 ?_))
      have hf : fr enR y (usI (usI (usF y 4008 (nI (T.1 + 1))) 11003 k (nI T.1)) 4003 T.1 s) := fr_I2 (fr_I2 (fr_F (Or.inl rfl)) (Or.inr (Or.inr (Or.inl rfl)))) (Or.inr (Or.inl rfl))
      have hcA : cAt (usI (usI (usF y 4008 (nI (T.1 + 1))) 11003 k (nI T.1)) 4003 T.1 s) 4000 (T.1 + 1, T.2.1, T.2.2.1, su T.2.2.2 T.1 s) := ⟨show (usF y 4008 (nI (T.1 + 1))).1 4008 = _ from po_usF_at, show (usF y 4008 (nI (T.1 + 1))).1 4009 = nI T.2.1 from rf_ot (by omega) s1'.2.1, fun v => rd_ot (by omega) (rd_ot (by omega) (s1'.2.2.1 v)), fun v => rd_ot (by omega) (rd_ot (by omega) (s1'.2.2.2.1 v)), fun v => by
        show _ = su T.2.2.2 T.1 s v
        by_cases ev : v = T.1
        · rw [ev]
          exact po_usI_at.trans (if_pos rfl).symm
        · rw [show su T.2.2.2 T.1 s v = T.2.2.2 v from if_neg ev]
          exact rd_ne ev (rd_ot (by omega) (s1'.2.2.2.2 v))⟩
      have hno : ∀ u', (T.1, u') ∉ F := fun u' h9 => by
        have := (s4.2.2.1 _ h9).1
        have this : T.1 < nm.length := this
        omega
      have hnew : (nm ++ [(nI k, s, b)]).getD T.1 (0, 0, 0) = (nI k, s, b) := by rw [s3]; exact at_new
      have hsn : sgV (nm ++ [(nI k, s, b)]) T.1 = s := by unfold sgV; rw [hnew]
      have hno2 : ¬ ((T.1, u) ∈ F ∨ sgV (nm ++ [(nI k, s, b)]) T.1 ≠ s) := fun h => h.elim (hno u) (fun h9 => h9 hsn)
      refine c2 _ T.1 hf (c3 _ (nm ++ [(nI k, s, b)]) (T.1 + 1, T.2.1, T.2.2.1, su T.2.2.2 T.1 s) T.1 hf hcA rfl rfl (by rw [List.length_append, s3]; rfl) (by rw [List.length_append, s3]; exact Nat.lt_succ_self _) ⟨by rw [List.length_append]; show nm.length + 1 ≤ 12; omega, s4.2.1, fun p hp => ⟨by rw [List.length_append]; have := (s4.2.2.1 p hp).1; omega, (s4.2.2.1 p hp).2⟩, fun e he => ?_⟩ (fun x' hx' => ?_) (fun v hv => ?_) (fun k9 hk9 => ?_) (fun x' hx' => ?_) (fun _ => by unfold atN; rw [hnew]) (fun h => absurd h hno2) (fun _ r T' r1 r2 r3 r4 => Or.inr ⟨T', r2, r3, Or.inl ⟨hx, by omega, by rw [← s3]; exact r1, by rw [← s3]; exact r4⟩⟩))
      · rcases List.mem_append.mp he with h9 | h9
        · exact s4.2.2.2 e h9
        · rw [List.mem_singleton.mp h9]
          exact ⟨hss, hb⟩
      · have hx' : x' < T.1 + 1 := hx'
        by_cases ex : x' = T.1
        · exact Or.inl ex
        · exact Or.inr (s5 x' (by omega))
      · rw [show (usI (usI (usF y 4008 (nI (T.1 + 1))) 11003 k (nI T.1)) 4003 T.1 s).2.1 11004 v = y.2.1 11004 v from rd_ot (by omega) (rd_ot (by omega) rfl)]
        rcases s6 v hv with h9 | ⟨b', q1, q2, q3, q4⟩
        · exact Or.inl h9
        · refine Or.inr ⟨b', q1, q2, q3, fun h9 => ?_⟩
          have hlt := (s4.2.2.1 _ q3).1
          have hlt : v / 2 < nm.length := hlt
          rw [(at_app hlt).1]
          exact q4 h9
      · rw [nix_app hx]
        by_cases ek : k9 = k
        · rw [ek, if_pos rfl, ← s3]
          exact rd_ot (by omega) po_usI_at
        · rw [if_neg (fun e => ek (nI_inj9 (by omega) (by omega) e))]
          exact rd_ot (by omega) (rd_ne ek (s7 k9 hk9))
      · have hx' : x' < T.1 + 1 := hx'
        show su T.2.2.2 T.1 s x' = _
        by_cases ex : x' = T.1
        · rw [ex, hsn]
          exact if_pos rfl
        · rw [show su T.2.2.2 T.1 s x' = T.2.2.2 x' from if_neg ex, (at_app (show x' < nm.length by omega)).2]
          exact s8 x' (by omega)
    | some x =>
      rw [hx] at e3
      have e3 : y.2.1 11003 k = nI x := e3
      have hxl := (nix_some.mp hx).1
      refine w_rdF hk (w_crI ch_11003 rfl hk1 e3 (w_ifF (nI_nm1 (by omega)) (c2 y x fr_rf (c3 y nm T x fr_rf s1' rfl rfl s3 hxl s4 (fun x' hx' => Or.inr (s5 x' hx')) s6 s7 s8 (fun h9 => ?_) (fun _ => ⟨hx, rfl⟩) (fun hno r T' r1 r2 r3 r4 => Or.inr ⟨T', r2, r3, Or.inr ⟨x, hx, hno, r1, r4⟩⟩)))))
      obtain ⟨u', h8⟩ := s5 x (by omega)
      exact absurd h8 (h9 u')
  refine e_X9_enter ?_
  refine u_X9_enter_0 ?_; unfold cm_X9_enter_0
  refine w_rdF ha ?_
  rw [show nI a - 1 = nI (a - 1) from pk_sub (b := 1) ha1]
  refine w_crI ch_11002 rfl (show a - 1 < 400 by omega) (hbt (a - 1) (by omega)) (w_if (fun h9 => ?_) (fun h9 => ?_))
  · rw [if_pos h9] at hs
    rw [hs] at c1
    exact c1
  · rw [if_neg h9] at hs
    rw [hs] at c1
    exact c1
end XRC
end
section
/-! 99zzzzzzzzzzs.xdia -/
/-! both sides: diagram -/
theorem te_and {O : Type} {f : Nat → Option O} {Q R : O → Prop} (h1 : Te f Q) (h2 : Te f R) : Te f (fun r => Q r ∧ R r) := w_monoE (te_all (α := Unit) (H := fun _ => True) (R := fun _ => R) h1 (fun _ _ => h2)) (fun r ⟨a, b⟩ => ⟨a, b () trivial⟩)
theorem te_sw {O P : Type} {f : Nat → Option O} {g : Nat → Option P} {R : P → Prop} {M : O → P → Prop} (h2 : Te g R) (H : ∀ b, R b → Te f (fun a => M a b)) : Te f (fun a => Te g (fun b => M a b)) := by
  obtain ⟨b, hb, hR⟩ := h2
  exact w_monoE (H b hR) (fun a ha => ⟨b, hb, ha⟩)
theorem lonA_uni {nm : rtN} {F : List vT} {a b : Nat} (h1 : lonA nm F a) (h2 : lonA nm F b) : a = b := by
  obtain ⟨⟨k, k1, k2⟩, k3⟩ := h1
  obtain ⟨⟨j, j1, j2⟩, j3⟩ := h2
  have := k3 j j1
  have := j3 k k1
  omega
/-- how the class's reader answers -/
def rcQ (t : Nat) (R : rtO) (r : Int32 × ow_MS) : Prop := match R with
  | .inl j => r.1 = nI j ∧ j ≤ t
  | .inr (nm, A) => (∃ a, a < t ∧ lonA nm A.flatten a ∧ r.1 = nI a) ∨ (∀ k, ¬ lonK nm A.flatten k) ∧ r.1 = -1 ∧ ∃ T, cAt r.2 4000 T ∧ nv T ∧ isoN A (sgN nm) (fun x => x) T ∧ pm1 T
section XDI
variable {vl : Nat → Nat} {y : ow_MS} {bt : Nat → Int32} {t : Nat} {nm : rtN} {F : List vT} {T : ow_NT}
theorem xc_finish {A : rn_L} {L : List vT} {x3 x4 : Int32} (hS : rcT t y nm (A.flatten ++ L) T) (hl : lkS T.2.2.1 A L) (hci : T.2.1 = cirs A) (hx : lsI L x3 x4) : Te (fun K => ce_X9_finish vl K 4000 x3 x4 y) (fun y1 => ∃ T1, rcT t y1 nm (A ++ [L]).flatten T1 ∧ lkS T1.2.2.1 (A ++ [L]) [] ∧ T1.2.1 = cirs (A ++ [L]) ∧ fr (cP 4000) y y1) := by
  obtain ⟨s1', s2, s3, s4, s5, s6, s7, s8⟩ := id hS
  have hN := s4.1
  have e0 : vOK (A.flatten ++ L) := ⟨s4.2.1, fun p hp => (s4.2.2.1 p hp).2⟩
  refine e_X9_finish ?_; unfold cm_X9_finish_0
  cases L with
  | nil =>
    have hx : x3 = -1 := hx
    refine w_ifT hx (w_rdF s1'.2.1 (w_wrF (w_some ⟨(T.1, T.2.1 + 1, T.2.2), ?_, lk_nil hl, ?_, fr_F (by unfold cP; omega)⟩)))
    · rw [fl_app]
      exact ⟨⟨rf_ot (by omega) s1'.1, po_usF_at.trans (nI_1 _), s1'.2.2⟩, s2, s3, s4, s5, s6, s7, s8⟩
    · rw [cirs_app, if_pos rfl, ← hci]
  | cons p L =>
    obtain ⟨hx3, q, hq, hx4⟩ := hx
    have hpF : p ∈ A.flatten ++ p :: L := List.mem_append_right _ List.mem_cons_self
    have hqF : q ∈ A.flatten ++ p :: L := List.mem_append_right _ (List.mem_of_getElem? hq)
    have b24 : ∀ r, r ∈ A.flatten ++ p :: L → lb r < 24 := fun r hr => by
      have h1 := s4.2.2.1 r hr
      unfold lb
      omega
    have hp24 := b24 p hpF
    refine w_ifF (by rw [hx3]; exact nI_nm1 (by omega)) ?_
    rw [hx3, hx4]
    refine w_cs0 (tc_link nH4 s1' (b24 q hqF) (b24 p hpF)) ?_
    rintro y1 ⟨g1, g2⟩
    refine w_some ⟨_, ⟨g1, nl_b24 s2 (b24 q hqF) (b24 p hpF), s3, ?_, ?_, fun v hv => ?_, fun k hk => ?_, s8⟩, lk_close e0 hq hl, ?_, g2⟩
    · rw [fl_app]
      exact s4
    · rw [fl_app]
      exact s5
    · rw [fl_app, (g2 11004 (by unfold cP; omega)).2.1]
      exact s6 v hv
    · rw [(g2 11003 (by unfold cP; omega)).2.1]
      exact s7 k hk
    · rw [cirs_app, if_neg (List.cons_ne_nil p L), Nat.add_zero]
      exact hci
theorem xc_firstLonely (hS : rcT t y nm F T) (ht : t ≤ 400) : Te (fun K => ce_X9_firstLonely vl K 11000 4000 y) (fun r => r.2 = y ∧ (r.1 = -1 ∧ (∀ k, ¬ lonK nm F k) ∨ ∃ a, a < t ∧ lonA nm F a ∧ r.1 = nI a)) := by
  obtain ⟨s1', s2, s3, s4, s5, s6, s7, s8⟩ := id hS
  have hN := s4.1
  -- a lonely visit
  let lv : Nat → Prop := fun v => kp v ∈ F ∧ kp (mt v) ∉ F
  have lvK : ∀ v, v < 2 * T.1 → lv v → lonK nm F (v / 2) := fun v hv ⟨h1, h2⟩ => by
    refine ⟨by omega, fun ⟨h3, h4⟩ => h2 ?_⟩
    have hm := mt_half v
    have : mt v % 2 = 0 ∨ mt v % 2 = 1 := by omega
    unfold kp
    rw [hm]
    rcases this with e | e <;> rw [e]
    · exact h3
    · exact h4
  have kLv : ∀ k, lonK nm F k → ∃ v, v < 2 * T.1 ∧ v / 2 = k ∧ lv v := fun k ⟨h1, h2⟩ => by
    obtain ⟨u, hu⟩ := s5 k (by omega)
    have hu2 : u < 2 := (s4.2.2.1 _ hu).2
    refine ⟨2 * k + u, by omega, by omega, ?_, fun h3 => h2 ?_⟩
    · unfold kp
      rw [show (2 * k + u) / 2 = k by omega, show (2 * k + u) % 2 = u by omega]
      exact hu
    · unfold kp mt at h3
      rcases (show u = 0 ∨ u = 1 by omega) with e | e
      · rw [e] at hu
        rw [e, if_pos (by omega), show (2 * k + 0 + 1) / 2 = k by omega, show (2 * k + 0 + 1) % 2 = 1 by omega] at h3
        exact ⟨hu, h3⟩
      · rw [e] at hu
        rw [e, if_neg (by omega), show (2 * k + 1 - 1) / 2 = k by omega, show (2 * k + 1 - 1) % 2 = 0 by omega] at h3
        exact ⟨h3, hu⟩
  let Q : Int32 × ow_MS → Prop := fun r => r.2 = y ∧ (r.1 = -1 ∧ (∀ k, ¬ lonK nm F k) ∨ ∃ a, a < t ∧ lonA nm F a ∧ r.1 = nI a)
  let I : Nat → Int32 → Prop := fun i l => (l = -1 ∧ ∀ v, v < i → ¬ lv v) ∨ ∃ b, b < t ∧ l = nI b ∧ (∃ v, v < i ∧ lv v ∧ atN nm (v / 2) = b) ∧ ∀ v, v < i → lv v → b ≤ atN nm (v / 2)
  have c1 : ∀ (d i : Nat) (l : Int32), i + d = 2 * T.1 → I i l → Tt (fun K t => c_X9_firstLonely vl K t 1 l (nI i) 11000 4000 y) Q := by
    intro d
    induction d with
    | zero =>
      intro i l hi hl
      have e : i = 2 * T.1 := by omega
      subst e
      refine u_X9_firstLonely_1 ?_; unfold cm_X9_firstLonely_1
      refine w_rdF s1'.1 ?_
      rw [show (2 : Int32) * nI T.1 = nI (2 * T.1) from pk_mul 2 _]
      refine w_leT (by omega) (by omega) (w_some ⟨rfl, ?_⟩)
      rcases hl with ⟨e, h⟩ | ⟨b, b1, b2, ⟨v, v1, v2, v3⟩, b4⟩
      · refine Or.inl ⟨e, fun k hk => ?_⟩
        obtain ⟨v, v1, -, v3⟩ := kLv k hk
        exact h v v1 v3
      · refine Or.inr ⟨b, b1, ⟨⟨v / 2, lvK v v1 v2, v3⟩, fun k hk => ?_⟩, b2⟩
        obtain ⟨v', w1, w2, w3⟩ := kLv k hk
        rw [← w2]
        exact b4 v' w1 w3
    | succ d ih =>
      intro i l hi hl
      have hi24 : i < 24 := by omega
      have hm24 := mt_lt (c := 12) (show i < 2 * 12 by omega)
      have c3 : ∀ l2, I (i + 1) l2 → Tt (fun K t => c_X9_firstLonely vl K t 3 l2 (nI i) 11000 4000 y) Q := by
        intro l2 h2
        refine u_X9_firstLonely_3 ?_; unfold cm_X9_firstLonely_3
        rw [nI_1]
        exact ih (i + 1) l2 (by omega) h2
      have keep : ¬ lv i → I (i + 1) l := by
        intro h9
        have ne : ∀ v, v < i + 1 → lv v → v < i := fun v hv h8 => by
          by_cases ev : v = i
          · rw [ev] at h8
            exact absurd h8 h9
          · omega
        rcases hl with ⟨e, h⟩ | ⟨b, b1, b2, ⟨v, v1, v2⟩, b4⟩
        · exact Or.inl ⟨e, fun v hv h8 => h v (ne v hv h8) h8⟩
        · exact Or.inr ⟨b, b1, b2, ⟨v, by omega, v2⟩, fun v hv h8 => b4 v (ne v hv h8) h8⟩
      refine u_X9_firstLonely_1 ?_; unfold cm_X9_firstLonely_1
      refine w_rdF s1'.1 ?_
      rw [show (2 : Int32) * nI T.1 = nI (2 * T.1) from pk_mul 2 _, xor1 ⟨i, hi24⟩]
      refine w_leF (by omega) (by omega) ?_
      rcases s6 i hi24 with ⟨e1, e2⟩ | ⟨b, b1, e1, e2, e3⟩
      · exact w_crI ch_11004 rfl hi24 e1 (w_ifT rfl (c3 l (keep (fun h => e2 h.1))))
      · refine w_crI ch_11004 rfl hi24 e1 (w_ifF (nI_nm1 (by omega)) ?_)
        rcases s6 (mt i) (by omega) with ⟨f1, f2⟩ | ⟨b', b2, f1, f2, -⟩
        · have hlv : lv i := ⟨e2, f2⟩
          have hb := e3 f2
          have hat : b < t := by
            rw [hb]
            have hk := (lvK i (by omega) hlv).1
            have := (s4.2.2.2 _ (List.getElem_mem hk)).2
            unfold atN
            rw [getD_of (List.getElem?_eq_getElem hk)]
            exact this
          have c2 : (∀ v, v < i → lv v → b ≤ atN nm (v / 2)) → Tt (fun K t => c_X9_firstLonely vl K t 2 l (nI i) 11000 4000 y) Q := by
            intro hle
            refine u_X9_firstLonely_2 ?_; unfold cm_X9_firstLonely_2
            refine w_crI ch_11004 rfl hi24 e1 (c3 _ (Or.inr ⟨b, hat, rfl, ⟨i, by omega, hlv, hb.symm⟩, fun v hv h8 => ?_⟩))
            by_cases ev : v = i
            · rw [ev]
              omega
            · exact hle v (by omega) h8
          refine w_crI ch_11004 rfl (show mt i < 24 by omega) f1 (w_ifT rfl ?_)
          rcases hl with ⟨e, h⟩ | ⟨b3, b4, e, b5, b6⟩
          · exact w_ifT e (c2 (fun v hv h8 => absurd h8 (h v hv)))
          · refine w_ifF (by rw [e]; exact nI_nm1 (by omega)) (w_crI ch_11004 rfl hi24 e1 ?_)
            rw [e]
            refine w_le (by omega) (by omega) (fun h9 => c3 _ (Or.inr ⟨b3, b4, rfl, ?_, fun v hv h8 => ?_⟩)) (fun h9 => ?_)
            · obtain ⟨v, v1, v2⟩ := b5
              exact ⟨v, by omega, v2⟩
            · by_cases ev : v = i
              · rw [ev, ← hb]
                exact h9
              · exact b6 v (by omega) h8
            · rw [← e]
              exact c2 (fun v hv h8 => by have := b6 v hv h8; omega)
        · exact w_crI ch_11004 rfl (show mt i < 24 by omega) f1 (w_ifF (nI_nm1 (by omega)) (c3 l (keep (fun h => h.2 f2))))
  refine e_X9_firstLonely ?_
  refine u_X9_firstLonely_0 ?_; unfold cm_X9_firstLonely_0
  exact c1 (2 * T.1) 0 (-1) (by omega) (Or.inl ⟨rfl, fun v hv => absurd hv (Nat.not_lt_zero _)⟩)
theorem xc_readDiagram {n : Nat} {R : rtO} (hn : y.1 11001 = nI n) (h400 : n ≤ 400) (hT : ∃ T, cAt y 4000 T ∧ ow_b24 T.2.2.1) (hbt : ∀ k, k < n → y.2.1 11002 k = bt k) (hR : rdF9 bt n (n + 1) 0 [] [] [] = R) : Te (fun K => ce_X9_readDiagram vl K 11000 4000 y) (fun r => rcQ n R r) := by
  let Q : Int32 × ow_MS → Prop := fun r => rcQ n R r
  have nf : ∀ {z : ow_MS}, fr rdP y z → z.1 11001 = nI n := fun hf => (hf 11001 (by unfold rdP cP; omega)).1.trans hn
  have bf : ∀ {z : ow_MS}, fr rdP y z → ∀ k, k < n → z.2.1 11002 k = bt k := fun hf k hk => by
    rw [(hf 11002 (by unfold rdP cP; omega)).2.1]
    exact hbt k hk
  have bad : ∀ (z : ow_MS) (b : Nat), b ≤ n → R = .inl b → Tt (fun _ _ => some (nI b, z)) Q := fun z b h1 h2 => w_some (by
    show rcQ n R (nI b, z)
    rw [h2]
    exact ⟨rfl, h1⟩)
  have c4 : ∀ (z : ow_MS) (nm : rtN) (A : rn_L) (L : List vT) (T : ow_NT) (x2 x3 x4 x5 : Int32), fr rdP y z → rcT n z nm (A.flatten ++ L) T → lkS T.2.2.1 A L → T.2.1 = cirs A → lsI L x3 x4 → A.length + 1 ≤ 6 → R = .inr (nm, A ++ [L]) → Tt (fun K t => c_X9_readDiagram vl K t 4 x2 x3 x4 x5 0 0 0 11000 4000 z) Q := by
    intro z nm A L T x2 x3 x4 x5 hf h1 h2 h3 h4 h5 hRe
    refine u_X9_readDiagram_4 ?_; unfold cm_X9_readDiagram_4
    refine w_cs0 (xc_finish h1 h2 h3 h4) ?_
    rintro z1 ⟨T1, g1, g2, g3, g4⟩
    refine w_cs1 (xc_firstLonely g1 h400) ?_
    rintro v z2 ⟨e1, e2⟩
    dsimp only at e1 e2
    rw [e1]
    refine w_some ?_
    show rcQ n R (v, z1)
    rw [hRe]
    rcases e2 with ⟨rfl, e3⟩ | e2
    · obtain ⟨s1', s2, s3, s4, s5, s6, s7, s8⟩ := g1
      have hN := s4.1
      have hok : okF (A ++ [L]).flatten T1.1 := by rw [s3]; exact rtP_okF s4 e3
      obtain ⟨n1, n2⟩ := lk_net hok (by omega) (by rw [List.length_append]; exact h5) s2 g3 g2
      have hsg : ∀ x, x < T1.1 → T1.2.2.2 x = 1 ∨ T1.2.2.2 x = -1 := fun x hx => by
        rw [s8 x hx]
        have hk : x < nm.length := by omega
        unfold sgV
        rw [getD_of (List.getElem?_eq_getElem hk)]
        exact (s4.2.2.2 _ (List.getElem_mem hk)).1
      refine Or.inr ⟨e3, rfl, T1, s1', n1, ?_, hsg⟩
      obtain ⟨i1, i2, i3, i4, i5, i6, i7, i8⟩ := n2
      refine ⟨i1, i2, i3, i4, i5, i6, fun w hw => ?_, i8⟩
      have hx := i4 w hw
      show T1.2.2.2 (crs (A ++ [L]) w) < 0 ↔ sgN nm (crs (A ++ [L]) w) = true
      unfold sgN
      rw [decide_eq_true_iff]
      have e9 := s8 _ hx
      unfold sgV at e9
      rw [← e9]
      rcases hsg _ hx with e | e <;> rw [e] <;> decide
    · exact Or.inl e2
  have c1 : ∀ (d i m : Nat) (z : ow_MS) (nm : rtN) (A : rn_L) (L : List vT) (T : ow_NT) (x3 x4 : Int32) (a : Nat), i + d = 400 → i ≤ a → n + 1 ≤ a + m → fr rdP y z → z.1 11005 = nI a → a ≤ n → rcT n z nm (A.flatten ++ L) T → lkS T.2.2.1 A L → T.2.1 = cirs A → lsI L x3 x4 → A.length + 1 ≤ 6 → rdF9 bt n m a nm A L = R → Tt (fun K t => c_X9_readDiagram vl K t 1 (nI (A.length + 1)) x3 x4 (nI i) 0 0 0 11000 4000 z) Q := by
    intro d
    induction d with
    | zero =>
      intro i m z nm A L T x3 x4 a hi hia hm hf ha han h1 h2 h3 h4 h5 hRe
      obtain ⟨m, rfl⟩ : ∃ m', m = m' + 1 := ⟨m - 1, by omega⟩
      have hRe : (if n ≤ a then Sum.inr (nm, A ++ [L]) else if bt a = 59 then (if A.length + 1 = 6 then Sum.inl a else rdF9 bt n m (a + 1) nm (A ++ [L]) []) else match pV bt n a with
        | .inl j => Sum.inl j
        | .inr (u, x, s, j) => rdC (rdF9 bt n m) nm A L a u x s j) = R := hRe
      rw [if_pos (by omega)] at hRe
      refine u_X9_readDiagram_1 ?_; unfold cm_X9_readDiagram_1
      exact w_leT (a := 400) (by omega) (by omega) (c4 z nm A L T _ x3 x4 _ hf h1 h2 h3 h4 h5 hRe.symm)
    | succ d ih =>
      intro i m z nm A L T x3 x4 a hi hia hm hf ha han h1 h2 h3 h4 h5 hRe
      obtain ⟨m, rfl⟩ : ∃ m', m = m' + 1 := ⟨m - 1, by omega⟩
      have hRe : (if n ≤ a then Sum.inr (nm, A ++ [L]) else if bt a = 59 then (if A.length + 1 = 6 then Sum.inl a else rdF9 bt n m (a + 1) nm (A ++ [L]) []) else match pV bt n a with
        | .inl j => Sum.inl j
        | .inr (u, x, s, j) => rdC (rdF9 bt n m) nm A L a u x s j) = R := hRe
      have c3 : ∀ (z1 : ow_MS) (nm1 : rtN) (A1 : rn_L) (L1 : List vT) (T1 : ow_NT) (y3 y4 y6 : Int32) (a1 : Nat), a < a1 → fr rdP y z1 → z1.1 11005 = nI a1 → a1 ≤ n → rcT n z1 nm1 (A1.flatten ++ L1) T1 → lkS T1.2.2.1 A1 L1 → T1.2.1 = cirs A1 → lsI L1 y3 y4 → A1.length + 1 ≤ 6 → rdF9 bt n m a1 nm1 A1 L1 = R → Tt (fun K t => c_X9_readDiagram vl K t 3 (nI (A1.length + 1)) y3 y4 (nI i) y6 0 0 11000 4000 z1) Q := by
        intro z1 nm1 A1 L1 T1 y3 y4 y6 a1 q0 q1 q2 q3 q4 q5 q6 q7 q8 q9
        refine u_X9_readDiagram_3 ?_; unfold cm_X9_readDiagram_3
        rw [nI_1 i]
        exact ih (i + 1) m z1 nm1 A1 L1 T1 y3 y4 a1 (by omega) (by omega) (by omega) q1 q2 q3 q4 q5 q6 q7 q8 q9
      refine u_X9_readDiagram_1 ?_; unfold cm_X9_readDiagram_1
      refine w_leF (a := 400) (by omega) (by omega) (w_rdF ha (w_rdF (nf hf) (w_le (by omega) (by omega) (fun h9 => c4 z nm A L T _ x3 x4 _ hf h1 h2 h3 h4 h5 (by rw [if_pos h9] at hRe; exact hRe.symm)) (fun hal => w_rdF ha (w_rdF ha (w_crI ch_11002 rfl (show a < 400 by omega) (bf hf a hal) ?_))))))
      rw [if_neg (by omega)] at hRe
      refine w_if (fun h59 => ?_) (fun h59 => ?_)
      · rw [if_pos h59] at hRe
        rw [nI_1]
        refine w_le (b := 6) (by omega) (by omega) (fun h6 => w_cs0 (xc_finish h1 h2 h3 h4) ?_) (fun h6 => w_rdF ha (bad z a (by omega) (by rw [if_pos (by omega)] at hRe; exact hRe.symm)))
        rintro z1 ⟨T1, g1, g2, g3, g4⟩
        rw [if_neg (by omega)] at hRe
        have ha1 : z1.1 11005 = nI a := (g4 11005 (by unfold cP; omega)).1.trans ha
        refine w_rdF ha1 (w_wrF ?_)
        rw [nI_1 a]
        have hf1 : fr rdP y (usF z1 11005 (nI (a + 1))) := fr_F2 (fr_tr hf (fr_mono (fun g hg => Or.inl hg) g4)) (by unfold rdP; omega)
        have hA1 : (A ++ [L]).length = A.length + 1 := by
          rw [List.length_append]
          rfl
        have := c3 (usF z1 11005 (nI (a + 1))) nm (A ++ [L]) [] T1 (-1) x4 (nI a) (a + 1) (by omega) hf1 po_usF_at (by omega) (by
          rw [List.append_nil]
          exact rcT_fr (P := fun g => g = 11005) (fr_F rfl) (fun g hg => by unfold cP; omega) g1) g2 g3 rfl (by omega) hRe
        rw [hA1] at this
        exact this
      · rw [if_neg h59] at hRe
        refine w_cs1 (xc_readVisit (bt := bt) ha (nf hf) hal h400 (bf hf)) ?_
        rintro v z1 ⟨f1, e1⟩
        dsimp only at f1
        have hf1 : fr rdP y z1 := fr_tr hf (fr_mono (fun g hg => by unfold rvP at hg; unfold rdP; omega) f1)
        have h11 : rcT n z1 nm (A.flatten ++ L) T := rcT_fr f1 (fun g hg => by unfold rvP at hg; unfold cP; omega) h1
        cases hp : pV bt n a with
        | inl j =>
          rw [hp] at e1 hRe
          obtain ⟨e1, e2⟩ := e1
          have e1 : v = nI j := e1
          rw [e1]
          exact w_ifF (nI_nm1 (by omega)) (bad z1 j e2 hRe.symm)
        | inr q =>
          obtain ⟨u, x, s, j⟩ := q
          rw [hp] at e1 hRe
          obtain ⟨e1, k5, k1, k2, ku, ks, k, k4, kx, k6⟩ := e1
          have e1 : v = -1 := e1
          have k5 : z1.1 11005 = nI j := k5
          have k6 : z1.1 11006 = nI k := k6
          subst kx
          have hRe : rdC (rdF9 bt n m) nm A L a u (nI k) s j = R := hRe
          unfold rdC at hRe
          rw [e1]
          refine w_ifT rfl (w_cs1 (xc_enter (bt := bt) h11 h400 k5 (by omega) k2 h400 k6 k4 hal (bf hf1) hal ku ks) ?_)
          rintro w z2 ⟨f2, e2⟩
          dsimp only at f2
          have hf2 : fr rdP y z2 := fr_tr hf1 (fr_mono (fun g hg => by unfold enR at hg; unfold rdP cP; omega) f2)
          have ha2 : z2.1 11005 = nI j := (f2 11005 (by unfold enR; omega)).1.trans k5
          have good : ∀ (nm2 : rtN) (p : vT) (T2 : ow_NT), w = nI (lb p) → T2.2.1 = T.2.1 → T2.2.2.1 = T.2.2.1 → rcT n z2 nm2 (A.flatten ++ L ++ [p]) T2 → rdF9 bt n m j nm2 A (L ++ [p]) = R → Tt (fun K t => if w = -1 then some (nI a, z2) else if x3 = -1 then c_X9_readDiagram vl K t 2 (nI (A.length + 1)) w x4 (nI i) (nI a) (-1) w 11000 4000 z2 else cs0 (ce_X7_link vl K 4000 x4 w z2) fun z14 => c_X9_readDiagram vl K t 2 (nI (A.length + 1)) x3 x4 (nI i) (nI a) (-1) w 11000 4000 z14) Q := by
            intro nm2 p T2 hw r2 r3 r1 hRe2
            rw [hw]
            have r1' : rcT n z2 nm2 (A.flatten ++ (L ++ [p])) T2 := by
              rw [← List.append_assoc]
              exact r1
            have hN2 := r1'.2.2.2.1.1
            have b24 : ∀ r, r ∈ A.flatten ++ (L ++ [p]) → lb r < 24 := fun r hr => by
              have q1 := r1'.2.2.2.1.2.2.1 r hr
              unfold lb
              omega
            have p24 := b24 p (by simp)
            have hne : nI (lb p) ≠ -1 := nI_nm1 (by omega)
            refine w_ifF hne ?_
            cases L with
            | nil =>
              have h4 : x3 = -1 := h4
              have hl2 : lkS T2.2.2.1 A [p] := by
                rw [r3]
                exact lk_one h2
              refine w_ifT h4 ?_
              refine u_X9_readDiagram_2 ?_; unfold cm_X9_readDiagram_2
              exact c3 z2 nm2 A [p] T2 (nI (lb p)) (nI (lb p)) _ j k1 hf2 ha2 k2 r1' hl2 (r2.trans h3) ⟨rfl, p, rfl, rfl⟩ h5 hRe2
            | cons q0 L =>
              obtain ⟨hx3, q, hq, hx4⟩ := h4
              have hq24 := b24 q (List.mem_append_right _ (List.mem_append_left _ (List.mem_of_getElem? hq)))
              have h024 := b24 q0 (List.mem_append_right _ (List.mem_append_left _ List.mem_cons_self))
              refine w_ifF (by rw [hx3]; exact nI_nm1 (by omega)) ?_
              rw [hx4]
              refine w_cs0 (tc_link nH4 r1'.1 hq24 p24) ?_
              rintro z3 ⟨g1, g2⟩
              obtain ⟨t1, t2, t3, t4, t5, t6, t7, t8⟩ := r1'
              have r13 : rcT n z3 nm2 (A.flatten ++ (q0 :: L ++ [p])) (ntS T2 (nl T2.2.2.1 (lb q) (lb p))) := by
                refine ⟨g1, nl_b24 t2 hq24 p24, t3, t4, t5, fun v hv => ?_, fun k hk => ?_, t8⟩
                · rw [(g2 11004 (by unfold cP; omega)).2.1]
                  exact t6 v hv
                · rw [(g2 11003 (by unfold cP; omega)).2.1]
                  exact t7 k hk
              have hl3 : lkS (nl T2.2.2.1 (lb q) (lb p)) A (q0 :: L ++ [p]) := by
                rw [r3]
                refine lk_more ?_ hq h2
                rw [List.append_assoc]
                exact ⟨t4.2.1, fun p hp => (t4.2.2.1 p hp).2⟩
              have ha3 : z3.1 11005 = nI j := (g2 11005 (by unfold cP; omega)).1.trans ha2
              refine u_X9_readDiagram_2 ?_; unfold cm_X9_readDiagram_2
              refine c3 z3 nm2 A (q0 :: L ++ [p]) _ x3 (nI (lb p)) _ j k1 (fr_tr hf2 (fr_mono (fun g hg => Or.inl hg) g2)) ha3 k2 r13 hl3 (r2.trans h3) ⟨hx3, p, ?_, rfl⟩ h5 hRe2
              have hll : (L.append [p]).length = L.length + 1 := List.length_append
              show (q0 :: L ++ [p])[(L.append [p]).length]? = some p
              rw [hll]
              rw [List.getElem?_append_right (show (q0 :: L).length ≤ L.length + 1 from Nat.le_refl _), show L.length + 1 - (q0 :: L).length = 0 from Nat.sub_self _]
              rfl
          rcases e2 with ⟨hw, -, e2⟩ | ⟨T2, r2, r3, e2⟩
          · have hw : w = -1 := hw
            rw [hw]
            refine w_ifT rfl (bad z2 a (by omega) ?_)
            rcases e2 with ⟨q1, q2⟩ | ⟨x, q1, q2⟩
            · rw [q1] at hRe
              have hRe : (if nm.length = 12 then Sum.inl a else rdF9 bt n m j (nm ++ [(nI k, s, a)]) A (L ++ [(nm.length, u)])) = R := hRe
              rw [if_pos q2] at hRe
              exact hRe.symm
            · rw [q1] at hRe
              have hRe : (if (x, u) ∈ A.flatten ++ L ∨ (nm.getD x (0, 0, 0)).2.1 ≠ s then Sum.inl a else rdF9 bt n m j nm A (L ++ [(x, u)])) = R := hRe
              unfold sgV at q2
              rw [if_pos q2] at hRe
              exact hRe.symm
          · rcases e2 with ⟨q1, q2, q3, q4⟩ | ⟨x, q1, q2, q3, q4⟩
            · rw [q1] at hRe
              have hRe : (if nm.length = 12 then Sum.inl a else rdF9 bt n m j (nm ++ [(nI k, s, a)]) A (L ++ [(nm.length, u)])) = R := hRe
              rw [if_neg q2] at hRe
              exact good _ (nm.length, u) T2 q3 r2 r3 q4 hRe
            · rw [q1] at hRe
              have hRe : (if (x, u) ∈ A.flatten ++ L ∨ (nm.getD x (0, 0, 0)).2.1 ≠ s then Sum.inl a else rdF9 bt n m j nm A (L ++ [(x, u)])) = R := hRe
              unfold sgV at q2
              rw [if_neg q2] at hRe
              exact good _ (x, u) T2 q3 r2 r3 q4 hRe
  obtain ⟨T0, t1, t2⟩ := hT
  refine e_X9_readDiagram ?_
  refine u_X9_readDiagram_0 ?_; unfold cm_X9_readDiagram_0
  refine w_cs0 (tc_fillA ch_11003 (by omega)) ?_
  rintro z1 ⟨a1, a2⟩
  refine w_cs0 (tc_fillA ch_11004 (by omega)) ?_
  rintro z2 ⟨b1, b2⟩
  have t12 : cAt z2 4000 T0 := cAt_fr b2 (fun g hg h9 => by unfold cP at hg; omega) (cAt_fr a2 (fun g hg h9 => by unfold cP at hg; omega) t1)
  refine w_cs0 (tc_empty t12) ?_
  rintro z3 ⟨d1, d2⟩
  have hf3 : fr rdP y z3 := fr_tr (fr_mono (fun g hg => by rw [hg]; unfold rdP; omega) a2) (fr_tr (fr_mono (fun g hg => by rw [hg]; unfold rdP; omega) b2) (fr_mono (fun g hg => Or.inl hg) d2))
  refine w_wrF (c1 400 0 (n + 1) (usF z3 11005 0) [] [] [] (0, 0, T0.2.2) (-1) (-1) 0 (by omega) (Nat.le_refl _) (by omega) (fr_F2 hf3 (by unfold rdP; omega)) po_usF_at (Nat.zero_le _) ?_ ⟨fun v hv => absurd hv (Nat.not_lt_zero _), fun i p q e => by rw [List.getElem?_nil] at e; cases e⟩ rfl rfl (by show 0 + 1 ≤ 6; omega) hR)
  refine ⟨cAt_fr (P := fun g => g = 11005) (fr_F rfl) (fun g hg h9 => by unfold cP at hg; omega) d1, t2, rfl, ⟨Nat.zero_le _, List.nodup_nil, fun p hp => (by cases hp), fun e he => (by cases he)⟩, fun x hx => absurd hx (Nat.not_lt_zero _), fun v hv => Or.inl ⟨?_, fun h => (by cases h)⟩, fun k hk => ?_, fun x hx => absurd hx (Nat.not_lt_zero _)⟩
  · show z3.2.1 11004 v = -1
    rw [(d2 11004 (by unfold cP; omega)).2.1]
    exact b1 v hv
  · show z3.2.1 11003 k = -1
    rw [(d2 11003 (by unfold cP; omega)).2.1, (b2 11003 (by omega)).2.1]
    exact a1 k hk
end XDI
end
section
/-! 99zzzzzzzzzzt.xdi2 -/
/-! both sides: diagram -/
/-- how the class's diagram ends; R what was read -/
def dgQ (St : plT) (y : ow_MS) (t : Nat) (R : rtO) (r : Nat × Int32 × ow_MS) : Prop := r.1 = 3 ∧ r.2.2 = y ∧ allF St ∨ r.1 = 0 ∧ r.2.2.1 11001 = 0 ∧ ∃ e, lstF St e ∧ match R with
  | .inl j => r.2.1 = -1 - nI j ∧ relC r.2.2 St
  | .inr (nm, A) => (∃ a, lonA nm A.flatten a ∧ r.2.1 = -1 - nI a ∧ relC r.2.2 St) ∨ (∀ k, ¬ lonK nm A.flatten k) ∧ ∃ T, isoN A (sgN nm) (fun x => x) T ∧ vn T.1 T.2.2.1 ∧ pm1 T ∧ (nt_plane T = false ∧ r.2.1 = -1 - nI t ∧ relC r.2.2 St ∨ nt_plane T = true ∧ ∃ y3, dgC y3 ∧ relC y3 St ∧ cKp y3 e A (sgN nm) r.2)
section XD2
variable {X : (Nat → Nat → Int32) → Prop} {z y : ow_MS} {St : plT} {vl : Nat → Nat} {bt : Nat → Int32} {t : Nat} {R : rtO}
theorem xc_diagram (hN : gM y) (hC : relC y St) (hS : okS St) (ht : t ≤ 400) (h11 : y.1 11001 = nI t) (hbt : ∀ k, k < t → y.2.1 11002 k = bt k) (hR : rdF9 bt t (t + 1) 0 [] [] [] = R) : Te (fun K => ce_X11_diagram vl K 0 y) (dgQ St y t R) := by
  -- the end
  have c1 : ∀ (y0 z : ow_MS) (e : Nat) (x2 : Int32), lstF St e → gM z → relC z St → (x2 ≠ -1 → ∀ r : Nat × Int32 × ow_MS, r.1 = 0 → r.2.2.1 11001 = 0 → r.2.1 = -1 - x2 → relC r.2.2 St → dgQ St y0 t R r) → (x2 = -1 → ∃ T A sg, cAt z 4000 T ∧ nv T ∧ isoN A sg (fun x => x) T ∧ pm1 T ∧ nt_plane T = true ∧ ∀ (r : Nat × Int32 × ow_MS) y3, r.1 = 0 → r.2.2.1 11001 = 0 → dgC y3 → relC y3 St → cKp y3 e A sg r.2 → dgQ St y0 t R r) → Tt (fun K t => c_X11_diagram vl K t 1 (nI e) x2 0 z) (dgQ St y0 t R) := by
    intro y0 z e x2 he h1 h2 hbad hgood
    refine u_X11_diagram_1 ?_; unfold cm_X11_diagram_1
    have f1 : fr (fun g => g = 11001) z (usF z (0 + 11000 + 1) 0) := fr_F rfl
    have hN1 : gN (usF z (0 + 11000 + 1) 0) := gN_F (g := 11001) (far_cP (by omega)) h1.1
    have hC1 : relC (usF z (0 + 11000 + 1) 0) St := relC_fr f1 (fun q hq h9 => by unfold cW at hq; omega) h2
    have t1 : (usF z (0 + 11000 + 1) 0).1 11001 = 0 := po_usF_at
    refine w_wrF (w_if (fun ex => ?_) (fun ex => w_some (hbad ex _ rfl t1 rfl hC1)))
    obtain ⟨T, A, sg, t2, t3, t4, t5, t6, hg⟩ := hgood ex
    refine w_cs1 (tc_keep hN1 he.1 (cAt_fr f1 (fun g hg h9 => by unfold cP at hg; omega) t2) t3) ?_
    rintro r z2 ⟨q0, q1, q2, ⟨Cs, os, q3, q4⟩, q5, -⟩
    refine w_some (hg (0, r, z2) _ rfl ?_ hN1.1 hC1 ⟨q0, q1, q2, ⟨T, _, Cs, os, t3, t5, isoV_of t4 t3.1, t6, q3, q4⟩, q5⟩)
    show z2.1 11001 = 0
    rw [(q2 11001 (by unfold uP; omega)).1]
    exact t1
  refine e_X11_diagram ?_
  refine u_X11_diagram_0 ?_; unfold cm_X11_diagram_0
  refine w_tc1 (xc_free hN.1.1 hC hS) ?_ ?_
  · rintro v y1 ⟨h2, rfl⟩
    rcases h2 with h2 | ⟨-, e, rfl, he⟩
    · exact absurd (show (0 : Nat) = 3 from h2.1) (by decide)
    · refine w_cs1 (te_and (tc_readDiagram h11 ht (hN.1.2.1 4000 nH4)) (xc_readDiagram h11 ht (hN.1.2.1 4000 nH4) hbt hR)) ?_
      rintro v y2 ⟨⟨f2, hT2, -⟩, e2⟩
      dsimp only at f2 hT2
      have u2 : ∀ g, rdP g → 4001 ≤ g ∧ g ≤ 4011 ∨ g = 6001 ∨ g = 6002 ∨ 11001 ≤ g ∧ g ≤ 11006 := fun g hg => by unfold rdP cP at hg; omega
      have hM2 : gM y2 := ⟨gN_d f2 u2 hT2 hN.1, tbs_fr f2 (fun g hg => by have := u2 g hg; omega) hN.2⟩
      have hC2 : relC y2 St := relC_fr f2 (fun q hq h9 => by have := u2 q h9; unfold cW at hq; omega) hC
      have en2 : y2.1 11001 = nI t := by
        rw [(f2 11001 (by unfold rdP cP; omega)).1]
        exact h11
      -- a fault
      have fault : ∀ j : Nat, j ≤ t → v = nI j → (∀ r : Nat × Int32 × ow_MS, r.1 = 0 → r.2.2.1 11001 = 0 → r.2.1 = -1 - nI j → relC r.2.2 St → dgQ St y1 t R r) → Tt (fun K k => if v = -1 then cs1 (ce_X4_isPlane vl K (0 + 6000) (0 + 4000) y2) fun v7 z6 => (if v7 = 0 then rdF z6 ((0 + 11000) + 1) fun v8 => c_X11_diagram vl K k 1 (nI e) v8 0 z6 else c_X11_diagram vl K k 1 (nI e) v 0 z6) else c_X11_diagram vl K k 1 (nI e) v 0 y2) (dgQ St y1 t R) := fun j hj hv hq => by
        rw [hv]
        exact w_ifF (nI_nm1 (by omega)) (c1 y1 y2 e (nI j) he hM2 hC2 (fun _ => hq) (fun h9 => absurd h9 (nI_nm1 (by omega))))
      cases hRR : R with
      | inl j =>
        rw [hRR] at e2 fault
        obtain ⟨e2, e3⟩ := e2
        have e2 : v = nI j := e2
        exact fault j e3 e2 (fun r r1 r2 r3 r4 => Or.inr ⟨r1, r2, e, he, r3, r4⟩)
      | inr q =>
        obtain ⟨nm, A⟩ := q
        rw [hRR] at e2 fault c1
        rcases e2 with ⟨a, a1, a2, a3⟩ | ⟨a1, a2, T, a3, a4, a5, a6⟩
        · have a3 : v = nI a := a3
          exact fault a (by omega) a3 (fun r r1 r2 r3 r4 => Or.inr ⟨r1, r2, e, he, Or.inl ⟨a, a2, r3, r4⟩⟩)
        · have a2 : v = -1 := a2
          have a3 : cAt y2 4000 T := a3
          rw [a2]
          refine w_ifT rfl (w_cs1 (tc_plane (f := 6000) nH4 (Or.inl rfl) (by omega) a3 a4.2.2.1 a4.1 a4.2.1) ?_)
          rintro w y3 ⟨e3, f3⟩
          dsimp only at f3
          have e3 : w = zI (nt_plane T) := e3
          have u3 : ∀ g, (cQ 4000 g ∨ cF 6000 g) → 4001 ≤ g ∧ g ≤ 4011 ∨ g = 6001 ∨ g = 6002 ∨ 11001 ≤ g ∧ g ≤ 11006 := fun g hg => by unfold cQ cF at hg; omega
          have t13 : cAt y3 4000 T := cAt_fr f3 (fun g hg h9 => by unfold cP at hg; unfold cQ cF at h9; omega) a3
          have hM3 : gM y3 := ⟨gN_d f3 u3 ⟨T, t13, a4.2.2.1⟩ hM2.1, tbs_fr f3 (fun g hg => by have := u3 g hg; omega) hM2.2⟩
          have hC3 : relC y3 St := relC_fr f3 (fun q hq h9 => by have := u3 q h9; unfold cW at hq; omega) hC2
          have en3 : y3.1 11001 = nI t := by
            rw [(f3 11001 (by unfold cQ cF; omega)).1]
            exact en2
          rw [e3]
          cases hpl : nt_plane T with
          | false =>
            refine w_ifT rfl (w_rdF en3 (c1 y1 y3 e (nI t) he hM3 hC3 (fun _ r r1 r2 r3 r4 => ?_) (fun h9 => absurd h9 (nI_nm1 (by omega)))))
            exact Or.inr ⟨r1, r2, e, he, Or.inr ⟨a1, T, a5, a4.1, a6, Or.inl ⟨hpl, r3, r4⟩⟩⟩
          | true =>
            refine w_ifF (by decide) (c1 y1 y3 e (-1) he hM3 hC3 (fun h9 => absurd rfl h9) (fun _ => ⟨T, A, sgN nm, t13, a4, a5, a6, hpl, fun r y5 r1 r2 r3 r4 r5 => ?_⟩))
            exact Or.inr ⟨r1, r2, e, he, Or.inr ⟨a1, T, a5, a4.1, a6, Or.inr ⟨hpl, y5, r3, r4, r5⟩⟩⟩
  · rintro a v y1 ha ⟨h2, rfl⟩
    rcases h2 with h2 | h2
    · exact w_some (Or.inl ⟨h2.1, rfl, h2.2⟩)
    · exact absurd h2.1 ha
/-- how the reference's diagram ends; T the net of what was read -/
def dgR (St : plT) (X : (Nat → Nat → Int32) → Prop) (z : ow_MS) (t : Nat) (R : rtO) (T : ow_NT) (r : Int32 × ow_MS) : Prop := rFl X z 1 r ∧ allF St ∨ r.2.1 1 = 0 ∧ r.2.1 11 = 0 ∧ ∃ e, lstF St e ∧ match R with
  | .inl j => r.1 = -1 - nI j ∧ relR r.2 St
  | .inr (nm, A) => A.length ≤ 6 ∧ A ≠ [] ∧ ((∃ a, lonA nm A.flatten a ∧ r.1 = -1 - nI a ∧ relR r.2 St) ∨ (∀ k, ¬ lonK nm A.flatten k) ∧ (nt_plane T = false ∧ r.1 = -1 - nI t ∧ relR r.2 St ∨ nt_plane T = true ∧ ∃ z3, relR z3 St ∧ rKp X z3 e A (sgN nm) r))
def dgF (g : Nat) : Prop := frV g ∨ g = 11 ∨ rPk g
theorem xq_diagram {T : ow_NT} (h : gI X z) (hRl : relR z St) (ht : t ≤ 400) (h11 : z.1 11 = nI t) (hbt : ∀ k, k < t → z.2.1 10 k = bt k) (hR : rdF9 bt t (t + 1) 0 [] [] [] = R) (hT : ∀ nm A e, lstF St e → R = .inr (nm, A) → (∀ k, ¬ lonK nm A.flatten k) → isoN A (sgN nm) (fun x => x) T ∧ vn T.1 T.2.2.1 ∧ pm1 T) : Te (fun K => qe_X13_diagram K z) (fun r => fr dgF z r.2 ∧ dgR St X z t R T r) := by
  have h1 := gI_1 (c := 0) h
  have hR1 := relR_1 (c := 0) hRl
  refine e_X13_diagram ?_; unfold qm_X13_diagram_0
  refine w_wrF (w_freeX hR1 (fun hall => w_ifT rfl (w_mono (w_failX (k := 1) h1 fr_1) (fun r hr => ⟨fr_mono (fun g hg => Or.inr (Or.inr (rPs_k hg))) hr.2.2, Or.inl ⟨hr, hall⟩⟩))) (fun e he => w_ifF (rn_neg1 (by have := he.1; omega)) (w_cs1 (xr_read (z := usF z 1 0) ht h11 hbt hR) ?_)))
  rintro v z2 ⟨f2, e2⟩
  dsimp only at f2
  have hI : gI X (usF z2 11 0) := gI_t (t := 0) rfl (by omega) (gI_fr f2 (fun g hg => by unfold frV at hg; unfold per; omega) h1)
  have fz : fr dgF z (usF z2 11 0) := fr_F2 (fr_tr (fr_F (P := dgF) (Or.inr (Or.inr (Or.inl rfl)))) (fr_mono (fun g hg => Or.inl hg) f2)) (Or.inr (Or.inl rfl))
  have hR2 : relR (usF z2 11 0) St := relR_fr (P := fun g => g = 11) (fr_F rfl) (by omega) (relR_fr f2 (by unfold frV; omega) hR1)
  have z1 : (usF z2 11 0).1 1 = 0 := rf_ot (by omega) (by rw [(f2 1 (by unfold frV; omega)).1]; exact po_usF_at)
  have z11 : (usF z2 11 0).1 11 = 0 := po_usF_at
  have fault : ∀ j : Nat, j ≤ t → v = nI j → (∀ r : Int32 × ow_MS, r.2.1 1 = 0 → r.2.1 11 = 0 → r.1 = -1 - nI j → relR r.2 St → dgR St X z t R T r) → Tt (fun K _ => if v = -1 then cs1 (qe_X13_keep K (usF z2 11 0)) fun v8 z7 => some (v8, z7) else some (-1 - v, usF z2 11 0)) (fun r => fr dgF z r.2 ∧ dgR St X z t R T r) := fun j hj hv hq => by
    rw [hv]
    exact w_ifF (nI_nm1 (by omega)) (w_some ⟨fz, hq _ z1 z11 rfl hR2⟩)
  refine w_wrF ?_
  cases hRR : R with
  | inl j =>
    rw [hRR] at e2 fault
    obtain ⟨e2, e3⟩ := e2
    have e2 : v = nI j := e2
    exact fault j e3 e2 (fun r r1 r2 r3 r4 => Or.inr ⟨r1, r2, e, he, r3, r4⟩)
  | inr q =>
    obtain ⟨nm, A⟩ := q
    rw [hRR] at e2 fault
    obtain ⟨b1, b2, b3, e2⟩ := e2
    rcases e2 with ⟨a, a1, a2, a3⟩ | ⟨a1, a2, a3, a4⟩
    · have a3 : v = nI a := a3
      exact fault a (by omega) a3 (fun r r1 r2 r3 r4 => Or.inr ⟨r1, r2, e, he, b2, b3, Or.inl ⟨a, a2, r3, r4⟩⟩)
    · have hTT := hT nm A e he hRR a1
      have a4 : v = if nt_plane T = true then -1 else nI t := a4 ((fun x => x), T) hTT
      have a2 : rn_At z2 3000 A [] := a2
      have a3 : rn_sg z2 3000 A.flatten (sgN nm) := a3
      cases hpl : nt_plane T with
      | false =>
        rw [hpl] at a4
        have a4 : v = nI t := a4
        exact fault t (Nat.le_refl _) a4 (fun r r1 r2 r3 r4 => Or.inr ⟨r1, r2, e, he, b2, b3, Or.inr ⟨a1, Or.inl ⟨hpl, r3, r4⟩⟩⟩)
      | true =>
        rw [hpl] at a4
        have a4 : v = -1 := a4
        rw [a4]
        have hF := hTT.1.1
        have hlen := hTT.1.2.1
        have hc12 := hTT.1.2.2.1
        refine w_ifT rfl (w_mono (w_keepX (z0 := usF z2 11 0) hI hR2 he z1 fr_rf (fr_At (P := fun g => g = 11) (fr_F rfl) (fun g hg => by omega) a2) a3 hF (by omega) b2) (fun r hr => ⟨fr_tr fz (fr_mono (fun g hg => Or.inr (Or.inr hg)) hr.2.2.2.1), Or.inr ⟨hr.2.2.1, ?_, e, he, b2, b3, Or.inr ⟨a1, Or.inr ⟨hpl, usF z2 11 0, hR2, hr⟩⟩⟩⟩))
        rw [(hr.2.2.2.1 11 (by unfold rPk rSc; omega)).1]
        exact z11
/-- diagram answers the same -/
theorem b_diagram (h : rel1 X z y St) (hM : gM y) (hT : relT z y) : Te (fun K => qe_X13_diagram K z) (fun rr => Te (fun K => ce_X11_diagram vl K 0 y) (fun rc => (∃ St', rel1 X rr.2 rc.2.2 St') ∧ gM rc.2.2 ∧ relT rr.2 rc.2.2 ∧ fr dgF z rr.2 ∧ fr diP y rc.2.2 ∧ ansI [(1, 3)] rr rc)) := by
  obtain ⟨t, t1, t2, t3, t4⟩ := id hT
  obtain ⟨R, hR⟩ : ∃ R, rdF9 (fun k => z.2.1 10 k) t (t + 1) 0 [] [] [] = R := ⟨_, rfl⟩
  have hbc : ∀ k, k < t → y.2.1 11002 k = (fun k => z.2.1 10 k) k := fun k hk => (t4 k hk).symm
  refine te_sw (te_and (tc_diagram hM ⟨t, t1, t3⟩) (xc_diagram (St := St) hM h.2.2.2.1 h.2.2.2.2 t1 t3 hbc hR)) (fun rc ⟨⟨g1, g2, g3⟩, g4⟩ => ?_)
  have hTe : ∃ T, ∀ nm A e, lstF St e → R = .inr (nm, A) → (∀ k, ¬ lonK nm A.flatten k) → (isoN A (sgN nm) (fun x => x) T ∧ vn T.1 T.2.2.1 ∧ pm1 T) ∧ (nt_plane T = false ∧ rc.2.1 = -1 - nI t ∧ relC rc.2.2 St ∨ nt_plane T = true ∧ ∃ y3 e', lstF St e' ∧ dgC y3 ∧ relC y3 St ∧ cKp y3 e' A (sgN nm) rc.2) := by
    rcases g4 with ⟨-, -, c1⟩ | ⟨-, -, e, he, hc⟩
    · exact ⟨(0, 0, (fun x => x, fun x => x), fun _ => 0), fun nm A e he => (all_lst c1 he).elim⟩
    · cases hRR : R with
      | inl j => exact ⟨(0, 0, (fun x => x, fun x => x), fun _ => 0), fun nm A e _ e9 => by cases e9⟩
      | inr q =>
        obtain ⟨nm, A⟩ := q
        rw [hRR] at hc
        rcases hc with ⟨a, a1, -⟩ | ⟨-, T, a2, a3, a4, a5⟩
        · refine ⟨(0, 0, (fun x => x, fun x => x), fun _ => 0), fun nm' A' e _ e9 hno => ?_⟩
          cases e9
          obtain ⟨⟨k, k1, -⟩, -⟩ := a1
          exact absurd k1 (hno k)
        · refine ⟨T, fun nm' A' e' _ e9 _ => ?_⟩
          cases e9
          refine ⟨⟨a2, a3, a4⟩, a5.imp id ?_⟩
          rintro ⟨b1, y3, b2, b3, b4⟩
          exact ⟨b1, y3, e, he, b2, b3, b4⟩
  obtain ⟨T, hT9⟩ := hTe
  refine w_monoE (te_and (tp_diagram h.1) (xq_diagram (T := T) h.1 h.2.2.1 t1 t2 (fun k _ => rfl) hR (fun nm A e he e9 hno => (hT9 nm A e he e9 hno).1))) (fun rr ⟨r1, r2, r3⟩ => ?_)
  have hz0 : ∀ {z1 y1 : ow_MS}, z1.1 11 = 0 → y1.1 11001 = 0 → relT z1 y1 := fun e1 e2 => ⟨0, by omega, e1, e2, fun k hk => absurd hk (Nat.not_lt_zero _)⟩
  have hN := g1.1
  have okk := h.2.2.2.2
  rcases r3 with ⟨r3, r4⟩ | ⟨r3, r4, e, he, r5⟩
  · rcases g4 with ⟨c1, c2, -⟩ | ⟨-, -, e, he, -⟩
    · refine ⟨⟨St, r1, hN, relR_fr r3.2.2 (by unfold rPs rSc; omega) h.2.2.1, by rw [c2]; exact h.2.2.2.1, okk⟩, g1, ⟨t, t1, ?_, by rw [c2]; exact t3, fun k hk => ?_⟩, r2, g3, Or.inr ⟨1, 3, by simp, r3.2.1, c1⟩⟩
      · rw [(r3.2.2 11 (by unfold rPs rSc; omega)).1]
        exact t2
      · rw [c2, (r3.2.2 10 (by unfold rPs rSc; omega)).2.1]
        exact t4 k hk
    · exact (all_lst r4 he).elim
  · rcases g4 with ⟨-, -, c1⟩ | ⟨c0, c1, e', he', hc⟩
    · exact (all_lst c1 he).elim
    · have same : rr.1 = rc.2.1 → relR rr.2 St → relC rc.2.2 St → (∃ St', rel1 X rr.2 rc.2.2 St') ∧ gM rc.2.2 ∧ relT rr.2 rc.2.2 ∧ fr dgF z rr.2 ∧ fr diP y rc.2.2 ∧ ansI [(1, 3)] rr rc := fun q1 q2 q3 => ⟨⟨St, r1, hN, q2, q3, okk⟩, g1, hz0 r4 c1, r2, g3, Or.inl ⟨r3, c0, q1⟩⟩
      cases hRR : R with
      | inl j =>
        rw [hRR] at r5 hc
        exact same (r5.1.trans hc.1.symm) r5.2 hc.2
      | inr q =>
        obtain ⟨nm, A⟩ := q
        rw [hRR] at r5 hc
        obtain ⟨b2, b3, r5⟩ := r5
        rcases r5 with ⟨a, a1, a2, a3⟩ | ⟨a1, a2⟩
        · rcases hc with ⟨a', k1, k2, k3⟩ | ⟨k1, -⟩
          · have ea := lonA_uni a1 k1
            subst ea
            exact same (a2.trans k2.symm) a3 k3
          · obtain ⟨⟨k, k2, -⟩, -⟩ := a1
            exact absurd k2 (k1 k)
        · obtain ⟨-, hT8⟩ := hT9 nm A e he hRR a1
          rcases a2 with ⟨p1, p2, p3⟩ | ⟨p1, z3, p2, p3⟩
          · rcases hT8 with ⟨-, m2, m3⟩ | ⟨m1, -⟩
            · exact same (p2.trans m2.symm) p3 m3
            · rw [p1] at m1
              cases m1
          · rcases hT8 with ⟨m1, -⟩ | ⟨-, y3, e2, he2, m2, m3, m4⟩
            · rw [p1] at m1
              cases m1
            · have ef := lst_uni2 he2 he
              subst ef
              obtain ⟨k1, A', sg', k2, k3, k4⟩ := kp_join m2 m3 p2 okk he2 b2 b3 m4 p3
              exact ⟨⟨_, r1, hN, k3, k2, k4⟩, g1, hz0 r4 c1, r2, g3, Or.inl ⟨r3, c0, k1.symm⟩⟩
/-- where only the tape's length changed besides what rel2 doesn't speak of -/
theorem rel2_t {P Q : Nat → Prop} {z1 y1 : ow_MS} (hz : fr P z z1) (hy : fr Q y y1) (h1 : ∀ g, P g → g = 11 ∨ ¬ r2Z g) (h2 : ∀ g, Q g → g = 11001 ∨ g = 11002 ∨ ¬ r2Y g) (hT : relT z1 y1) (h : rel2 z y) : rel2 z1 y1 := by
  obtain ⟨-, k2, k3, ⟨Ms, k4, k5, k6⟩, Ns, k7, k8, k9⟩ := h
  have no : ∀ g, r2Z g → g ≠ 11 → ¬ P g := fun g g1 g2 h9 => (h1 g h9).elim g2 (fun h8 => h8 g1)
  have no2 : ∀ g, r2Y g → g ≠ 11001 → g ≠ 11002 → ¬ Q g := fun g g1 g2 g3 h9 => (h2 g h9).elim g2 (fun h8 => h8.elim g3 (fun h7 => h7 g1))
  refine ⟨hT, relB_k hz hy ⟨no _ (by unfold r2Z; omega) (by omega), no _ (by unfold r2Z; omega) (by omega), no _ (by unfold r2Z; omega) (by omega)⟩ ⟨no2 _ (by unfold r2Y; omega) (by omega) (by omega), no2 _ (by unfold r2Y; omega) (by omega) (by omega), no2 _ (by unfold r2Y; omega) (by omega) (by omega)⟩ k2, brC_fr hy ⟨no2 _ (by unfold r2Y; omega) (by omega) (by omega), no2 _ (by unfold r2Y; omega) (by omega) (by omega), no2 _ (by unfold r2Y; omega) (by omega) (by omega)⟩ k3, ⟨Ms, rlR_k hz ⟨no _ (by unfold r2Z; omega) (by omega), no _ (by unfold r2Z; omega) (by omega), no _ (by unfold r2Z; omega) (by omega)⟩ k4, rlC_k hy (fun q hq => no2 q (by unfold cV at hq; unfold r2Y; omega) (by unfold cV at hq; omega) (by unfold cV at hq; omega)) k5, k6⟩, Ns, rlR_k hz ⟨no _ (by unfold r2Z; omega) (by omega), no _ (by unfold r2Z; omega) (by omega), no _ (by unfold r2Z; omega) (by omega)⟩ k7, rlC_k hy (fun q hq => no2 q (by unfold cV at hq; unfold r2Y; omega) (by unfold cV at hq; omega) (by unfold cV at hq; omega)) k8, k9⟩
theorem c_diagram (h : rel3 X z y) : Te (fun K => qe_X13_diagram K z) (fun rr => Te (fun K => ce_X11_diagram vl K 0 y) (fun rc => rel3 X rr.2 rc.2.2 ∧ ansI [(1, 3)] rr rc)) := by
  obtain ⟨⟨St, k⟩, hM, h2⟩ := id h
  exact w_monoE (b_diagram k hM h2.1) (fun rr hr => w_monoE hr (fun rc ⟨b1, b2, b3, b4, b5, b6⟩ => ⟨⟨b1, b2, rel2_t b4 b5 (fun g hg => by unfold dgF frV rPk rSc at hg; unfold r2Z; omega) (fun g hg => by unfold diP uP at hg; unfold r2Y; omega) b3 h2⟩, b6⟩))
end XD2
end
section
/-! 99zzzzzzzzzzu.xord -/
/-! the order of codes on both sides; collect, each code once -/
def sts (Cs : List cdT) (os : List Nat) : Prop := ∀ i j, i < j → j < os.length → cmpC (atC Cs os i) (atC Cs os j) < 0
theorem sts_ins {Cs : List cdT} {os : List Nat} {B : cdT} {k : Nat} (hk : k ≤ os.length) (hl : Cs.length = os.length) (hos : ∀ (j s : Nat), os[j]? = some s → s < Cs.length) (hs : sts Cs os) (h1 : ∀ i, i < k → cmpC (atC Cs os i) B < 0) (h2 : ∀ i, k ≤ i → i < os.length → cmpC B (atC Cs os i) < 0) : sts (Cs ++ [B]) (insO os k os.length) := by
  intro i j hij hj
  rw [insO_len hk] at hj
  rw [atC_ins hk hl hos (by omega), atC_ins hk hl hos (by omega)]
  by_cases a1 : j < k
  · rw [if_pos a1, if_pos (by omega)]
    exact hs i j hij (by omega)
  · rw [if_neg a1]
    by_cases a2 : j = k
    · rw [if_pos a2, if_pos (by omega)]
      exact h1 i (by omega)
    · rw [if_neg a2]
      by_cases a3 : i < k
      · rw [if_pos a3]
        exact hs i (j - 1) (by omega) (by omega)
      · rw [if_neg a3]
        by_cases a4 : i = k
        · rw [if_pos a4]
          exact h2 (j - 1) (by omega) (by omega)
        · rw [if_neg a4]
          exact hs (i - 1) (j - 1) (by omega) (by omega)
/-- the signs of a net that was loaded -/
def sgR (c : Nat) (sg : Nat → Bool) (R : ow_NT) : Prop := R.1 = c ∧ ∀ x, x < c → R.2.2.2 x = if sg x then -1 else 1
theorem lex_in {sg sg' : Nat → Bool} {b : Nat} {RA RB UA UB : List Nat} : ∀ (L L' : List vT), (∀ p, p ∈ L → b ≤ p.1 ∧ p.2 < 2) → (∀ p, p ∈ L' → b ≤ p.1 ∧ p.2 < 2) → (L = L' → (lexD RA RB < 0 ↔ lexD UA UB < 0)) → (lexD (L.map (tkv sg) ++ 0 :: RA) (L'.map (tkv sg') ++ 0 :: RB) < 0 ↔ lexD (L.map (clc sg b) ++ 0 :: UA) (L'.map (clc sg' b) ++ 0 :: UB) < 0)
  | [], [], _, _, h => by
    show (if (0 : Nat) = 0 then lexD RA RB else ((0 : Nat) : Int) - ((0 : Nat) : Int)) < 0 ↔ (if (0 : Nat) = 0 then lexD UA UB else ((0 : Nat) : Int) - ((0 : Nat) : Int)) < 0
    rw [if_pos rfl, if_pos rfl]
    exact h rfl
  | [], q :: L', _, h2, _ => by
    have hq := h2 q List.mem_cons_self
    have e1 : 0 < tkv sg' q := by unfold tkv; omega
    have e2 : 0 < clc sg' b q := by unfold clc; omega
    show (if (0 : Nat) = tkv sg' q then lexD RA _ else ((0 : Nat) : Int) - (tkv sg' q : Int)) < 0 ↔ (if (0 : Nat) = clc sg' b q then lexD UA _ else ((0 : Nat) : Int) - (clc sg' b q : Int)) < 0
    rw [if_neg (by omega), if_neg (by omega)]
    omega
  | p :: L, [], h1, _, _ => by
    have hp := h1 p List.mem_cons_self
    have e1 : 0 < tkv sg p := by unfold tkv; omega
    have e2 : 0 < clc sg b p := by unfold clc; omega
    show (if tkv sg p = 0 then lexD _ RB else (tkv sg p : Int) - ((0 : Nat) : Int)) < 0 ↔ (if clc sg b p = 0 then lexD _ UB else (clc sg b p : Int) - ((0 : Nat) : Int)) < 0
    rw [if_neg (by omega), if_neg (by omega)]
    omega
  | p :: L, q :: L', h1, h2, h => by
    have hp := h1 p List.mem_cons_self
    have hq := h2 q List.mem_cons_self
    have ih := lex_in (sg := sg) (sg' := sg') (b := b) (RA := RA) (RB := RB) (UA := UA) (UB := UB) L L' (fun r hr => h1 r (List.mem_cons_of_mem _ hr)) (fun r hr => h2 r (List.mem_cons_of_mem _ hr))
    show (if tkv sg p = tkv sg' q then lexD (L.map (tkv sg) ++ 0 :: RA) (L'.map (tkv sg') ++ 0 :: RB) else (tkv sg p : Int) - (tkv sg' q : Int)) < 0 ↔ (if clc sg b p = clc sg' b q then lexD (L.map (clc sg b) ++ 0 :: UA) (L'.map (clc sg' b) ++ 0 :: UB) else (clc sg b p : Int) - (clc sg' b q : Int)) < 0
    have d1 : tkv sg p = clc sg b p + 4 * b := by unfold tkv clc; omega
    have d2 : tkv sg' q = clc sg' b q + 4 * b := by unfold tkv clc; omega
    by_cases e : tkv sg p = tkv sg' q
    · rw [if_pos e, if_pos (by omega)]
      refine ih (fun eL => h ?_)
      have : p = q := by
        unfold tkv at e
        have s1 : (if sg p.1 = true then 1 else 0) < 2 := by split <;> omega
        have s2 : (if sg' q.1 = true then 1 else 0) < 2 := by split <;> omega
        exact Prod.ext (by omega) (by omega)
      rw [this, eL]
    · rw [if_neg e, if_neg (by omega)]
      omega
theorem lex_tu {sg sg' : Nat → Bool} : ∀ (A B : rn_L) (b : Nat) (D : rn_L), bsO b D A → bsO b D B → (∀ p, p ∈ A.flatten → p.2 < 2) → (∀ p, p ∈ B.flatten → p.2 < 2) → (lexD (tk sg A) (tk sg' B) < 0 ↔ lexD (ucd sg b D A) (ucd sg' b D B) < 0)
  | [], B, b, D, _, _, _, _ => by
    show -(((tk sg' B).length : Nat) : Int) < 0 ↔ -(((ucd sg' b D B).length : Nat) : Int) < 0
    rw [tk_len, ucd_len]
  | L :: A, [], b, D, _, _, _, _ => by
    have e1 : tk sg (L :: A) ≠ [] := fun e => by
      have := congrArg List.length e
      rw [tk_len] at this
      exact absurd this (by simp)
    have e2 : ucd sg b D (L :: A) ≠ [] := fun e => by
      have := congrArg List.length e
      rw [ucd_len] at this
      exact absurd this (by simp)
    obtain ⟨x, X, ex⟩ := List.exists_cons_of_ne_nil e1
    obtain ⟨u, U, eu⟩ := List.exists_cons_of_ne_nil e2
    rw [ex, eu]
    show (((x :: X).length : Nat) : Int) < 0 ↔ (((u :: U).length : Nat) : Int) < 0
    omega
  | L :: A, L' :: B, b, D, h1, h2, h3, h4 => by
    obtain ⟨a1, a2⟩ := h1
    obtain ⟨b1, b2⟩ := h2
    have t1 : tk sg (L :: A) = L.map (tkv sg) ++ 0 :: tk sg A := by
      show (L.map (tkv sg) ++ [0]) ++ tk sg A = _
      rw [List.append_assoc]
      rfl
    have t2 : tk sg' (L' :: B) = L'.map (tkv sg') ++ 0 :: tk sg' B := by
      show (L'.map (tkv sg') ++ [0]) ++ tk sg' B = _
      rw [List.append_assoc]
      rfl
    rw [t1, t2]
    show _ ↔ lexD (L.map (clc sg b) ++ 0 :: ucd sg (nxb b (D ++ [L])) (D ++ [L]) A) (L'.map (clc sg' b) ++ 0 :: ucd sg' (nxb b (D ++ [L'])) (D ++ [L']) B) < 0
    refine lex_in L L' (fun p hp => ⟨a1 p hp, h3 p (List.mem_append_left _ hp)⟩) (fun p hp => ⟨b1 p hp, h4 p (List.mem_append_left _ hp)⟩) (fun e => ?_)
    subst e
    exact lex_tu A B _ _ a2 b2 (fun p hp => h3 p (List.mem_append_right _ hp)) (fun p hp => h4 p (List.mem_append_right _ hp))
theorem vOf_tk {sg : Nat → Bool} : ∀ A : rn_L, vOf (tk sg A) = A.flatten.length
  | [] => rfl
  | L :: A => by
    have h1 := vOf_tk (sg := sg) A
    have t1 : tk sg (L :: A) = L.map (tkv sg) ++ 0 :: tk sg A := by
      show (L.map (tkv sg) ++ [0]) ++ tk sg A = _
      rw [List.append_assoc]
      rfl
    have h2 : (L.map (tkv sg)).countP (fun t => decide (0 < t)) = L.length := by
      rw [List.countP_eq_length.mpr, List.length_map]
      intro t ht
      obtain ⟨p, -, rfl⟩ := List.mem_map.mp ht
      refine decide_eq_true ?_
      unfold tkv
      omega
    unfold vOf at h1 ⊢
    rw [t1, List.countP_append, h2, List.countP_cons, h1, List.flatten_cons, List.length_append]
    simp
/-- the lesser diagram on both sides -/
theorem lsr_cmp {sg sg' : Nat → Bool} {A B : rn_L} {c c' : Nat} (hA : okL A c) (hB : okL B c') : lsr (tk sg A) (tk sg' B) = true ↔ cmpC (clC sg A) (clC sg' B) < 0 := by
  have l1 := okF_len hA.1
  have l2 := okF_len hB.1
  unfold lsr cmpC
  rw [vOf_tk, vOf_tk]
  show (if A.flatten.length = B.flatten.length then lxb (tk sg A) (tk sg' B) else decide (A.flatten.length < B.flatten.length)) = true ↔ (if A.flatten.length / 2 = B.flatten.length / 2 then lexD (ucd sg 0 [] A) (ucd sg' 0 [] B) else ((A.flatten.length / 2 : Nat) : Int) - ((B.flatten.length / 2 : Nat) : Int)) < 0
  by_cases e : A.flatten.length = B.flatten.length
  · rw [if_pos e, if_pos (by omega), lxb_lex]
    exact lex_tu A B 0 [] hA.2.2.1 hB.2.2.1 (fun p hp => ((hA.1.2 p).mp hp).2) (fun p hp => ((hB.1.2 p).mp hp).2)
  · rw [if_neg e, if_neg (by omega), decide_eq_true_iff]
    omega
/-- a code and a row of one diagram -/
def crR (C : cdT) (r : List Nat) : Prop := ∃ A sg c, okL A c ∧ C = clC sg A ∧ r = tk sg A
theorem crR_r {C : cdT} {r r' : List Nat} (h : crR C r) (h' : crR C r') : r = r' := by
  obtain ⟨A, sg, c, h1, h2, h3⟩ := h
  obtain ⟨B, sg', c', k1, k2, k3⟩ := h'
  rw [h3, k3]
  exact (clC_tk h1 k1).mp (h2.symm.trans k2)
theorem crR_c {C C' : cdT} {r : List Nat} (h : crR C r) (h' : crR C' r) : C = C' := by
  obtain ⟨A, sg, c, h1, h2, h3⟩ := h
  obtain ⟨B, sg', c', k1, k2, k3⟩ := h'
  rw [h2, k2]
  exact (clC_tk h1 k1).mpr (h3.symm.trans k3)
theorem crR_lt {C C' : cdT} {r r' : List Nat} (h : crR C r) (h' : crR C' r') : lsr r r' = true ↔ cmpC C C' < 0 := by
  obtain ⟨A, sg, c, h1, h2, h3⟩ := h
  obtain ⟨B, sg', c', k1, k2, k3⟩ := h'
  rw [h2, h3, k2, k3]
  exact lsr_cmp h1 k1
section XCL
variable {vl : Nat → Nat} {y : ow_MS} {g g' p p' s : Nat} {Cs : List cdT} {os : List Nat} {A : rn_L} {sg : Nat → Bool} {c kd : Nat}
theorem xc_collect (hg : tH g p) (hs : s < p) (hg16 : g + 6 ≤ 16000) (hC : slC y g s (clC sg A)) (hA : okL A c) (hg' : tH g' p') (h16 : g' + 6 ≤ 16000) (hg2 : 2000 ≤ g') (hgk : ∀ q, cV g' q → q ≠ 8001 ∧ q ≠ 9001 ∧ q ≠ 10001 ∧ (q < 4001 ∨ 5011 < q)) (hk : kd < 5) (hN : gN y) (hT : tbO y g' p' Cs os) (hst : sts Cs os) : Te (fun K => ce_X6_collect vl K 12000 g (nI s) (nI kd) g' y) (fun y1 => gN y1 ∧ fr (coP g') y y1 ∧ ∃ R X os', nv R ∧ isoN A sg (fun x => x) R ∧ sgR c sg R ∧ tbO y1 g' p' (Cs ++ X) os' ∧ sts (Cs ++ X) os' ∧ (∀ C, C ∈ X → ∃ j, j < mv_cnt R.1 kd ∧ mvD kd R j C) ∧ ∀ j, j < mv_cnt R.1 kd → mvN kd R j ∨ ∃ C, mvD kd R j C ∧ (C ∈ Cs ++ X ∨ os'.length = p')) := by
  let Q0 : ow_MS → Prop := fun y1 => gN y1 ∧ fr (coP g') y y1 ∧ ∃ R X os', nv R ∧ isoN A sg (fun x => x) R ∧ sgR c sg R ∧ tbO y1 g' p' (Cs ++ X) os' ∧ sts (Cs ++ X) os' ∧ (∀ C, C ∈ X → ∃ j, j < mv_cnt R.1 kd ∧ mvD kd R j C) ∧ ∀ j, j < mv_cnt R.1 kd → mvN kd R j ∨ ∃ C, mvD kd R j C ∧ (C ∈ Cs ++ X ∨ os'.length = p')
  have hpp := tH_p hg'
  obtain ⟨T0, t01, t02⟩ := hN.2.1 16000 nH16
  have hk2 : kH 20000 := Or.inr rfl
  -- the loop over the numbers
  have main : ∀ (R : ow_NT) (F P : Nat → Int32) (z0 : ow_MS), nv R → isoN A sg (fun x => x) R → sgR c sg R → mv_mk kd R F P → cAt z0 16000 R → (∀ k, z0.2.1 18001 k = F k) → (∀ k, z0.2.1 16006 k = P k) → fr (coP g') y z0 → (∃ Q, cAt z0 17000 Q ∧ ow_b24 Q.2.2.1) → tbO z0 g' p' Cs os → (byR z0 21001 ∧ byR z0 22001 ∧ byR z0 23001) → Tt (fun K t => c_X6_collect vl K t 1 (nI s) (nI kd) 0 0 12000 g g' z0) Q0 := by
    intro R F P z0 hR hiso hsR hmk r0 r1 r2 r3 r4 r5 r6
    have hR6 : R.2.1 ≤ 6 := by have := hR.2.2.2; omega
    have c2 : ∀ (d j : Nat) (z : ow_MS) (X : List cdT) (os1 : List Nat), j + d = mv_cnt R.1 kd → cAt z 16000 R → (∀ k, z.2.1 18001 k = F k) → (∀ k, z.2.1 16006 k = P k) → fr (coP g') y z → (∃ Q, cAt z 17000 Q ∧ ow_b24 Q.2.2.1) → tbO z g' p' (Cs ++ X) os1 → sts (Cs ++ X) os1 → (byR z 21001 ∧ byR z 22001 ∧ byR z 23001) → (∀ C, C ∈ X → ∃ i, i < mv_cnt R.1 kd ∧ mvD kd R i C) → (∀ i, i < j → mvN kd R i ∨ ∃ C, mvD kd R i C ∧ (C ∈ Cs ++ X ∨ os1.length = p')) → Tt (fun K t => c_X6_collect vl K t 2 (nI s) (nI kd) (nI (mv_cnt R.1 kd)) (nI j) 12000 g g' z) Q0 := by
      intro d
      have hcb := cnt_b (c := R.1) hR.2.1 hk
      induction d with
      | zero =>
        intro j z X os1 hj q0 q1 q2 q3 q4 q5 q5s q6 q7 q8
        have ej : j = mv_cnt R.1 kd := by omega
        refine u_X6_collect_2 ?_; unfold cm_X6_collect_2
        refine w_leT (by omega) (by omega) (w_some ⟨gN_co h16 hg2 hgk q3 hN ⟨⟨R, q0, hR.2.2.1⟩, q4⟩ q6, q3, R, X, os1, hR, hiso, hsR, q5, q5s, q7, fun i hi => q8 i (by omega)⟩)
      | succ d ih =>
        intro j z X os1 hj q0 q1 q2 q3 q4 q5 q5s q6 q7 q8
        obtain ⟨Q, Q1, Q2⟩ := q4
        have hjl : j < mv_cnt R.1 kd := by omega
        have hS : mvS z R Q := ⟨q0, Q1, hR.2.2.1, Q2, hR.2.1, hR6⟩
        obtain ⟨hb9, hnv⟩ := mv_nv hR hk F P Q j hmk Q2 hjl
        refine u_X6_collect_2 ?_; unfold cm_X6_collect_2
        refine w_leF (by omega) (by omega) (w_cs1 (tc_make hS hR.1 hk hjl q1 q2) ?_)
        rintro r z1 ⟨e1, e2, e3⟩
        dsimp only at e1 e2 e3
        rw [e1]
        have k16 : cAt z1 16000 R := cAt_fr e3 (fun q hq h9 => by unfold cP at hq; unfold mvP at h9; omega) q0
        have k18 : ∀ k, z1.2.1 18001 k = F k := fun k => by rw [(e3 18001 (by unfold mvP; omega)).2.1]; exact q1 k
        have k66 : ∀ k, z1.2.1 16006 k = P k := fun k => by rw [(e3 16006 (by unfold mvP; omega)).2.1]; exact q2 k
        have kf : fr (coP g') y z1 := fr_tr q3 (fr_mono (fun q hq => by unfold mvP at hq; unfold coP; omega) e3)
        have kt : tbO z1 g' p' (Cs ++ X) os1 := tbO_fr e3 (fun q hq h9 => by unfold cV at hq; unfold mvP at h9; omega) q5
        have kb : byR z1 21001 ∧ byR z1 22001 ∧ byR z1 23001 := ⟨byR_fr e3 (by unfold mvP; omega) q6.1, byR_fr e3 (by unfold mvP; omega) q6.2.1, byR_fr e3 (by unfold mvP; omega) q6.2.2⟩
        have c3 : ∀ (z2 : ow_MS) (X2 : List cdT) (os2 : List Nat), cAt z2 16000 R → (∀ k, z2.2.1 18001 k = F k) → (∀ k, z2.2.1 16006 k = P k) → fr (coP g') y z2 → (∃ Q, cAt z2 17000 Q ∧ ow_b24 Q.2.2.1) → tbO z2 g' p' (Cs ++ X2) os2 → sts (Cs ++ X2) os2 → (byR z2 21001 ∧ byR z2 22001 ∧ byR z2 23001) → (∀ C, C ∈ X2 → ∃ i, i < mv_cnt R.1 kd ∧ mvD kd R i C) → (∀ i, i < j + 1 → mvN kd R i ∨ ∃ C, mvD kd R i C ∧ (C ∈ Cs ++ X2 ∨ os2.length = p')) → Tt (fun K t => c_X6_collect vl K t 3 (nI s) (nI kd) (nI (mv_cnt R.1 kd)) (nI j) 12000 g g' z2) Q0 := by
          intro z2 X2 os2 p0 p1 p2 p3 p4 p5 p5s p6 p7 p8
          refine u_X6_collect_3 ?_; unfold cm_X6_collect_3
          rw [nI_1]
          exact ih (j + 1) z2 X2 os2 (by omega) p0 p1 p2 p3 p4 p5 p5s p6 p7 p8
        refine w_if (fun e0 => ?_) (fun e0 => ?_)
        · refine c3 z1 X os1 k16 k18 k66 kf ⟨_, e2, hb9⟩ kt q5s kb q7 (fun i hi => ?_)
          by_cases ei : i = j
          · rw [ei]
            exact Or.inl ⟨F, P, Q, hmk, Q2, zI_e e0⟩
          · exact q8 i (by omega)
        · have hB := zI_ne e0
          have hv := hnv hB
          refine w_cs0 (tc_encode hk2 nH17 e2 hv kb.1 kb.2.1 kb.2.2) ?_
          rintro z2 ⟨⟨Ds, qs, d1, d2, d3⟩, b1, b2, b3, hy2, f2⟩
          have n2 : ∀ q, enP 20000 17000 q → 17001 ≤ q ∧ q ≤ 17011 ∨ 20004 ≤ q ∧ q ≤ 23005 := fun q hq => by
            unfold enP cpP epP cV cQ at hq
            omega
          have hD : mvD kd R j (enC (mv_T kd j Q R F P) Ds qs) := ⟨F, P, Q, Ds, qs, hmk, Q2, hB, d1, rfl⟩
          have hokC : okC (enC (mv_T kd j Q R F P) Ds qs) := by
            obtain ⟨A', sg', o1, o2, -⟩ := enc_ok hv d1
            exact ⟨A', sg', _, o1, o2⟩
          have kt2 : tbO z2 g' p' (Cs ++ X) os1 := tbO_fr f2 (fun q hq h9 => by have := n2 q h9; unfold cV at hq; omega) kt
          refine w_cs0 (tc_addNew hg' (kH_out hk2) (by omega) Nat.one_pos kt2.1 kt2.2.2.2.1 d2 d3 b1) ?_
          rintro z3 ⟨a1, a2, a3⟩
          have m16 : cAt z3 16000 R := cAt_fr a3 (fun q hq h9 => by unfold cP at hq; unfold cV at h9; omega) (cAt_fr f2 (fun q hq h9 => by have := n2 q h9; unfold cP at hq; omega) k16)
          have m17 : cAt z3 17000 (mv_T kd j Q R F P) := cAt_fr a3 (fun q hq h9 => by unfold cP at hq; unfold cV at h9; omega) hy2
          have m18 : ∀ k, z3.2.1 18001 k = F k := fun k => by
            rw [(a3 18001 (by unfold cV; omega)).2.1, (f2 18001 (fun h9 => by have := n2 _ h9; omega)).2.1]
            exact k18 k
          have m66 : ∀ k, z3.2.1 16006 k = P k := fun k => by
            rw [(a3 16006 (by unfold cV; omega)).2.1, (f2 16006 (fun h9 => by have := n2 _ h9; omega)).2.1]
            exact k66 k
          have mf : fr (coP g') y z3 := fr_tr kf (fr_tr (fr_mono (fun q hq => by have := n2 q hq; unfold coP; omega) f2) (fr_mono (fun q hq => Or.inr (Or.inr hq)) a3))
          have mb : byR z3 21001 ∧ byR z3 22001 ∧ byR z3 23001 := ⟨byR_fr a3 (by unfold cV; omega) b1, byR_fr a3 (by unfold cV; omega) b2, byR_fr a3 (by unfold cV; omega) b3⟩
          have mby : byR z3 (g' + 1) := a2 kt2.2.2.2.2
          rcases a1 with ⟨⟨k, k1, k2⟩, rfl⟩ | ⟨k, k1, k2, k3⟩
          · refine c3 z3 X os1 m16 m18 m66 mf ⟨_, m17, hb9⟩ kt2 q5s mb q7 (fun i hi => ?_)
            by_cases ei : i = j
            · rw [ei]
              refine Or.inr ⟨_, hD, Or.inl ?_⟩
              rw [← k2]
              obtain ⟨s9, s91, s92, s93, s94⟩ := tab_at kt2.1 k1
              unfold atC
              have hk9 : (Cs ++ X).length = os1.length := kt2.1.2.1
              have hso : os1.getD k 0 < (Cs ++ X).length := by
                rw [List.getD_eq_getElem?_getD, List.getElem?_eq_getElem k1]
                exact (kt2.1.2.2.2 k _ (List.getElem?_eq_getElem k1)).2
              rw [List.getD_eq_getElem?_getD (l := Cs ++ X), List.getElem?_eq_getElem hso]
              exact List.getElem_mem hso
            · exact q8 i (by omega)
          · by_cases hl : os1.length < p'
            · rw [if_pos hl] at k3
              have hmo := k2 (srt_mo kt2.2.1 _)
              have hT3 : tbO z3 g' p' (Cs ++ (X ++ [enC (mv_T kd j Q R F P) Ds qs])) (insO os1 k os1.length) := by
                rw [← List.append_assoc]
                refine ⟨k3, srt_ins k1 kt2.1.2.1 (tabC_os kt2.1) kt2.2.1 (fun i hi => Int.le_of_lt (hmo.1 i hi)) (fun i h1 h2 => ?_), fun C hC => ?_, by rw [insO_len k1]; omega, mby⟩
                · have := hmo.2 i h1 h2
                  have := cmpC_sym (A := enC (mv_T kd j Q R F P) Ds qs) (B := atC (Cs ++ X) os1 i)
                  omega
                · rcases List.mem_append.mp hC with h9 | h9
                  · exact kt2.2.2.1 C h9
                  · rw [List.mem_singleton.mp h9]
                    exact hokC
              have hT3s : sts (Cs ++ (X ++ [enC (mv_T kd j Q R F P) Ds qs])) (insO os1 k os1.length) := by
                rw [← List.append_assoc]
                refine sts_ins k1 kt2.1.2.1 (tabC_os kt2.1) q5s hmo.1 (fun i h1 h2 => ?_)
                have := hmo.2 i h1 h2
                have := cmpC_sym (A := enC (mv_T kd j Q R F P) Ds qs) (B := atC (Cs ++ X) os1 i)
                omega
              refine c3 z3 _ _ m16 m18 m66 mf ⟨_, m17, hb9⟩ hT3 hT3s mb (fun C hC => ?_) (fun i hi => ?_)
              · rcases List.mem_append.mp hC with h9 | h9
                · exact q7 C h9
                · rw [List.mem_singleton.mp h9]
                  exact ⟨j, hjl, hD⟩
              · by_cases ei : i = j
                · rw [ei]
                  exact Or.inr ⟨_, hD, Or.inl (List.mem_append_right _ (List.mem_append_right _ (List.mem_singleton.mpr rfl)))⟩
                · rcases q8 i (by omega) with h9 | ⟨C, h9, h8 | h8⟩
                  · exact Or.inl h9
                  · refine Or.inr ⟨C, h9, Or.inl ?_⟩
                    rw [← List.append_assoc]
                    exact List.mem_append_left _ h8
                  · omega
            · rw [if_neg hl] at k3
              have hfull : os1.length = p' := by
                have := kt2.2.2.2.1
                omega
              refine c3 z3 X os1 m16 m18 m66 mf ⟨_, m17, hb9⟩ ⟨k3, kt2.2.1, kt2.2.2.1, kt2.2.2.2.1, mby⟩ q5s mb q7 (fun i hi => ?_)
              by_cases ei : i = j
              · rw [ei]
                exact Or.inr ⟨_, hD, Or.inr hfull⟩
              · exact q8 i (by omega)
    refine u_X6_collect_1 ?_; unfold cm_X6_collect_1
    refine w_cs1 (tc_countNumbers r0.1 hR.2.1 hk) ?_
    rintro v z1 ⟨e1, e2⟩
    dsimp only at e1 e2
    rw [e1, e2]
    exact c2 (mv_cnt R.1 kd) 0 z0 [] os (by omega) r0 r1 r2 r3 r4 (by rw [List.append_nil]; exact r5) (by rw [List.append_nil]; exact hst) r6 (fun C hC => by cases hC) (fun i hi => absurd hi (Nat.not_lt_zero _))
  have hbk := hN.2.2 20000 hk2
  refine e_X6_collect ?_
  refine u_X6_collect_0 ?_; unfold cm_X6_collect_0
  refine w_cs0 (tc_load3 nH16 hg (by omega) hs hA hC t01 t02) ?_
  rintro y1 ⟨⟨R, hR, hR1, hR2, hR3⟩, f1⟩
  have hsR : sgR c sg R := ⟨hR1, hR3⟩
  have n1 : ∀ q, cL 16000 q → 16001 ≤ q ∧ q ≤ 16010 := fun q hq => by unfold cL at hq; omega
  have f1c : fr (coP g') y y1 := fr_mono (fun q hq => by have := n1 q hq; unfold coP; omega) f1
  have hT1 : tbO y1 g' p' Cs os := tbO_fr f1 (fun q hq h9 => by have := n1 q h9; unfold cV at hq; omega) hT
  have hQ1 : ∃ Q, cAt y1 17000 Q ∧ ow_b24 Q.2.2.1 := by
    obtain ⟨Q, a1, a2⟩ := hN.2.1 17000 nH17
    exact ⟨Q, cAt_fr f1 (fun q hq h9 => by have := n1 q h9; unfold cP at hq; omega) a1, a2⟩
  have hb1 : byR y1 21001 ∧ byR y1 22001 ∧ byR y1 23001 := ⟨byR_fr f1 (fun h9 => by have := n1 _ h9; omega) hbk.1, byR_fr f1 (fun h9 => by have := n1 _ h9; omega) hbk.2.1, byR_fr f1 (fun h9 => by have := n1 _ h9; omega) hbk.2.2⟩
  have hv := hR.2.2.1
  by_cases e3 : kd = 3
  · refine w_ifT (by rw [e3]; rfl) (w_cs0 (tc_markParts nH16 hR.1 (fun a ha => (hv.1 a ha).1) hv.2.1) ?_)
    rintro y2 ⟨m1, m2, m3⟩
    have hy2 : cAt y2 16000 R := cAt_fr m3 (fun q hq h9 => by unfold cP at hq; unfold cQ at h9; omega) hR.1
    refine w_cs0 (tc_faces (f := 18000) nH16 (Or.inr (Or.inl rfl)) (by omega) hy2 hv.2.2.1 hv.1 hv.2.1) ?_
    rintro y3 ⟨g1, g2, g3⟩
    have hof := np_parts_of (N := R.2.2.1.1) (c := R.1) (fun a ha => (hv.1 a ha).1) hv.2.1 (y1.2.1 (16000 + 6))
    have hfa := mr_out_rl (fun a ha => fc_on_vn hv.1 R.2.2.2 ha) (rl_fill (4 * R.1) (y2.2.1 (18000 + 1)) (-1)) (4 * R.1) (Nat.le_refl _)
    have u2 : ∀ q, cQ 16000 q → 16001 ≤ q ∧ q ≤ 16011 := fun q hq => by unfold cQ at hq; omega
    have u3 : ∀ q, cF 18000 q → q = 18001 ∨ q = 18002 := fun q hq => by unfold cF at hq; omega
    refine main R (y3.2.1 18001) (y3.2.1 16006) y3 hv hR.2.1 hsR (fun _ => ⟨fun k hk9 => ?_, fun k hk9 => ?_⟩) (cAt_fr g3 (fun q hq h9 => by have := u3 q h9; unfold cP at hq; omega) hy2) (fun _ => rfl) (fun _ => rfl) (fr_tr f1c (fr_tr (fr_mono (fun q hq => by have := u2 q hq; unfold coP; omega) m3) (fr_mono (fun q hq => by have := u3 q hq; unfold coP; omega) g3))) ?_ (tbO_fr g3 (fun q hq h9 => by have := u3 q h9; unfold cV at hq; omega) (tbO_fr m3 (fun q hq h9 => by have := u2 q h9; unfold cV at hq; omega) hT1)) ⟨byR_fr g3 (fun h9 => by have := u3 _ h9; omega) (byR_fr m3 (fun h9 => by have := u2 _ h9; omega) hb1.1), byR_fr g3 (fun h9 => by have := u3 _ h9; omega) (byR_fr m3 (fun h9 => by have := u2 _ h9; omega) hb1.2.1), byR_fr g3 (fun h9 => by have := u3 _ h9; omega) (byR_fr m3 (fun h9 => by have := u2 _ h9; omega) hb1.2.2)⟩
    · rw [(g3 16006 (fun h9 => by have := u3 _ h9; omega)).2.1]
      exact (m1 k).trans (hof.1 k hk9)
    · exact (g1 k).trans (hfa.1 k hk9)
    · obtain ⟨Q, a1, a2⟩ := hQ1
      exact ⟨Q, cAt_fr g3 (fun q hq h9 => by have := u3 q h9; unfold cP at hq; omega) (cAt_fr m3 (fun q hq h9 => by have := u2 q h9; unfold cP at hq; omega) a1), a2⟩
  · refine w_ifF (fun h9 => e3 (nI_inj9 (a := kd) (b := 3) (by omega) (by omega) h9)) ?_
    exact main R (y1.2.1 18001) (y1.2.1 16006) y1 hv hR.2.1 hsR (fun h9 => absurd h9 e3) hR.1 (fun _ => rfl) (fun _ => rfl) f1c hQ1 hT1 hb1
end XCL
end
