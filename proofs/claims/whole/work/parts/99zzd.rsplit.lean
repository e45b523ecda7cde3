/-! the reference's nets: split -/
theorem po_usI_row {z : ow_MS} {h i : Nat} {x : Int32} : (usI z h i x).2.1 h = upd (z.2.1 h) i x := if_pos rfl
def rn_cU (M : Nat → Int32) : Nat → Nat
  | 0 => 0
  | n + 1 => rn_cU M n + if M n = -1 then 1 else 0
theorem rn_cU_ge {M : Nat → Int32} {b : Nat} {x : Int32} : ∀ n, n ≤ b → rn_cU (upd M b x) n = rn_cU M n
  | 0, _ => rfl
  | n + 1, h => by
    unfold rn_cU
    rw [rn_cU_ge n (by omega), pk_un (by omega)]
theorem rn_cU_upd {M : Nat → Int32} {b : Nat} {x : Int32} (hM : M b = -1) (hx : x ≠ -1) : ∀ n, b < n → rn_cU (upd M b x) n + 1 = rn_cU M n
  | 0, h => by omega
  | n + 1, h => by
    unfold rn_cU
    by_cases hb : b = n
    · subst hb
      rw [rn_cU_ge b (Nat.le_refl _), pk_us, if_neg hx, hM, if_pos rfl]
    · have := rn_cU_upd hM hx n (by omega)
      rw [pk_un (fun e => hb e.symm)]
      omega
theorem rn_cU_le {M : Nat → Int32} : ∀ n, rn_cU M n ≤ n
  | 0 => Nat.le_refl _
  | n + 1 => by
    have := rn_cU_le (M := M) n
    unfold rn_cU
    by_cases h : M n = -1
    · rw [if_pos h]; omega
    · rw [if_neg h]; omega
/-- every visit has a mate, and only one -/
def rn_ok (F : List (Nat × Nat)) : Prop := rn_d2 F ∧ ∀ v, v < F.length → ∃ w, rn_mt F v w
theorem rn_mt_lt {F : List (Nat × Nat)} {v w : Nat} (h : rn_mt F v w) : v < F.length ∧ w < F.length := by
  obtain ⟨-, p, q, h1, h2, -⟩ := h
  exact ⟨(List.getElem?_eq_some_iff.mp h1).1, (List.getElem?_eq_some_iff.mp h2).1⟩
/-- components that share a crossing -/
def rn_adj (A : rn_L) (a b : Nat) : Prop := ∃ v w, rn_mt A.flatten v w ∧ rn_c A v = a ∧ rn_c A w = b
theorem rn_adj.symm {A : rn_L} {a b : Nat} (h : rn_adj A a b) : rn_adj A b a := by
  obtain ⟨v, w, h1, h2, h3⟩ := h
  exact ⟨w, v, h1.symm, h3, h2⟩
def rn_con (A : rn_L) (a b : Nat) : Prop := ∀ S : Nat → Prop, S a → (∀ x y, S x → rn_adj A x y → S y) → S b
theorem rn_con.rf {A : rn_L} {a : Nat} : rn_con A a a := fun _ h _ => h
theorem rn_con.tr {A : rn_L} {a b c : Nat} (h1 : rn_con A a b) (h2 : rn_con A b c) : rn_con A a c := fun S hs hc => h2 S (h1 S hs hc) hc
theorem rn_con.st {A : rn_L} {a b c : Nat} (h1 : rn_con A a b) (h2 : rn_adj A b c) : rn_con A a c := fun S hs hc => hc b c (h1 S hs hc) h2
theorem rn_con.symm {A : rn_L} {a b : Nat} (h : rn_con A a b) : rn_con A b a := h (fun x => rn_con A x a) rn_con.rf (fun x y hx hxy => fun S hs hc => hx S (hc y x hs hxy.symm) hc)
def rn_frP (n : Nat) (z z1 : ow_MS) : Prop := (∀ g, g ≠ n + 13 → z1.1 g = z.1 g) ∧ z1.2.2 = z.2.2 ∧ ∀ g, g ≠ n + 12 → z1.2.1 g = z.2.1 g
theorem rn_frP_rf {n : Nat} {z : ow_MS} : rn_frP n z z := ⟨fun _ _ => rfl, rfl, fun _ _ => rfl⟩
theorem rn_frP_tr {n : Nat} {z z1 z2 : ow_MS} (h1 : rn_frP n z z1) (h2 : rn_frP n z1 z2) : rn_frP n z z2 := ⟨fun g hg => (h2.1 g hg).trans (h1.1 g hg), h2.2.1.trans h1.2.1, fun g hg => (h2.2.2 g hg).trans (h1.2.2 g hg)⟩
/-- what split reads: a linked net -/
def rn_lk (z : ow_MS) (n : Nat) (A : rn_L) : Prop := rn_At z n A [] ∧ rn_LI z n A A.flatten.length
theorem rn_frP_lk {n : Nat} {z z1 : ow_MS} {A : rn_L} (hf : rn_frP n z z1) (h : rn_lk z n A) : rn_lk z1 n A := by
  obtain ⟨⟨h1, h2, h3, h4⟩, i1, i2, i3⟩ := h
  have e : ∀ k, k < 12 → z1.2.1 (n + k) = z.2.1 (n + k) := fun k hk => hf.2.2 _ (by omega)
  refine ⟨⟨by rw [hf.1 _ (by omega)]; exact h1, by rw [hf.1 _ (by omega)]; exact h2, fun c hc => by rw [e 3 (by omega)]; exact h3 c hc, fun v p hv => by rw [e 4 (by omega), e 5 (by omega)]; exact h4 v p hv⟩, fun v hv => by rw [e 8 (by omega), e 9 (by omega), e 10 (by omega)]; exact i1 v hv, fun x hx => by rw [e 11 (by omega)]; exact i2 x hx, fun v w hv hw hm => by rw [e 7 (by omega)]; exact i3 v w hv hw hm⟩
/-- the marks while part P grows from component c0 -/
def rn_SI (A : rn_L) (M : Nat → Int32) (P c0 : Nat) : Prop := (∀ c, c < A.length → M c = -1 ∨ ∃ p, p ≤ P ∧ M c = nI p) ∧ (∀ a b p, p < P → rn_adj A a b → M a = nI p → M b = nI p) ∧ (∀ a b p, p < P → a < A.length → b < A.length → M a = nI p → M b = nI p → rn_con A a b) ∧ M c0 = nI P ∧ (∀ b, b < A.length → M b = nI P → rn_con A c0 b) ∧ ∀ p, p < P → ∃ a, a < A.length ∧ M a = nI p
theorem rn_split_pass {K n c0 P : Nat} {A : rn_L} (hn : mw_net n) (hlen : A.flatten.length ≤ 40) (hcn : A.length ≤ 39) (hd : rn_ok A.flatten) (hP : P < 39) (hc0 : c0 < A.length) : ∀ (d v k : Nat) (g : Int32) (z : ow_MS), v + d = A.flatten.length → (g = 0 ∨ g = 1) → rn_lk z n A → z.1 (n + 13) = nI P → rn_SI A (z.2.1 (n + 12)) P c0 → (g = 0 → ∀ v' w, v' < v → rn_mt A.flatten v' w → z.2.1 (n + 12) (rn_c A v') = nI P → z.2.1 (n + 12) (rn_c A w) ≠ -1) →
    ∃ (g1 : Int32) (z1 : ow_MS), q_X12_split K (k + 2 * d + 1) 4 (nI c0) g (nI v) n z = q_X12_split K k 3 (nI c0) g1 0 n z1 ∧ (g1 = 0 ∨ g1 = 1) ∧ rn_frP n z z1 ∧ z1.1 (n + 13) = nI P ∧ rn_SI A (z1.2.1 (n + 12)) P c0 ∧ (g1 = 0 → ∀ v' w, v' < A.flatten.length → rn_mt A.flatten v' w → z1.2.1 (n + 12) (rn_c A v') = nI P → z1.2.1 (n + 12) (rn_c A w) ≠ -1) ∧ (g1 = g ∧ rn_cU (z1.2.1 (n + 12)) A.length ≤ rn_cU (z.2.1 (n + 12)) A.length ∨ g1 = 1 ∧ rn_cU (z1.2.1 (n + 12)) A.length < rn_cU (z.2.1 (n + 12)) A.length) ∧ ∀ c, z.2.1 (n + 12) c ≠ -1 → z1.2.1 (n + 12) c = z.2.1 (n + 12) c := by
  obtain ⟨l3, l4, -, -, l7, l8, l9, l10, l11, l12, -⟩ := po_len hn
  intro d
  induction d with
  | zero =>
    intro v k g z hv hg hL h13 hS hq
    have hv2 : v = A.flatten.length := by omega
    subst hv2
    refine ⟨g, z, ?_, hg, rn_frP_rf, h13, hS, hq, Or.inl ⟨rfl, Nat.le_refl _⟩, fun _ _ => rfl⟩
    show qm_X12_split_4 K (q_X12_split K k) (nI c0) g (nI A.flatten.length) n z = _
    unfold qm_X12_split_4
    simp only [rdF]
    have h1 : z.1 (n + 1) = nI A.flatten.length := by
      rw [hL.1.1, List.append_nil]
    rw [h1, po_le (by omega) (Nat.le_refl _)]
  | succ d ih =>
    intro v k g z hv hg hL h13 hS hq
    have h1 : z.1 (n + 1) = nI A.flatten.length := by
      rw [hL.1.1, List.append_nil]
    have hvl : v < A.flatten.length := by omega
    obtain ⟨w, hm⟩ := hd.2 v hvl
    have hwl := (rn_mt_lt hm).2
    obtain ⟨ca, -, -⟩ := rn_c_in A v hvl
    obtain ⟨cb, -, -⟩ := rn_c_in A w hwl
    have e8 := (hL.2.1 v hvl).1
    have e8w := (hL.2.1 w hwl).1
    have e7 := hL.2.2.2 v w hvl hwl hm
    have uniq : ∀ w', rn_mt A.flatten v w' → w' = w := fun w' h9 => hd.1.1 v w' w h9 hm
    have s5 : ∀ (g9 : Int32) (z9 : ow_MS), q_X12_split K (k + 2 * d + 2) 5 (nI c0) g9 (nI v) n z9 = q_X12_split K (k + 2 * d + 1) 4 (nI c0) g9 (nI (v + 1)) n z9 := by
      intro g9 z9
      show qm_X12_split_5 K (q_X12_split K (k + 2 * d + 1)) (nI c0) g9 (nI v) n z9 = _
      unfold qm_X12_split_5
      rw [nI_1]
    have eqk : k + 2 * (d + 1) + 1 = k + 2 * d + 2 + 1 := by omega
    have blk : q_X12_split K (k + 2 * (d + 1) + 1) 4 (nI c0) g (nI v) n z = (if z.2.1 (n + 12) (rn_c A v) = nI P then (if z.2.1 (n + 12) (rn_c A w) = -1 then q_X12_split K (k + 2 * d + 2) 5 (nI c0) 1 (nI v) n (usI z (n + 12) (rn_c A w) (nI P)) else q_X12_split K (k + 2 * d + 2) 5 (nI c0) g (nI v) n z) else q_X12_split K (k + 2 * d + 2) 5 (nI c0) g (nI v) n z) := by
      rw [eqk]
      generalize k + 2 * d + 2 = kk
      show qm_X12_split_4 K (q_X12_split K kk) (nI c0) g (nI v) n z = _
      generalize q_X12_split K kk = go
      unfold qm_X12_split_4
      simp only [rdF]
      rw [h1, po_leN (by omega) hvl, po_rdI (by rw [l8]; omega) (by omega), e8, po_rdI (by rw [l12]; omega) (by omega), h13]
      by_cases c1 : z.2.1 (n + 12) (rn_c A v) = nI P
      · rw [if_pos c1, if_pos c1, po_rdI (by rw [l7]; omega) (by omega), e7, po_rdI (by rw [l8]; omega) (by omega), e8w, po_rdI (by rw [l12]; omega) (by omega)]
        by_cases c2 : z.2.1 (n + 12) (rn_c A w) = -1
        · rw [if_pos c2, if_pos c2, po_rdI (by rw [l7]; omega) (by omega), e7, po_rdI (by rw [l8]; omega) (by omega), e8w, po_wrI (by rw [l12]; omega) (by omega)]
        · rw [if_neg c2, if_neg c2]
      · rw [if_neg c1, if_neg c1]
    by_cases c1 : z.2.1 (n + 12) (rn_c A v) = nI P
    · by_cases c2 : z.2.1 (n + 12) (rn_c A w) = -1
      · have st := (blk.trans ((if_pos c1).trans (if_pos c2))).trans (s5 1 _)
        have hne : nI P ≠ -1 := rn_neg1 (by omega)
        have hadj : rn_adj A (rn_c A v) (rn_c A w) := ⟨v, w, hm, rfl, rfl⟩
        obtain ⟨a1, a2, a3, a4, a5, a6⟩ := hS
        have hfr : rn_frP n z (usI z (n + 12) (rn_c A w) (nI P)) := ⟨fun _ _ => rfl, rfl, fun g hg => po_usI_ot hg⟩
        have cu := rn_cU_upd (M := z.2.1 (n + 12)) (x := nI P) c2 hne A.length cb
        have hS2 : rn_SI A (upd (z.2.1 (n + 12)) (rn_c A w) (nI P)) P c0 := by
          refine ⟨fun c hc => ?_, fun a b p hp hab ha => ?_, fun a b p hp ha hb hma hmb => ?_, ?_, fun b hb hmb => ?_, fun p hp => ?_⟩
          · by_cases hcw : c = rn_c A w
            · rw [hcw]
              exact Or.inr ⟨P, Nat.le_refl _, pk_us⟩
            · rw [pk_un hcw]
              exact a1 c hc
          · by_cases haw : a = rn_c A w
            · rw [haw, pk_us] at ha
              have := (nI_eq (a := P) (b := p) (by omega) (by omega)).mp ha
              omega
            · rw [pk_un haw] at ha
              have hb := a2 a b p hp hab ha
              by_cases hbw : b = rn_c A w
              · rw [hbw, c2] at hb
                exact absurd hb.symm (rn_neg1 (by omega))
              · rw [pk_un hbw]
                exact hb
          · have haw : a ≠ rn_c A w := fun e => by
              rw [e, pk_us] at hma
              have := (nI_eq (a := P) (b := p) (by omega) (by omega)).mp hma
              omega
            have hbw : b ≠ rn_c A w := fun e => by
              rw [e, pk_us] at hmb
              have := (nI_eq (a := P) (b := p) (by omega) (by omega)).mp hmb
              omega
            rw [pk_un haw] at hma
            rw [pk_un hbw] at hmb
            exact a3 a b p hp ha hb hma hmb
          · rw [pk_un (fun e => by rw [← e, a4] at c2; exact hne c2)]
            exact a4
          · by_cases hbw : b = rn_c A w
            · rw [hbw]
              exact (a5 _ ca c1).st hadj
            · rw [pk_un hbw] at hmb
              exact a5 b hb hmb
          · obtain ⟨a, ha, hma⟩ := a6 p hp
            refine ⟨a, ha, ?_⟩
            rw [pk_un (fun e => by rw [e, c2] at hma; exact rn_neg1 (v := p) (by omega) hma.symm)]
            exact hma
        obtain ⟨g1, z1, f1, f2, f3, f4, f5, f6, f7, f8⟩ := ih (v + 1) k 1 (usI z (n + 12) (rn_c A w) (nI P)) (by omega) (Or.inr rfl) (rn_frP_lk hfr hL) h13 (by rw [po_usI_row]; exact hS2) (fun h9 => absurd h9 (by decide))
        rw [po_usI_row] at f7 f8
        refine ⟨g1, z1, st.trans f1, f2, rn_frP_tr hfr f3, f4, f5, f6, Or.inr ?_, fun c hc => ?_⟩
        · rcases f7 with ⟨e1, e2⟩ | ⟨e1, e2⟩
          · exact ⟨e1, by omega⟩
          · exact ⟨e1, by omega⟩
        · have hcw : c ≠ rn_c A w := fun e => hc (by rw [e]; exact c2)
          have e9 := pk_un (f := z.2.1 (n + 12)) (x := nI P) hcw
          rw [f8 c (by rw [e9]; exact hc), e9]
      · have st := (blk.trans ((if_pos c1).trans (if_neg c2))).trans (s5 g _)
        obtain ⟨g1, z1, f1, f2, f3, f4, f5, f6, f7, f8⟩ := ih (v + 1) k g z (by omega) hg hL h13 hS (fun h9 v' w' hv' hm' hM => by
          by_cases hvv : v' = v
          · rw [hvv] at hm'
            rw [uniq w' hm']
            exact c2
          · exact hq h9 v' w' (by omega) hm' hM)
        exact ⟨g1, z1, st.trans f1, f2, f3, f4, f5, f6, f7, f8⟩
    · have st := (blk.trans (if_neg c1)).trans (s5 g _)
      obtain ⟨g1, z1, f1, f2, f3, f4, f5, f6, f7, f8⟩ := ih (v + 1) k g z (by omega) hg hL h13 hS (fun h9 v' w' hv' hm' hM => by
        by_cases hvv : v' = v
        · rw [hvv] at hM
          exact absurd hM c1
        · exact hq h9 v' w' (by omega) hm' hM)
      exact ⟨g1, z1, st.trans f1, f2, f3, f4, f5, f6, f7, f8⟩
/-- the marks when parts below P are done -/
def rn_SD (A : rn_L) (M : Nat → Int32) (P : Nat) : Prop := (∀ c, c < A.length → M c = -1 ∨ ∃ p, p < P ∧ M c = nI p) ∧ (∀ a b p, p < P → rn_adj A a b → M a = nI p → M b = nI p) ∧ (∀ a b p, p < P → a < A.length → b < A.length → M a = nI p → M b = nI p → rn_con A a b) ∧ ∀ p, p < P → ∃ a, a < A.length ∧ M a = nI p
theorem rn_SI_SD {A : rn_L} {M : Nat → Int32} {P c0 : Nat} (hP : P < 39) (hc0 : c0 < A.length) (hS : rn_SI A M P c0) (hcl : ∀ v w, v < A.flatten.length → rn_mt A.flatten v w → M (rn_c A v) = nI P → M (rn_c A w) ≠ -1) : rn_SD A M (P + 1) := by
  obtain ⟨a1, a2, a3, a4, a5, a6⟩ := hS
  refine ⟨fun c hc => (a1 c hc).imp id (fun ⟨p, hp, e⟩ => ⟨p, by omega, e⟩), fun a b p hp hab ha => ?_, fun a b p hp ha hb hma hmb => ?_, fun p hp => ?_⟩
  · by_cases hpP : p < P
    · exact a2 a b p hpP hab ha
    · have hpe : P = p := by omega
      subst hpe
      obtain ⟨v, w, hm, rfl, rfl⟩ := hab
      have hnb := hcl v w (rn_mt_lt hm).1 hm ha
      rcases a1 (rn_c A w) (rn_c_in A w (rn_mt_lt hm).2).1 with e | ⟨p, hp2, e⟩
      · exact absurd e hnb
      · by_cases hpp : p = P
        · rw [← hpp]
          exact e
        · have h9 := a2 _ _ p (by omega) (rn_adj.symm ⟨v, w, hm, rfl, rfl⟩) e
          rw [ha] at h9
          have := (nI_eq (a := P) (b := p) (by omega) (by omega)).mp h9
          omega
  · by_cases hpP : p < P
    · exact a3 a b p hpP ha hb hma hmb
    · have hpe : P = p := by omega
      subst hpe
      exact (a5 a ha hma).symm.tr (a5 b hb hmb)
  · by_cases hpP : p < P
    · exact a6 p hpP
    · have hpe : P = p := by omega
      subst hpe
      exact ⟨c0, hc0, a4⟩
theorem rn_ar1 {u k2 m : Nat} (hm : m ≤ 40) (hk : (u + 1 + 1) * 83 + 1 ≤ k2 + 1 + 2 * m + 1 + 1) : (u + 1) * 83 + 1 ≤ k2 + 1 := by
  rw [Nat.succ_mul (u + 1) 83] at hk
  generalize (u + 1) * 83 = X at hk ⊢
  omega
theorem rn_ar2 {u k2 k3 m : Nat} (hm : m ≤ 40) (h1 : k2 + 1 ≤ k3 + ((u + 1) * 83 + 1)) : k2 + 1 + 2 * m + 1 + 1 ≤ k3 + ((u + 1 + 1) * 83 + 1) := by
  rw [Nat.succ_mul (u + 1) 83]
  generalize (u + 1) * 83 = X at h1 ⊢
  omega
theorem rn_split_wh {K n c0 P : Nat} {A : rn_L} (hn : mw_net n) (hlen : A.flatten.length ≤ 40) (hcn : A.length ≤ 39) (hd : rn_ok A.flatten) (hP : P < 39) (hc0 : c0 < A.length) : ∀ (u k : Nat) (z : ow_MS), rn_cU (z.2.1 (n + 12)) A.length ≤ u → rn_lk z n A → z.1 (n + 13) = nI P → rn_SI A (z.2.1 (n + 12)) P c0 → (u + 1) * 83 + 1 ≤ k → ∃ (k1 : Nat) (z1 : ow_MS), k ≤ k1 + ((u + 1) * 83 + 1) ∧ q_X12_split K k 3 (nI c0) 1 0 n z = q_X12_split K k1 6 (nI c0) 0 0 n z1 ∧ rn_frP n z z1 ∧ z1.1 (n + 13) = nI (P + 1) ∧ rn_SD A (z1.2.1 (n + 12)) (P + 1) ∧ ∀ c, z.2.1 (n + 12) c ≠ -1 → z1.2.1 (n + 12) c = z.2.1 (n + 12) c := by
  intro u
  induction u with
  | zero =>
    intro k z hu hL h13 hS hk
    obtain ⟨k2, rfl⟩ : ∃ k', k = k' + 1 + 2 * A.flatten.length + 1 + 1 := ⟨k - 2 * A.flatten.length - 3, by omega⟩
    obtain ⟨g1, z1, f1, f2, f3, f4, f5, f6, f7, f8⟩ := rn_split_pass (K := K) hn hlen hcn hd hP hc0 A.flatten.length 0 (k2 + 1) 0 z (by omega) (Or.inl rfl) hL h13 hS (fun _ v' w hv => by omega)
    have hg : g1 = 0 := by
      rcases f7 with ⟨e, _⟩ | ⟨_, e⟩
      · exact e
      · omega
    have st : q_X12_split K (k2 + 1 + 2 * A.flatten.length + 1 + 1) 3 (nI c0) 1 0 n z = q_X12_split K (k2 + 1 + 2 * A.flatten.length + 1) 4 (nI c0) 0 (nI 0) n z := by
      generalize k2 + 1 + 2 * A.flatten.length + 1 = kk
      show qm_X12_split_3 K (q_X12_split K kk) (nI c0) 1 0 n z = _
      unfold qm_X12_split_3
      exact if_neg (by decide)
    have en : q_X12_split K (k2 + 1) 3 (nI c0) g1 0 n z1 = q_X12_split K k2 6 (nI c0) 0 0 n (usF z1 (n + 13) (nI (P + 1))) := by
      rw [hg]
      show qm_X12_split_3 K (q_X12_split K k2) (nI c0) 0 0 n z1 = _
      generalize q_X12_split K k2 = go
      unfold qm_X12_split_3
      rw [if_pos rfl]
      simp only [rdF, wrF]
      rw [f4, nI_1]
    exact ⟨k2, usF z1 (n + 13) (nI (P + 1)), by omega, st.trans (f1.trans en), rn_frP_tr f3 ⟨fun g hg => po_usF_ot hg, rfl, fun _ _ => rfl⟩, po_usF_at, rn_SI_SD hP hc0 f5 (f6 hg), f8⟩
  | succ u ih =>
    intro k z hu hL h13 hS hk
    obtain ⟨k2, rfl⟩ : ∃ k', k = k' + 1 + 2 * A.flatten.length + 1 + 1 := ⟨k - 2 * A.flatten.length - 3, by omega⟩
    obtain ⟨g1, z1, f1, f2, f3, f4, f5, f6, f7, f8⟩ := rn_split_pass (K := K) hn hlen hcn hd hP hc0 A.flatten.length 0 (k2 + 1) 0 z (by omega) (Or.inl rfl) hL h13 hS (fun _ v' w hv => by omega)
    have st : q_X12_split K (k2 + 1 + 2 * A.flatten.length + 1 + 1) 3 (nI c0) 1 0 n z = q_X12_split K (k2 + 1 + 2 * A.flatten.length + 1) 4 (nI c0) 0 (nI 0) n z := by
      generalize k2 + 1 + 2 * A.flatten.length + 1 = kk
      show qm_X12_split_3 K (q_X12_split K kk) (nI c0) 1 0 n z = _
      unfold qm_X12_split_3
      exact if_neg (by decide)
    by_cases hg : g1 = 0
    · have en : q_X12_split K (k2 + 1) 3 (nI c0) g1 0 n z1 = q_X12_split K k2 6 (nI c0) 0 0 n (usF z1 (n + 13) (nI (P + 1))) := by
        rw [hg]
        show qm_X12_split_3 K (q_X12_split K k2) (nI c0) 0 0 n z1 = _
        generalize q_X12_split K k2 = go
        unfold qm_X12_split_3
        rw [if_pos rfl]
        simp only [rdF, wrF]
        rw [f4, nI_1]
      exact ⟨k2, usF z1 (n + 13) (nI (P + 1)), by omega, st.trans (f1.trans en), rn_frP_tr f3 ⟨fun g hg => po_usF_ot hg, rfl, fun _ _ => rfl⟩, po_usF_at, rn_SI_SD hP hc0 f5 (f6 hg), f8⟩
    · have hg1 : g1 = 1 := f2.resolve_left hg
      have hcu : rn_cU (z1.2.1 (n + 12)) A.length ≤ u := by
        rcases f7 with ⟨e, _⟩ | ⟨_, e⟩
        · exact absurd e hg
        · omega
      rw [hg1] at f1
      have hk9 : (u + 1) * 83 + 1 ≤ k2 + 1 := rn_ar1 hlen hk
      obtain ⟨k3, z3, h1, h2, h3, h4, h5, h6⟩ := ih (k2 + 1) z1 hcu (rn_frP_lk f3 hL) f4 f5 hk9
      have hk8 : k2 + 1 + 2 * A.flatten.length + 1 + 1 ≤ k3 + ((u + 1 + 1) * 83 + 1) := rn_ar2 hlen h1
      refine ⟨k3, z3, hk8, st.trans (f1.trans h2), rn_frP_tr f3 h3, h4, h5, fun c hc => ?_⟩
      have e9 := f8 c hc
      rw [h6 c (by rw [e9]; exact hc), e9]
/-- the parts of a linked net -/
def rn_pt (z : ow_MS) (n : Nat) (A : rn_L) (P : Nat) : Prop := z.1 (n + 13) = nI P ∧ P ≤ A.length ∧ rn_SD A (z.2.1 (n + 12)) P ∧ ∀ c, c < A.length → z.2.1 (n + 12) c ≠ -1
theorem rn_split_out {K n : Nat} {A : rn_L} (hn : mw_net n) (hlen : A.flatten.length ≤ 40) (hcn : A.length ≤ 39) (hd : rn_ok A.flatten) : ∀ (d c k P : Nat) (z : ow_MS), c + d = A.length → P ≤ c → rn_lk z n A → z.1 (n + 13) = nI P → rn_SD A (z.2.1 (n + 12)) P → (∀ c', c' < c → z.2.1 (n + 12) c' ≠ -1) → 3400 * d + 1 ≤ k → ∃ (z1 : ow_MS) (P1 : Nat), q_X12_split K k 2 (nI c) 0 0 n z = some z1 ∧ rn_frP n z z1 ∧ rn_pt z1 n A P1 := by
  obtain ⟨-, -, -, -, -, -, -, -, -, l12, -⟩ := po_len hn
  intro d
  induction d with
  | zero =>
    intro c k P z hc hP hL h13 hS hm hk
    obtain ⟨k, rfl⟩ : ∃ k', k = k' + 1 := ⟨k - 1, by omega⟩
    have hce : c = A.length := by omega
    refine ⟨z, P, ?_, rn_frP_rf, h13, by omega, hS, fun c' hc' => hm c' (by omega)⟩
    show qm_X12_split_2 K (q_X12_split K k) (nI c) 0 0 n z = _
    generalize q_X12_split K k = go
    unfold qm_X12_split_2
    simp only [rdF]
    rw [hL.1.2.1, po_le (by omega) (by omega)]
  | succ d ih =>
    intro c k P z hc hP hL h13 hS hm hk
    obtain ⟨k, rfl⟩ : ∃ k', k = k' + 1 + 1 := ⟨k - 2, by omega⟩
    have hcl : c < A.length := by omega
    have s6 : ∀ (k9 : Nat) (z9 : ow_MS), q_X12_split K (k9 + 1) 6 (nI c) 0 0 n z9 = q_X12_split K k9 2 (nI (c + 1)) 0 0 n z9 := by
      intro k9 z9
      show qm_X12_split_6 K (q_X12_split K k9) (nI c) 0 0 n z9 = _
      unfold qm_X12_split_6
      rw [nI_1]
    have blk : q_X12_split K (k + 1 + 1) 2 (nI c) 0 0 n z = (if z.2.1 (n + 12) c = -1 then q_X12_split K (k + 1) 3 (nI c) 1 0 n (usI z (n + 12) c (nI P)) else q_X12_split K (k + 1) 6 (nI c) 0 0 n z) := by
      generalize k + 1 = kk
      show qm_X12_split_2 K (q_X12_split K kk) (nI c) 0 0 n z = _
      generalize q_X12_split K kk = go
      unfold qm_X12_split_2
      simp only [rdF]
      rw [hL.1.2.1, po_leN (by omega) hcl, po_rdI (by rw [l12]; omega) (by omega), h13]
      by_cases c1 : z.2.1 (n + 12) c = -1
      · rw [if_pos c1, if_pos c1, po_wrI (by rw [l12]; omega) (by omega)]
      · rw [if_neg c1, if_neg c1]
    by_cases c1 : z.2.1 (n + 12) c = -1
    · have hne : nI P ≠ -1 := rn_neg1 (by omega)
      have hfr : rn_frP n z (usI z (n + 12) c (nI P)) := ⟨fun _ _ => rfl, rfl, fun g hg => po_usI_ot hg⟩
      obtain ⟨a1, a2, a3, a4⟩ := hS
      have hS2 : rn_SI A (upd (z.2.1 (n + 12)) c (nI P)) P c := by
        have nc : ∀ a p, p < P → upd (z.2.1 (n + 12)) c (nI P) a = nI p → a ≠ c ∧ z.2.1 (n + 12) a = nI p := by
          intro a p hp ha
          have hac : a ≠ c := fun e => by
            rw [e, pk_us] at ha
            have := (nI_eq (a := P) (b := p) (by omega) (by omega)).mp ha
            omega
          rw [pk_un hac] at ha
          exact ⟨hac, ha⟩
        refine ⟨fun b hb => ?_, fun a b p hp hab ha => ?_, fun a b p hp ha hb hma hmb => ?_, pk_us, fun b hb hmb => ?_, fun p hp => ?_⟩
        · by_cases hbc : b = c
          · rw [hbc]
            exact Or.inr ⟨P, Nat.le_refl _, pk_us⟩
          · rw [pk_un hbc]
            exact (a1 b hb).imp id (fun ⟨p, hp, e⟩ => ⟨p, by omega, e⟩)
        · have hb := a2 a b p hp hab (nc a p hp ha).2
          have hbc : b ≠ c := fun e => by
            rw [e, c1] at hb
            exact rn_neg1 (v := p) (by omega) hb.symm
          rw [pk_un hbc]
          exact hb
        · exact a3 a b p hp ha hb (nc a p hp hma).2 (nc b p hp hmb).2
        · by_cases hbc : b = c
          · rw [hbc]
            exact rn_con.rf
          · rw [pk_un hbc] at hmb
            rcases a1 b hb with e | ⟨p, hp, e⟩
            · rw [e] at hmb
              exact absurd hmb.symm hne
            · rw [e] at hmb
              have := (nI_eq (a := p) (b := P) (by omega) (by omega)).mp hmb
              omega
        · obtain ⟨a, ha, hma⟩ := a4 p hp
          refine ⟨a, ha, ?_⟩
          rw [pk_un (fun e => by rw [e, c1] at hma; exact rn_neg1 (v := p) (by omega) hma.symm)]
          exact hma
      have hcu : rn_cU ((usI z (n + 12) c (nI P)).2.1 (n + 12)) A.length ≤ 39 := Nat.le_trans (rn_cU_le _) hcn
      obtain ⟨k3, z3, h1, h2, h3, h4, h5, h6⟩ := rn_split_wh (K := K) hn hlen hcn hd (by omega) hcl 39 (k + 1) (usI z (n + 12) c (nI P)) hcu (rn_frP_lk hfr hL) h13 (by rw [po_usI_row]; exact hS2) (by omega)
      obtain ⟨k4, rfl⟩ : ∃ k', k3 = k' + 1 := ⟨k3 - 1, by omega⟩
      rw [po_usI_row] at h6
      obtain ⟨z1, P1, f1, f2, f3⟩ := ih (c + 1) k4 (P + 1) z3 (by omega) (by omega) (rn_frP_lk (rn_frP_tr hfr h3) hL) h4 h5 (fun c' hc' => by
        by_cases hce : c' = c
        · rw [hce, h6 c (by rw [pk_us]; exact hne), pk_us]
          exact hne
        · have e9 := pk_un (f := z.2.1 (n + 12)) (x := nI P) hce
          have h9 := hm c' (by omega)
          rw [h6 c' (by rw [e9]; exact h9), e9]
          exact h9) (by omega)
      exact ⟨z1, P1, (blk.trans (if_pos c1)).trans (h2.trans ((s6 k4 z3).trans f1)), rn_frP_tr hfr (rn_frP_tr h3 f2), f3⟩
    · obtain ⟨z1, P1, f1, f2, f3⟩ := ih (c + 1) k P z (by omega) (by omega) hL h13 hS (fun c' hc' => by
        by_cases hce : c' = c
        · rw [hce]
          exact c1
        · exact hm c' (by omega)) (by omega)
      exact ⟨z1, P1, (blk.trans (if_neg c1)).trans ((s6 k z).trans f1), f2, f3⟩
theorem rn_split_0 {K n : Nat} {A : rn_L} (hn : mw_net n) (hcn : A.length ≤ 39) : ∀ (d c k : Nat) (z : ow_MS), c + d = A.length → rn_lk z n A → (∀ c', c' < c → z.2.1 (n + 12) c' = -1) → ∃ z1 : ow_MS, q_X12_split K (k + d + 1) 1 (nI c) 0 0 n z = q_X12_split K k 2 0 0 0 n z1 ∧ rn_frP n z z1 ∧ z1.1 (n + 13) = 0 ∧ ∀ c', c' < A.length → z1.2.1 (n + 12) c' = -1 := by
  obtain ⟨-, -, -, -, -, -, -, -, -, l12, -⟩ := po_len hn
  intro d
  induction d with
  | zero =>
    intro c k z hc hL hm
    refine ⟨usF z (n + 13) 0, ?_, ⟨fun g hg => po_usF_ot hg, rfl, fun _ _ => rfl⟩, po_usF_at, fun c' hc' => hm c' (by omega)⟩
    show qm_X12_split_1 K (q_X12_split K k) (nI c) 0 0 n z = _
    generalize q_X12_split K k = go
    unfold qm_X12_split_1
    simp only [rdF, wrF]
    rw [hL.1.2.1, po_le (by omega) (by omega)]
  | succ d ih =>
    intro c k z hc hL hm
    have hfr : rn_frP n z (usI z (n + 12) c (-1)) := ⟨fun _ _ => rfl, rfl, fun g hg => po_usI_ot hg⟩
    obtain ⟨z1, f1, f2, f3, f4⟩ := ih (c + 1) k (usI z (n + 12) c (-1)) (by omega) (rn_frP_lk hfr hL) (fun c' hc' => by
      rw [po_usI_row]
      by_cases hce : c' = c
      · rw [hce]
        exact pk_us
      · rw [pk_un hce]
        exact hm c' (by omega))
    have blk : q_X12_split K (k + (d + 1) + 1) 1 (nI c) 0 0 n z = q_X12_split K (k + d + 1) 1 (nI (c + 1)) 0 0 n (usI z (n + 12) c (-1)) := by
      rw [show k + (d + 1) + 1 = k + d + 1 + 1 by omega]
      generalize k + d + 1 = kk
      show qm_X12_split_1 K (q_X12_split K kk) (nI c) 0 0 n z = _
      generalize q_X12_split K kk = go
      unfold qm_X12_split_1
      simp only [rdF, wrF]
      rw [hL.1.2.1, po_leN (by omega) (by omega), po_wrI (by rw [l12]; omega) (by omega), nI_1]
    exact ⟨z1, blk.trans f1, rn_frP_tr hfr f2, f3, f4⟩
/-- split: the parts -/
theorem rn_split {K n : Nat} {z : ow_MS} {A : rn_L} (hK : 200000 ≤ K) (hn : mw_net n) (hlen : A.flatten.length ≤ 40) (hcn : A.length ≤ 39) (hd : rn_ok A.flatten) (hL : rn_lk z n A) : ∃ (z1 : ow_MS) (P : Nat), qe_X12_split K n z = some z1 ∧ rn_frP n z z1 ∧ rn_pt z1 n A P := by
  obtain ⟨k, hk⟩ : ∃ k', K = k' + A.length + 1 + 1 := ⟨K - A.length - 2, by omega⟩
  obtain ⟨z2, e1, e2, e3, e4⟩ := rn_split_0 (K := K) hn hcn A.length 0 k z (by omega) hL (fun c hc => by omega)
  obtain ⟨z1, P, f1, f2, f3⟩ := rn_split_out (K := K) hn hlen hcn hd A.length 0 k 0 z2 (by omega) (Nat.le_refl _) (rn_frP_lk e2 hL) e3 ⟨fun c hc => Or.inl (e4 c hc), fun a b p hp => by omega, fun a b p hp => by omega, fun p hp => by omega⟩ (fun c hc => by omega) (by omega)
  refine ⟨z1, P, ?_, rn_frP_tr e2 f2, f3⟩
  have st : qe_X12_split K n z = q_X12_split K (k + A.length + 1) 1 (nI 0) 0 0 n z := by
    have h1 : qe_X12_split K n z = q_X12_split K K 0 0 0 0 n z := rfl
    have h2 : q_X12_split K (k + A.length + 1 + 1) 0 0 0 0 n z = q_X12_split K (k + A.length + 1) 1 (nI 0) 0 0 n z := by
      generalize k + A.length + 1 = kk
      rfl
    rw [h1]
    exact (congrArg (fun j => q_X12_split K j 0 0 0 0 n z) hk).trans h2
  exact st.trans (e1.trans f1)
