def rn_cU (M : Nat → Int32) : Nat → Nat
  | 0 => 0
  | n + 1 => rn_cU M n + if M n = -1 then 1 else 0
theorem rn_cU_ge {M : Nat → Int32} {b : Nat} {x : Int32} : ∀ n, n ≤ b → rn_cU (upd M b x) n = rn_cU M n
  | 0, _ => rfl
  | n + 1, h => by
    unfold rn_cU
    rw [rn_cU_ge n (by omega), pk_un (by omega)]
theorem rn_cU_upd {M : Nat → Int32} {b : Nat} {x : Int32} (hM : M b = -1) (hx : x ≠ -1) : ∀ n, b < n → rn_cU (upd M b x) n + 1 = rn_cU M n
  | 0, h => by omega
  | n + 1, h => by
    unfold rn_cU
    by_cases hb : b = n
    · subst hb
      rw [rn_cU_ge b (Nat.le_refl _), pk_us, if_neg hx, hM, if_pos rfl]
    · have := rn_cU_upd hM hx n (by omega)
      rw [pk_un (fun e => hb e.symm)]
      omega
theorem rn_cU_le {M : Nat → Int32} : ∀ n, rn_cU M n ≤ n
  | 0 => Nat.le_refl _
  | n + 1 => by
    have := rn_cU_le (M := M) n
    unfold rn_cU
    by_cases h : M n = -1
    · rw [if_pos h]; omega
    · rw [if_neg h]; omega
/-- every visit has a mate, and only one -/
def rn_ok (F : List (Nat × Nat)) : Prop := rn_d2 F ∧ ∀ v, v < F.length → ∃ w, rn_mt F v w
theorem rn_mt_lt {F : List (Nat × Nat)} {v w : Nat} (h : rn_mt F v w) : v < F.length ∧ w < F.length := by
  obtain ⟨-, p, q, h1, h2, -⟩ := h
  exact ⟨(List.getElem?_eq_some_iff.mp h1).1, (List.getElem?_eq_some_iff.mp h2).1⟩
/-- components that share a crossing -/
def rn_adj (A : rn_L) (a b : Nat) : Prop := ∃ v w, rn_mt A.flatten v w ∧ rn_c A v = a ∧ rn_c A w = b
theorem rn_adj.symm {A : rn_L} {a b : Nat} (h : rn_adj A a b) : rn_adj A b a := by
  obtain ⟨v, w, h1, h2, h3⟩ := h
  exact ⟨w, v, h1.symm, h3, h2⟩
def rn_con (A : rn_L) (a b : Nat) : Prop := ∀ S : Nat → Prop, S a → (∀ x y, S x → rn_adj A x y → S y) → S b
theorem rn_con.rf {A : rn_L} {a : Nat} : rn_con A a a := fun _ h _ => h
theorem rn_con.tr {A : rn_L} {a b c : Nat} (h1 : rn_con A a b) (h2 : rn_con A b c) : rn_con A a c := fun S hs hc => h2 S (h1 S hs hc) hc
theorem rn_con.st {A : rn_L} {a b c : Nat} (h1 : rn_con A a b) (h2 : rn_adj A b c) : rn_con A a c := fun S hs hc => hc b c (h1 S hs hc) h2
theorem rn_con.symm {A : rn_L} {a b : Nat} (h : rn_con A a b) : rn_con A b a := h (fun x => rn_con A x a) rn_con.rf (fun x y hx hxy => fun S hs hc => hx S (hc y x hs hxy.symm) hc)
/-- what split reads: a linked net -/
def rn_lk (z : ow_MS) (n : Nat) (A : rn_L) : Prop := rn_At z n A [] ∧ rn_LI z n A A.flatten.length
theorem fr_lk {P : Nat → Prop} {z z1 : ow_MS} {n : Nat} {A : rn_L} (hf : fr P z z1) (hP : ∀ g, P g → g < n + 1 ∨ n + 5 < g ∧ g < n + 7 ∨ n + 11 < g) (h : rn_lk z n A) : rn_lk z1 n A := by
  obtain ⟨h0, i1, i2, i3⟩ := h
  have e : ∀ g, n + 7 ≤ g → g ≤ n + 11 → z1.2.1 g = z.2.1 g := fun g h1 h2 => (hf g (fun h9 => by have := hP g h9; omega)).2.1
  refine ⟨fr_At hf (fun g hg => by have := hP g hg; omega) h0, fun v hv => ?_, fun x hx => ?_, fun v w hv hw hm => ?_⟩
  · rw [e _ (by omega) (by omega), e (n + 9) (by omega) (by omega), e (n + 10) (by omega) (by omega)]; exact i1 v hv
  · rw [e _ (by omega) (by omega)]; exact i2 x hx
  · rw [e _ (by omega) (by omega)]; exact i3 v w hv hw hm
theorem rn_lk.V {z : ow_MS} {n : Nat} {A : rn_L} (h : rn_lk z n A) : z.1 (n + 1) = nI A.flatten.length := by
  rw [h.1.1, List.append_nil]
/-- the marks while part P grows from component c0 -/
def rn_SI (A : rn_L) (M : Nat → Int32) (P c0 : Nat) : Prop := (∀ c, c < A.length → M c = -1 ∨ ∃ p, p ≤ P ∧ M c = nI p) ∧ (∀ a b p, p < P → rn_adj A a b → M a = nI p → M b = nI p) ∧ (∀ a b p, p < P → a < A.length → b < A.length → M a = nI p → M b = nI p → rn_con A a b) ∧ M c0 = nI P ∧ (∀ b, b < A.length → M b = nI P → rn_con A c0 b) ∧ ∀ p, p < P → ∃ a, a < A.length ∧ M a = nI p
theorem rn_SI_st {A : rn_L} {M : Nat → Int32} {P c0 v w : Nat} (hP : P < 39) (hm : rn_mt A.flatten v w) (ca : rn_c A v < A.length) (c1 : M (rn_c A v) = nI P) (c2 : M (rn_c A w) = -1) (hS : rn_SI A M P c0) : rn_SI A (upd M (rn_c A w) (nI P)) P c0 := by
  have hne : nI P ≠ -1 := rn_neg1 (by omega)
  have hadj : rn_adj A (rn_c A v) (rn_c A w) := ⟨v, w, hm, rfl, rfl⟩
  obtain ⟨a1, a2, a3, a4, a5, a6⟩ := hS
  refine ⟨fun c hc => ?_, fun a b p hp hab ha => ?_, fun a b p hp ha hb hma hmb => ?_, ?_, fun b hb hmb => ?_, fun p hp => ?_⟩
  · by_cases hcw : c = rn_c A w
    · rw [hcw]
      exact Or.inr ⟨P, Nat.le_refl _, pk_us⟩
    · rw [pk_un hcw]
      exact a1 c hc
  · by_cases haw : a = rn_c A w
    · rw [haw, pk_us] at ha
      have := (nI_eq (a := P) (b := p) (by omega) (by omega)).mp ha
      omega
    · rw [pk_un haw] at ha
      have hb := a2 a b p hp hab ha
      by_cases hbw : b = rn_c A w
      · rw [hbw, c2] at hb
        exact absurd hb.symm (rn_neg1 (by omega))
      · rw [pk_un hbw]
        exact hb
  · have haw : a ≠ rn_c A w := fun e => by
      rw [e, pk_us] at hma
      have := (nI_eq (a := P) (b := p) (by omega) (by omega)).mp hma
      omega
    have hbw : b ≠ rn_c A w := fun e => by
      rw [e, pk_us] at hmb
      have := (nI_eq (a := P) (b := p) (by omega) (by omega)).mp hmb
      omega
    rw [pk_un haw] at hma
    rw [pk_un hbw] at hmb
    exact a3 a b p hp ha hb hma hmb
  · rw [pk_un (fun e => by rw [← e, a4] at c2; exact hne c2)]
    exact a4
  · by_cases hbw : b = rn_c A w
    · rw [hbw]
      exact (a5 _ ca c1).st hadj
    · rw [pk_un hbw] at hmb
      exact a5 b hb hmb
  · obtain ⟨a, ha, hma⟩ := a6 p hp
    refine ⟨a, ha, ?_⟩
    rw [pk_un (fun e => by rw [e, c2] at hma; exact rn_neg1 (v := p) (by omega) hma.symm)]
    exact hma
/-- the marks when parts below P are done -/
def rn_SD (A : rn_L) (M : Nat → Int32) (P : Nat) : Prop := (∀ c, c < A.length → M c = -1 ∨ ∃ p, p < P ∧ M c = nI p) ∧ (∀ a b p, p < P → rn_adj A a b → M a = nI p → M b = nI p) ∧ (∀ a b p, p < P → a < A.length → b < A.length → M a = nI p → M b = nI p → rn_con A a b) ∧ ∀ p, p < P → ∃ a, a < A.length ∧ M a = nI p
theorem rn_SI_SD {A : rn_L} {M : Nat → Int32} {P c0 : Nat} (hP : P < 39) (hc0 : c0 < A.length) (hS : rn_SI A M P c0) (hcl : ∀ v w, v < A.flatten.length → rn_mt A.flatten v w → M (rn_c A v) = nI P → M (rn_c A w) ≠ -1) : rn_SD A M (P + 1) := by
  obtain ⟨a1, a2, a3, a4, a5, a6⟩ := hS
  refine ⟨fun c hc => (a1 c hc).imp id (fun ⟨p, hp, e⟩ => ⟨p, by omega, e⟩), fun a b p hp hab ha => ?_, fun a b p hp ha hb hma hmb => ?_, fun p hp => ?_⟩
  · by_cases hpP : p < P
    · exact a2 a b p hpP hab ha
    · have hpe : P = p := by omega
      subst hpe
      obtain ⟨v, w, hm, rfl, rfl⟩ := hab
      have hnb := hcl v w (rn_mt_lt hm).1 hm ha
      rcases a1 (rn_c A w) (rn_c_in A w (rn_mt_lt hm).2).1 with e | ⟨p, hp2, e⟩
      · exact absurd e hnb
      · by_cases hpp : p = P
        · rw [← hpp]
          exact e
        · have h9 := a2 _ _ p (by omega) (rn_adj.symm ⟨v, w, hm, rfl, rfl⟩) e
          rw [ha] at h9
          have := (nI_eq (a := P) (b := p) (by omega) (by omega)).mp h9
          omega
  · by_cases hpP : p < P
    · exact a3 a b p hpP ha hb hma hmb
    · have hpe : P = p := by omega
      subst hpe
      exact (a5 a ha hma).symm.tr (a5 b hb hmb)
  · by_cases hpP : p < P
    · exact a6 p hpP
    · have hpe : P = p := by omega
      subst hpe
      exact ⟨c0, hc0, a4⟩
theorem rn_SI_0 {A : rn_L} {M : Nat → Int32} {P c : Nat} (hP : P < 39) (c1 : M c = -1) (hS : rn_SD A M P) : rn_SI A (upd M c (nI P)) P c := by
  have hne : nI P ≠ -1 := rn_neg1 (by omega)
  obtain ⟨a1, a2, a3, a4⟩ := hS
  have nc : ∀ a p, p < P → upd (M) c (nI P) a = nI p → a ≠ c ∧ M a = nI p := by
    intro a p hp ha
    have hac : a ≠ c := fun e => by
      rw [e, pk_us] at ha
      have := (nI_eq (a := P) (b := p) (by omega) (by omega)).mp ha
      omega
    rw [pk_un hac] at ha
    exact ⟨hac, ha⟩
  refine ⟨fun b hb => ?_, fun a b p hp hab ha => ?_, fun a b p hp ha hb hma hmb => ?_, pk_us, fun b hb hmb => ?_, fun p hp => ?_⟩
  · by_cases hbc : b = c
    · rw [hbc]
      exact Or.inr ⟨P, Nat.le_refl _, pk_us⟩
    · rw [pk_un hbc]
      exact (a1 b hb).imp id (fun ⟨p, hp, e⟩ => ⟨p, by omega, e⟩)
  · have hb := a2 a b p hp hab (nc a p hp ha).2
    have hbc : b ≠ c := fun e => by
      rw [e, c1] at hb
      exact rn_neg1 (v := p) (by omega) hb.symm
    rw [pk_un hbc]
    exact hb
  · exact a3 a b p hp ha hb (nc a p hp hma).2 (nc b p hp hmb).2
  · by_cases hbc : b = c
    · rw [hbc]
      exact rn_con.rf
    · rw [pk_un hbc] at hmb
      rcases a1 b hb with e | ⟨p, hp, e⟩
      · rw [e] at hmb
        exact absurd hmb.symm hne
      · rw [e] at hmb
        have := (nI_eq (a := p) (b := P) (by omega) (by omega)).mp hmb
        omega
  · obtain ⟨a, ha, hma⟩ := a4 p hp
    refine ⟨a, ha, ?_⟩
    rw [pk_un (fun e => by rw [e, c1] at hma; exact rn_neg1 (v := p) (by omega) hma.symm)]
    exact hma
/-- the parts of a linked net -/
def rn_pt (z : ow_MS) (n : Nat) (A : rn_L) (P : Nat) : Prop := z.1 (n + 13) = nI P ∧ P ≤ A.length ∧ rn_SD A (z.2.1 (n + 12)) P ∧ ∀ c, c < A.length → z.2.1 (n + 12) c ≠ -1
abbrev frP (n g : Nat) : Prop := g = n + 12 ∨ g = n + 13
theorem u_X12_split_4 {x1 : Int32} {x2 : Int32} {x3 : Int32} {r0 : Nat} {z : ow_MS} {Q : ow_MS → Prop} (H : Tt (fun K k => qm_X12_split_4 K (q_X12_split K k) x1 x2 x3 r0 z) Q) : Tt (fun K k => q_X12_split K k 4 x1 x2 x3 r0 z) Q := w_un (fun _ _ => rfl) H
theorem u_X12_split_5 {x1 : Int32} {x2 : Int32} {x3 : Int32} {r0 : Nat} {z : ow_MS} {Q : ow_MS → Prop} (H : Tt (fun K k => qm_X12_split_5 K (q_X12_split K k) x1 x2 x3 r0 z) Q) : Tt (fun K k => q_X12_split K k 5 x1 x2 x3 r0 z) Q := w_un (fun _ _ => rfl) H
theorem u_X12_split_3 {x1 : Int32} {x2 : Int32} {x3 : Int32} {r0 : Nat} {z : ow_MS} {Q : ow_MS → Prop} (H : Tt (fun K k => qm_X12_split_3 K (q_X12_split K k) x1 x2 x3 r0 z) Q) : Tt (fun K k => q_X12_split K k 3 x1 x2 x3 r0 z) Q := w_un (fun _ _ => rfl) H
theorem u_X12_split_2 {x1 : Int32} {x2 : Int32} {x3 : Int32} {r0 : Nat} {z : ow_MS} {Q : ow_MS → Prop} (H : Tt (fun K k => qm_X12_split_2 K (q_X12_split K k) x1 x2 x3 r0 z) Q) : Tt (fun K k => q_X12_split K k 2 x1 x2 x3 r0 z) Q := w_un (fun _ _ => rfl) H
theorem u_X12_split_6 {x1 : Int32} {x2 : Int32} {x3 : Int32} {r0 : Nat} {z : ow_MS} {Q : ow_MS → Prop} (H : Tt (fun K k => qm_X12_split_6 K (q_X12_split K k) x1 x2 x3 r0 z) Q) : Tt (fun K k => q_X12_split K k 6 x1 x2 x3 r0 z) Q := w_un (fun _ _ => rfl) H
theorem u_X12_split_1 {x1 : Int32} {x2 : Int32} {x3 : Int32} {r0 : Nat} {z : ow_MS} {Q : ow_MS → Prop} (H : Tt (fun K k => qm_X12_split_1 K (q_X12_split K k) x1 x2 x3 r0 z) Q) : Tt (fun K k => q_X12_split K k 1 x1 x2 x3 r0 z) Q := w_un (fun _ _ => rfl) H
theorem e_X12_split {r0 : Nat} {z : ow_MS} {Q : ow_MS → Prop} (H : Tt (fun K k => q_X12_split K k 0 0 0 0 r0 z) Q) : Te (fun K => qe_X12_split K r0 z) Q := w_te H
theorem u_X12_split_0 {x1 : Int32} {x2 : Int32} {x3 : Int32} {r0 : Nat} {z : ow_MS} {Q : ow_MS → Prop} (H : Tt (fun K k => qm_X12_split_0 K (q_X12_split K k) x1 x2 x3 r0 z) Q) : Tt (fun K k => q_X12_split K k 0 x1 x2 x3 r0 z) Q := w_un (fun _ _ => rfl) H
/-- split: the parts -/
theorem tn_split {n : Nat} {z : ow_MS} {A : rn_L} (hn : mw_net n) (hlen : A.flatten.length ≤ 40) (hcn : A.length ≤ 39) (hd : rn_ok A.flatten) (hL : rn_lk z n A) : Te (fun K => qe_X12_split K n z) (fun z1 => fr (frP n) z z1 ∧ ∃ P, rn_pt z1 n A P) := by
  have frK : ∀ {y y1 : ow_MS}, fr (frP n) y y1 → rn_lk y n A → rn_lk y1 n A := fun hf h => fr_lk hf (fun g hg => by rcases hg with hg | hg <;> omega) h
  let Q : ow_MS → Prop := fun z1 => fr (frP n) z z1 ∧ ∃ P, rn_pt z1 n A P
  have pass : ∀ (c0 P : Nat), P < 39 → c0 < A.length → ∀ (M0 : Nat → Int32), ∀ (d v : Nat) (g : Int32) (z1 : ow_MS), v + d = A.flatten.length → fr (frP n) z z1 → z1.1 (n + 13) = nI P → rn_SI A (z1.2.1 (n + 12)) P c0 → (g = 0 → ∀ v' w, v' < v → rn_mt A.flatten v' w → z1.2.1 (n + 12) (rn_c A v') = nI P → z1.2.1 (n + 12) (rn_c A w) ≠ -1) → (g = 0 ∧ rn_cU (z1.2.1 (n + 12)) A.length ≤ rn_cU M0 A.length ∨ g = 1 ∧ rn_cU (z1.2.1 (n + 12)) A.length < rn_cU M0 A.length) → (∀ c, M0 c ≠ -1 → z1.2.1 (n + 12) c = M0 c) →
      (∀ (g1 : Int32) (z2 : ow_MS), fr (frP n) z z2 → z2.1 (n + 13) = nI P → rn_SI A (z2.2.1 (n + 12)) P c0 → (g1 = 0 → ∀ v' w, v' < A.flatten.length → rn_mt A.flatten v' w → z2.2.1 (n + 12) (rn_c A v') = nI P → z2.2.1 (n + 12) (rn_c A w) ≠ -1) → (g1 = 0 ∧ rn_cU (z2.2.1 (n + 12)) A.length ≤ rn_cU M0 A.length ∨ g1 = 1 ∧ rn_cU (z2.2.1 (n + 12)) A.length < rn_cU M0 A.length) → (∀ c, M0 c ≠ -1 → z2.2.1 (n + 12) c = M0 c) → Tt (fun K k => q_X12_split K k 3 (nI c0) g1 0 n z2) Q) → Tt (fun K k => q_X12_split K k 4 (nI c0) g (nI v) n z1) Q := by
    intro c0 P hP hc0 M0 d
    induction d with
    | zero =>
      intro v g z1 hv hf h13 hS hq hcu hmo hout
      have hv2 : v = A.flatten.length := by omega
      subst hv2
      refine u_X12_split_4 ?_; unfold qm_X12_split_4
      exact w_rdF (frK hf hL).V (w_leT (by omega) (Nat.le_refl _) (hout g z1 hf h13 hS hq hcu hmo))
    | succ d ih =>
      intro v g z1 hv hf h13 hS hq hcu hmo hout
      have hL1 := frK hf hL
      have hvl : v < A.flatten.length := by omega
      obtain ⟨w, hm⟩ := hd.2 v hvl
      have hwl := (rn_mt_lt hm).2
      obtain ⟨ca, -, -⟩ := rn_c_in A v hvl
      obtain ⟨cb, -, -⟩ := rn_c_in A w hwl
      have e8 := (hL1.2.1 v hvl).1
      have e8w := (hL1.2.1 w hwl).1
      have e7 := hL1.2.2.2 v w hvl hwl hm
      have uniq : ∀ w', rn_mt A.flatten v w' → w' = w := fun w' h9 => hd.1.1 v w' w h9 hm
      have hne : nI P ≠ -1 := rn_neg1 (by omega)
      refine u_X12_split_4 ?_; unfold qm_X12_split_4
      refine w_rdF hL1.V (w_leF (by omega) hvl (w_rdI (pl8 hn) rfl (by omega) e8 (w_rdI (pl12 hn) rfl (by omega) rfl (w_rdF h13 (w_if (fun c1 => w_rdI (pl7 hn) rfl (by omega) e7 (w_rdI (pl8 hn) rfl (by omega) e8w (w_rdI (pl12 hn) rfl (by omega) rfl (w_if (fun c2 => w_rdI (pl7 hn) rfl (by omega) e7 (w_rdI (pl8 hn) rfl (by omega) e8w (w_rdF h13 (w_wrI (pl12 hn) rfl (by omega) ?_)))) (fun c2 => ?_))))) (fun c1 => ?_))))))
      · refine u_X12_split_5 ?_; unfold qm_X12_split_5
        rw [nI_1]
        have cu := rn_cU_upd (M := z1.2.1 (n + 12)) (x := nI P) c2 hne A.length cb
        refine ih (v + 1) 1 _ (by omega) (fr_I2 hf (Or.inl rfl)) h13 (by rw [po_usI_row]; exact rn_SI_st hP hm ca c1 c2 hS) (fun h9 => absurd h9 (by decide)) (Or.inr ⟨rfl, by rw [po_usI_row]; omega⟩) (fun c hc => ?_) hout
        have hcw : c ≠ rn_c A w := fun e => hc (by rw [← hmo c hc, e]; exact c2)
        exact rd_ne hcw (hmo c hc)
      · refine u_X12_split_5 ?_; unfold qm_X12_split_5
        rw [nI_1]
        refine ih (v + 1) g z1 (by omega) hf h13 hS (fun h9 v' w' hv' hm' hM => ?_) hcu hmo hout
        by_cases hvv : v' = v
        · rw [hvv] at hm'
          rw [uniq w' hm']
          exact c2
        · exact hq h9 v' w' (by omega) hm' hM
      · refine u_X12_split_5 ?_; unfold qm_X12_split_5
        rw [nI_1]
        refine ih (v + 1) g z1 (by omega) hf h13 hS (fun h9 v' w' hv' hm' hM => ?_) hcu hmo hout
        by_cases hvv : v' = v
        · rw [hvv] at hM
          exact absurd hM c1
        · exact hq h9 v' w' (by omega) hm' hM
  have wh : ∀ (c0 P : Nat), P < 39 → c0 < A.length → ∀ (u : Nat) (z1 : ow_MS), rn_cU (z1.2.1 (n + 12)) A.length ≤ u → fr (frP n) z z1 → z1.1 (n + 13) = nI P → rn_SI A (z1.2.1 (n + 12)) P c0 →
      (∀ (z2 : ow_MS), fr (frP n) z z2 → z2.1 (n + 13) = nI (P + 1) → rn_SD A (z2.2.1 (n + 12)) (P + 1) → (∀ c, z1.2.1 (n + 12) c ≠ -1 → z2.2.1 (n + 12) c = z1.2.1 (n + 12) c) → Tt (fun K k => q_X12_split K k 6 (nI c0) 0 0 n z2) Q) → Tt (fun K k => q_X12_split K k 3 (nI c0) 1 0 n z1) Q := by
    intro c0 P hP hc0 u
    induction u with
    | zero =>
      intro z1 hu hf h13 hS hout
      refine u_X12_split_3 ?_; unfold qm_X12_split_3
      refine w_ifF (by decide) (pass c0 P hP hc0 (z1.2.1 (n + 12)) A.flatten.length 0 0 z1 (by omega) hf h13 hS (fun _ v' w hv => by omega) (Or.inl ⟨rfl, Nat.le_refl _⟩) (fun _ _ => rfl) (fun g1 z2 hf2 h132 hS2 hq2 hcu2 hmo2 => ?_))
      rcases hcu2 with ⟨e, hcu⟩ | ⟨e, hcu⟩
      · subst e
        refine u_X12_split_3 ?_; unfold qm_X12_split_3
        refine w_ifT rfl (w_rdF h132 (w_wrF ?_))
        rw [nI_1]
        exact hout _ (fr_F2 hf2 (Or.inr rfl)) po_usF_at (rn_SI_SD hP hc0 hS2 (hq2 rfl)) hmo2
      · omega
    | succ u ih =>
      intro z1 hu hf h13 hS hout
      refine u_X12_split_3 ?_; unfold qm_X12_split_3
      refine w_ifF (by decide) (pass c0 P hP hc0 (z1.2.1 (n + 12)) A.flatten.length 0 0 z1 (by omega) hf h13 hS (fun _ v' w hv => by omega) (Or.inl ⟨rfl, Nat.le_refl _⟩) (fun _ _ => rfl) (fun g1 z2 hf2 h132 hS2 hq2 hcu2 hmo2 => ?_))
      rcases hcu2 with ⟨e, hcu⟩ | ⟨e, hcu⟩
      · subst e
        refine u_X12_split_3 ?_; unfold qm_X12_split_3
        refine w_ifT rfl (w_rdF h132 (w_wrF ?_))
        rw [nI_1]
        exact hout _ (fr_F2 hf2 (Or.inr rfl)) po_usF_at (rn_SI_SD hP hc0 hS2 (hq2 rfl)) hmo2
      · subst e
        exact ih z2 (by omega) hf2 h132 hS2 (fun z3 a1 a2 a3 a4 => hout z3 a1 a2 a3 (fun c hc => by
          have e9 := hmo2 c hc
          rw [a4 c (by rw [e9]; exact hc), e9]))
  have out : ∀ (d c P : Nat) (z1 : ow_MS), c + d = A.length → P ≤ c → fr (frP n) z z1 → z1.1 (n + 13) = nI P → rn_SD A (z1.2.1 (n + 12)) P → (∀ c', c' < c → z1.2.1 (n + 12) c' ≠ -1) → Tt (fun K k => q_X12_split K k 2 (nI c) 0 0 n z1) Q := by
    intro d
    induction d with
    | zero =>
      intro c P z1 hc hP hf h13 hS hm
      refine u_X12_split_2 ?_; unfold qm_X12_split_2
      exact w_rdF (frK hf hL).1.2.1 (w_leT (by omega) (by omega) (w_some ⟨hf, P, h13, by omega, hS, fun c' hc' => hm c' (by omega)⟩))
    | succ d ih =>
      intro c P z1 hc hP hf h13 hS hm
      have hcl : c < A.length := by omega
      have hne : nI P ≠ -1 := rn_neg1 (by omega)
      refine u_X12_split_2 ?_; unfold qm_X12_split_2
      refine w_rdF (frK hf hL).1.2.1 (w_leF (by omega) (by omega) (w_rdI (pl12 hn) rfl (by omega) rfl (w_if (fun c1 => w_rdF h13 (w_wrI (pl12 hn) rfl (by omega) (wh c P (by omega) hcl _ _ (Nat.le_refl _) (fr_I2 hf (Or.inl rfl)) h13 (by rw [po_usI_row]; exact rn_SI_0 (by omega) c1 hS) (fun z2 hf2 h132 hS2 hmo => ?_)))) (fun c1 => ?_))))
      · refine u_X12_split_6 ?_; unfold qm_X12_split_6
        rw [nI_1]
        rw [po_usI_row] at hmo
        refine ih (c + 1) (P + 1) z2 (by omega) (by omega) hf2 h132 hS2 (fun c' hc' => ?_)
        by_cases hce : c' = c
        · rw [hce, hmo c (by rw [pk_us]; exact hne), pk_us]
          exact hne
        · have e9 := pk_un (f := z1.2.1 (n + 12)) (x := nI P) hce
          have h9 := hm c' (by omega)
          rw [hmo c' (by rw [e9]; exact h9), e9]
          exact h9
      · refine u_X12_split_6 ?_; unfold qm_X12_split_6
        rw [nI_1]
        refine ih (c + 1) P z1 (by omega) (by omega) hf h13 hS (fun c' hc' => ?_)
        by_cases hce : c' = c
        · rw [hce]
          exact c1
        · exact hm c' (by omega)
  have zer : ∀ (d c : Nat) (z1 : ow_MS), c + d = A.length → fr (frP n) z z1 → (∀ c', c' < c → z1.2.1 (n + 12) c' = -1) → Tt (fun K k => q_X12_split K k 1 (nI c) 0 0 n z1) Q := by
    intro d
    induction d with
    | zero =>
      intro c z1 hc hf hm
      refine u_X12_split_1 ?_; unfold qm_X12_split_1
      refine w_rdF (frK hf hL).1.2.1 (w_leT (by omega) (by omega) (w_wrF (out A.length 0 0 _ (by omega) (Nat.le_refl _) (fr_F2 hf (Or.inr rfl)) po_usF_at ⟨fun c hc => Or.inl (hm c (by omega)), fun a b p hp => by omega, fun a b p hp => by omega, fun p hp => by omega⟩ (fun c hc => by omega))))
    | succ d ih =>
      intro c z1 hc hf hm
      refine u_X12_split_1 ?_; unfold qm_X12_split_1
      refine w_rdF (frK hf hL).1.2.1 (w_leF (by omega) (by omega) (w_wrI (pl12 hn) rfl (by omega) ?_))
      rw [nI_1]
      refine ih (c + 1) _ (by omega) (fr_I2 hf (Or.inl rfl)) (fun c' hc' => ?_)
      by_cases hce : c' = c
      · rw [hce]
        exact po_usI_at
      · exact rd_ne hce (hm c' (by omega))
  refine e_X12_split ?_
  refine u_X12_split_0 ?_; unfold qm_X12_split_0
  exact zer A.length 0 z (by omega) fr_rf (fun c hc => by omega)
