section
/-! 99zzk.state -/
/-! the reference's state between calls -/
/-- a diagram's row, or an empty one (A = []) -/
def vRow (z : ow_MS) (h o : Nat) (A : rn_L) (sg : Nat → Bool) : Prop := rc_At z h o (tk sg A) ∧ (∃ c, okF A.flatten c ∧ c ≤ 12) ∧ A.length ≤ 6
def dRow (z : ow_MS) (h o : Nat) : Prop := ∃ A sg, vRow z h o A sg
theorem dRow_fr {P : Nat → Prop} {z z1 : ow_MS} {h o : Nat} (hf : fr P z z1) (hP : ¬ P h) (hr : dRow z h o) : dRow z1 h o := by
  obtain ⟨A, sg, h1, h2⟩ := hr
  exact ⟨A, sg, rc_fr hf hP h1, h2⟩
theorem dRow_eq {z z1 : ow_MS} {h o : Nat} (he : ∀ i, o ≤ i → i < o + 32 → z1.2.1 h i = z.2.1 h i) (hr : dRow z h o) : dRow z1 h o := by
  obtain ⟨A, sg, ⟨h1, h2, h3, h4⟩, h5⟩ := hr
  refine ⟨A, sg, ⟨h1, h2, by rw [he o (by omega) (by omega)]; exact h3, fun k t hk => ?_⟩, h5⟩
  have := (List.getElem?_eq_some_iff.mp hk).1
  rw [he _ (by omega) (by omega)]
  exact h4 k t hk
theorem dRow_0 {z : ow_MS} {h o : Nat} (h0 : z.2.1 h o = 0) : dRow z h o := ⟨[], fun _ => false, ⟨Nat.zero_le _, fun t ht => by simp [tk] at ht, h0, fun k t hk => by simp [tk] at hk⟩, ⟨0, ⟨List.nodup_nil, fun p => ⟨fun h9 => by simp at h9, fun h9 => by omega⟩⟩, by omega⟩, Nat.zero_le _⟩
/-- handles whose content is kept from call to call -/
abbrev per (g : Nat) : Prop := g = 11 ∨ g = 12 ∨ 20 ≤ g ∧ g ≤ 22 ∨ g = 35 ∨ g = 36 ∨ g = 39 ∨ g = 43 ∨ g = 45 ∨ g = 50 ∨ g = 53 ∨ g = 65 ∨ g = 67 ∨ 73 ≤ g ∧ g ≤ 76 ∨ 94 ≤ g ∧ g ≤ 105
def gTape (z : ow_MS) : Prop := ∃ t, t ≤ 400 ∧ z.1 11 = nI t
def gRows (z : ow_MS) : Prop := ∀ d, d < 40 → dRow z 12 (32 * d)
def gList (z : ow_MS) : Prop := ∃ L, L ≤ 2700 ∧ z.1 22 = nI L ∧ (∀ k, k < L → ∃ j, j < L ∧ z.2.1 21 k = nI j) ∧ ∀ j, j < L → dRow z 20 (32 * j)
def gSum (z : ow_MS) : Prop := ∃ L, L ≤ 16 ∧ z.1 36 = nI L ∧ (∀ k, k < L → ∃ j, j < L ∧ z.2.1 39 k = nI j) ∧ ∀ j, j < L → dRow z 35 (32 * j)
def gCash (z : ow_MS) : Prop := (∃ T, rc_At z 43 0 T) ∧ (∃ T, rc_At z 45 0 T) ∧ (∃ T, rc_At z 50 0 T) ∧ (∃ T, rc_At z 65 0 T) ∧ ∃ c, c ≤ 40 ∧ z.1 67 = nI c
/-- a braid's place: l letters on n strands; n = 0: empty -/
def gBr (z : ow_MS) (b : Nat) : Prop := ∃ n l, n ≤ 5 ∧ n ≠ 1 ∧ z.2.1 96 b = nI n ∧ (0 < n → l ≤ 16 ∧ z.2.1 95 b = nI l ∧ ∀ i, i < l → ∃ a, a + 1 < n ∧ (z.2.1 94 (16 * b + i) = nI (a + 1) ∨ z.2.1 94 (16 * b + i) = -1 - nI a))
def gBrs (z : ow_MS) : Prop := ∀ b, b < 20 → gBr z b
def gI (X : (Nat → Nat → Int32) → Prop) (z : ow_MS) : Prop := gTape z ∧ gRows z ∧ gList z ∧ gSum z ∧ gCash z ∧ gBrs z ∧ X (fun g => z.2.1 (if g = 53 ∨ 73 ≤ g ∧ g ≤ 76 ∨ 97 ≤ g ∧ g ≤ 105 then g else 73))
section GI
variable {X : (Nat → Nat → Int32) → Prop} {P : Nat → Prop} {z z1 : ow_MS}
theorem gTape_fr (hf : fr P z z1) (hP : ¬ P 11) (h : gTape z) : gTape z1 := by
  obtain ⟨t, h1, h2⟩ := h
  exact ⟨t, h1, by rw [(hf 11 hP).1]; exact h2⟩
theorem gRows_fr (hf : fr P z z1) (hP : ¬ P 12) (h : gRows z) : gRows z1 := fun d hd => dRow_fr hf hP (h d hd)
theorem gList_fr (hf : fr P z z1) (h0 : ¬ P 20) (h1 : ¬ P 21) (h2 : ¬ P 22) (h : gList z) : gList z1 := by
  obtain ⟨L, a1, a2, a3, a4⟩ := h
  exact ⟨L, a1, by rw [(hf 22 h2).1]; exact a2, fun k hk => by rw [(hf 21 h1).2.1]; exact a3 k hk, fun j hj => dRow_fr hf h0 (a4 j hj)⟩
theorem gSum_fr (hf : fr P z z1) (h0 : ¬ P 35) (h1 : ¬ P 39) (h2 : ¬ P 36) (h : gSum z) : gSum z1 := by
  obtain ⟨L, a1, a2, a3, a4⟩ := h
  exact ⟨L, a1, by rw [(hf 36 h2).1]; exact a2, fun k hk => by rw [(hf 39 h1).2.1]; exact a3 k hk, fun j hj => dRow_fr hf h0 (a4 j hj)⟩
theorem gCash_fr (hf : fr P z z1) (h0 : ¬ P 43) (h1 : ¬ P 45) (h2 : ¬ P 50) (h3 : ¬ P 65) (h4 : ¬ P 67) (h : gCash z) : gCash z1 := by
  obtain ⟨⟨T1, a1⟩, ⟨T2, a2⟩, ⟨T3, a3⟩, ⟨T4, a4⟩, c, a5, a6⟩ := h
  exact ⟨⟨T1, rc_fr hf h0 a1⟩, ⟨T2, rc_fr hf h1 a2⟩, ⟨T3, rc_fr hf h2 a3⟩, ⟨T4, rc_fr hf h3 a4⟩, c, a5, by rw [(hf 67 h4).1]; exact a6⟩
theorem gBr_fr {b : Nat} (hf : fr P z z1) (h0 : ¬ P 94) (h1 : ¬ P 95) (h2 : ¬ P 96) (h : gBr z b) : gBr z1 b := by
  obtain ⟨n, l, a1, a2, a3, a4⟩ := h
  refine ⟨n, l, a1, a2, by rw [(hf 96 h2).2.1]; exact a3, fun hn => ?_⟩
  obtain ⟨b1, b2, b3⟩ := a4 hn
  exact ⟨b1, by rw [(hf 95 h1).2.1]; exact b2, fun i hi => by rw [(hf 94 h0).2.1]; exact b3 i hi⟩
theorem gBrs_fr (hf : fr P z z1) (h0 : ¬ P 94) (h1 : ¬ P 95) (h2 : ¬ P 96) (h : gBrs z) : gBrs z1 := fun b hb => gBr_fr hf h0 h1 h2 (h b hb)
theorem gX_fr (hf : fr P z z1) (hP : ∀ g, P g → ¬ (g = 53 ∨ 73 ≤ g ∧ g ≤ 76 ∨ 97 ≤ g ∧ g ≤ 105)) (h : X (fun g => z.2.1 (if g = 53 ∨ 73 ≤ g ∧ g ≤ 76 ∨ 97 ≤ g ∧ g ≤ 105 then g else 73))) : X (fun g => z1.2.1 (if g = 53 ∨ 73 ≤ g ∧ g ≤ 76 ∨ 97 ≤ g ∧ g ≤ 105 then g else 73)) := by
  have e : (fun g => z1.2.1 (if g = 53 ∨ 73 ≤ g ∧ g ≤ 76 ∨ 97 ≤ g ∧ g ≤ 105 then g else 73)) = fun g => z.2.1 (if g = 53 ∨ 73 ≤ g ∧ g ≤ 76 ∨ 97 ≤ g ∧ g ≤ 105 then g else 73) := by
    funext g
    refine (hf _ (fun h9 => hP _ h9 ?_)).2.1
    by_cases hg : g = 53 ∨ 73 ≤ g ∧ g ≤ 76 ∨ 97 ≤ g ∧ g ≤ 105
    · rw [if_pos hg]; exact hg
    · rw [if_neg hg]; omega
  rw [e]
  exact h
/-- what only scratch has changed -/
theorem gI_fr (hf : fr P z z1) (hP : ∀ g, P g → ¬ per g) (h : gI X z) : gI X z1 := by
  obtain ⟨h1, h2, h3, h4, h5, h6, h7⟩ := h
  have no : ∀ g, per g → ¬ P g := fun g hg h9 => hP g h9 hg
  exact ⟨gTape_fr hf (no 11 (by decide)) h1, gRows_fr hf (no 12 (by decide)) h2, gList_fr hf (no 20 (by decide)) (no 21 (by decide)) (no 22 (by decide)) h3, gSum_fr hf (no 35 (by decide)) (no 39 (by decide)) (no 36 (by decide)) h4, gCash_fr hf (no 43 (by decide)) (no 45 (by decide)) (no 50 (by decide)) (no 65 (by decide)) (no 67 (by decide)) h5, gBrs_fr hf (no 94 (by decide)) (no 95 (by decide)) (no 96 (by decide)) h6, gX_fr hf (fun g hg h9 => hP g hg (by unfold per; omega)) h7⟩
end GI
/-! the nets -/
theorem pn1 : mw_net 1000 := ⟨0, by omega, rfl⟩
theorem pn2 : mw_net 2000 := ⟨1, by omega, rfl⟩
theorem pn3 : mw_net 3000 := ⟨2, by omega, rfl⟩
/-! small methods -/
theorem e_X13_fails {x1 : Int32} {z : ow_MS} {Q : (Int32 × ow_MS) → Prop} (H : Tt (fun K _ => qm_X13_fails_0 K x1 z) Q) : Te (fun K => qe_X13_fails K x1 z) Q := w_te0 H
theorem tm_fails {c : Int32} {z : ow_MS} : Te (fun K => qe_X13_fails K c z) (fun r => r = (0, usF z 1 c)) := by
  refine e_X13_fails ?_; unfold qm_X13_fails_0
  exact w_wrF (w_some rfl)
theorem e_X13_has {x1 : Int32} {z : ow_MS} {Q : (Int32 × ow_MS) → Prop} (H : Tt (fun K _ => qm_X13_has_0 K x1 z) Q) : Te (fun K => qe_X13_has K x1 z) Q := w_te0 H
/-- has -/
theorem tm_has {x : Int32} {z : ow_MS} (h : gRows z) : Te (fun K => qe_X13_has K x z) (fun r => r.2 = z ∧ (r.1 = 0 ∨ r.1 = 1 ∧ ∃ d A sg, d < 40 ∧ x = nI d ∧ vRow z 12 (32 * d) A sg ∧ A ≠ [])) := by
  refine e_X13_has ?_; unfold qm_X13_has_0
  refine w_if (fun _ => w_okZ (Or.inl rfl) (w_some ⟨rfl, Or.inl rfl⟩)) (fun h0 => w_if (fun _ => w_okZ (Or.inl rfl) (w_some ⟨rfl, Or.inl rfl⟩)) (fun h1 => ?_))
  obtain ⟨d, hd, rfl⟩ : ∃ d, d < 40 ∧ x = nI d := by
    rcases pk_ix x (n := 40) (by omega) with h9 | h9 | h9
    · exact absurd h9 h0
    · exact absurd h9 h1
    · exact h9
  obtain ⟨A, sg, hv⟩ := h d hd
  have hl := hv.1.1
  rw [show (32 : Int32) * nI d = nI (32 * d) from pk_mul 32 d]
  refine w_rdI ml12 rfl (by omega) hv.1.2.2.1 (w_le (b := 0) (by omega) (by omega) (fun _ => w_okZ (Or.inl rfl) (w_some ⟨rfl, Or.inl rfl⟩)) (fun h9 => w_okZ (Or.inr rfl) (w_some ⟨rfl, Or.inr ⟨rfl, d, A, sg, hd, rfl, hv, fun e => ?_⟩⟩)))
  rw [e] at h9
  exact absurd h9 (by simp [tk])
/-- a place is free -/
def frD (z : ow_MS) : Prop := ∃ d, d < 40 ∧ z.2.1 12 (32 * d) ≤ 0
theorem u_X13_free_1 {x1 : Int32} {z : ow_MS} {Q : (Int32 × ow_MS) → Prop} (H : Tt (fun K k => qm_X13_free_1 K (q_X13_free K k) x1 z) Q) : Tt (fun K k => q_X13_free K k 1 x1 z) Q := w_un (fun _ _ => rfl) H
theorem u_X13_free_2 {x1 : Int32} {z : ow_MS} {Q : (Int32 × ow_MS) → Prop} (H : Tt (fun K k => qm_X13_free_2 K (q_X13_free K k) x1 z) Q) : Tt (fun K k => q_X13_free K k 2 x1 z) Q := w_un (fun _ _ => rfl) H
theorem e_X13_free {z : ow_MS} {Q : (Int32 × ow_MS) → Prop} (H : Tt (fun K k => q_X13_free K k 0 0 z) Q) : Te (fun K => qe_X13_free K z) Q := w_te H
theorem u_X13_free_0 {x1 : Int32} {z : ow_MS} {Q : (Int32 × ow_MS) → Prop} (H : Tt (fun K k => qm_X13_free_0 K (q_X13_free K k) x1 z) Q) : Tt (fun K k => q_X13_free K k 0 x1 z) Q := w_un (fun _ _ => rfl) H
theorem tm_free {z : ow_MS} : Te (fun K => qe_X13_free K z) (fun r => r.2 = z ∧ (r.1 = -1 ∧ ¬ frD z ∨ ∃ d, d < 40 ∧ r.1 = nI d ∧ z.2.1 12 (32 * d) ≤ 0 ∧ ∀ e, e < d → ¬ z.2.1 12 (32 * e) ≤ 0)) := by
  have key : ∀ (k d : Nat), d + k = 40 → (∀ e, e < d → ¬ z.2.1 12 (32 * e) ≤ 0) → Tt (fun K i => q_X13_free K i 1 (nI d) z) (fun r => r.2 = z ∧ (r.1 = -1 ∧ ¬ frD z ∨ ∃ d, d < 40 ∧ r.1 = nI d ∧ z.2.1 12 (32 * d) ≤ 0 ∧ ∀ e, e < d → ¬ z.2.1 12 (32 * e) ≤ 0)) := by
    intro k
    induction k with
    | zero =>
      intro d hd hall
      refine u_X13_free_1 ?_; unfold qm_X13_free_1
      refine w_leT (a := 40) (by omega) (by omega) ?_
      refine u_X13_free_2 ?_; unfold qm_X13_free_2
      exact w_leT (a := 40) (by omega) (by omega) (w_some ⟨rfl, Or.inl ⟨rfl, fun ⟨e, he, h9⟩ => hall e (by omega) h9⟩⟩)
    | succ k ih =>
      intro d hd hall
      refine u_X13_free_1 ?_; unfold qm_X13_free_1
      rw [show (32 : Int32) * nI d = nI (32 * d) from pk_mul 32 d, nI_1]
      refine w_leF (a := 40) (by omega) (by omega) (w_rdI ml12 rfl (by omega) rfl (w_if (fun h9 => ?_) (fun h9 => ih (d + 1) (by omega) (fun e he => ?_))))
      · refine u_X13_free_2 ?_; unfold qm_X13_free_2
        exact w_leF (a := 40) (by omega) (by omega) (w_some ⟨rfl, Or.inr ⟨d, by omega, rfl, h9, hall⟩⟩)
      · by_cases hed : e = d
        · rw [hed]; exact h9
        · exact hall e (by omega)
  refine e_X13_free ?_
  refine u_X13_free_0 ?_; unfold qm_X13_free_0
  exact key 40 0 (by omega) (fun e he => by omega)
theorem frD_eq {z z1 : ow_MS} (he : z1.2.1 12 = z.2.1 12) (h : frD z) : frD z1 := by
  obtain ⟨d, h1, h2⟩ := h
  exact ⟨d, h1, by rw [he]; exact h2⟩
/-- what a net must be to be kept -/
def mNet (z : ow_MS) (n : Nat) : Prop := ∃ A sg, rn_At z n A [] ∧ rn_sg z n A.flatten sg ∧ wkF A.flatten ∧ A.flatten.length ≤ 24 ∧ A.length ≤ 6
theorem dRow_pack {z : ow_MS} {h o : Nat} {A : rn_L} {sg : Nat → Bool} {m : Nat → Nat} {P : Nat} (hF : wkF A.flatten) (hk : mk A m P) (hl : A.flatten.length ≤ 24) (hc : A.length ≤ 6) (hr : rc_At z h o (pkR A sg m P)) : dRow z h o := by
  obtain ⟨A', sg', c, e, ok, l1, l2⟩ := pkR_ok (sg := sg) hF hk
  rw [e] at hr
  exact ⟨A', sg', hr, ⟨c, ok, by omega⟩, by omega⟩
/-- pack into a row of diagrams -/
theorem tm_pack {n h o la : Nat} {z : ow_MS} (hn : mw_net n) (hh : 10 ≤ h ∧ h < 1000) (hla : (mX.2 h).2.1 = la) (ha : la < 2 ^ 30) (ho : o + 32 ≤ la) (hM : mNet z n) : Te (fun K => qe_X13_pack K n h (nI o) z) (fun z1 => dRow z1 h o ∧ fr (frQ n h) z z1 ∧ ∀ i, i < o ∨ o + 32 ≤ i → z1.2.1 h i = z.2.1 h i) := by
  obtain ⟨A, sg, h1, h2, h3, h4, h5⟩ := hM
  refine w_monoE (tr_pack hn hh hla ha ho (by omega) (by omega) h3 h1 h2) (fun z1 hz => ?_)
  obtain ⟨m, P, hk, hr, hf, hi, -, -⟩ := hz
  exact ⟨dRow_pack h3 hk h4 h5 hr, hf, hi⟩
theorem gRows_put {z z1 : ow_MS} {d : Nat} (hd : dRow z1 12 (32 * d)) (he : ∀ i, i < 32 * d ∨ 32 * d + 32 ≤ i → z1.2.1 12 i = z.2.1 12 i) (h : gRows z) : gRows z1 := fun e he9 => by
  by_cases hde : e = d
  · rw [hde]; exact hd
  · exact dRow_eq (fun i h1 h2 => he i (by omega)) (h e he9)
/-- the state when rows alone have changed -/
theorem gI_rows {X : (Nat → Nat → Int32) → Prop} {P : Nat → Prop} {z z1 : ow_MS} (hf : fr P z z1) (hP : ∀ g, P g → g = 12 ∨ ¬ per g) (hr : gRows z1) (h : gI X z) : gI X z1 := by
  obtain ⟨h1, h2, h3, h4, h5, h6, h7⟩ := h
  have no : ∀ g, per g → g ≠ 12 → ¬ P g := fun g hg hne h9 => (hP g h9).elim hne (fun h8 => h8 hg)
  exact ⟨gTape_fr hf (no 11 (by decide) (by decide)) h1, hr, gList_fr hf (no 20 (by decide) (by decide)) (no 21 (by decide) (by decide)) (no 22 (by decide) (by decide)) h3, gSum_fr hf (no 35 (by decide) (by decide)) (no 39 (by decide) (by decide)) (no 36 (by decide) (by decide)) h4, gCash_fr hf (no 43 (by decide) (by decide)) (no 45 (by decide) (by decide)) (no 50 (by decide) (by decide)) (no 65 (by decide) (by decide)) (no 67 (by decide) (by decide)) h5, gBrs_fr hf (no 94 (by decide) (by decide)) (no 95 (by decide) (by decide)) (no 96 (by decide) (by decide)) h6, gX_fr hf (fun g hg h9 => (hP g hg).elim (fun e => by omega) (fun h8 => h8 (by unfold per; omega))) h7⟩
theorem e_X13_keep {z : ow_MS} {Q : (Int32 × ow_MS) → Prop} (H : Tt (fun K _ => qm_X13_keep_0 K z) Q) : Te (fun K => qe_X13_keep K z) Q := w_te0 H
/-- keep -/
theorem tm_keep {X : (Nat → Nat → Int32) → Prop} {z : ow_MS} (hI : gI X z) (hfree : frD z) (hM : mNet z 3000) : Te (fun K => qe_X13_keep K z) (fun r => gI X r.2 ∧ ∃ d, d < 40 ∧ r.1 = nI d) := by
  obtain ⟨r, hr, h1, h2⟩ := tm_free (z := z)
  obtain ⟨d, hd, e, -, -⟩ := h2.resolve_left (fun h9 => h9.2 hfree)
  refine e_X13_keep ?_; unfold qm_X13_keep_0
  refine w_cs1 (R := fun r => r = (nI d, z)) ⟨r, hr, Prod.ext e h1⟩ (fun a z1 e9 => ?_)
  cases e9
  rw [show (32 : Int32) * nI d = nI (32 * d) from pk_mul 32 d]
  refine w_cs0 (tm_pack pn3 (by omega) ml12 (by omega) (by omega) hM) (fun z1 ⟨g1, g2, g3⟩ => w_some ⟨?_, d, hd, rfl⟩)
  refine gI_rows g2 (fun g hg => ?_) (gRows_put g1 g3 hI.2.1) hI
  unfold per
  unfold frQ at hg
  omega
theorem u_X13_keepRow_1 {x2 : Int32} {x3 : Int32} {x4 : Int32} {r1 : Nat} {z : ow_MS} {Q : (Int32 × ow_MS) → Prop} (H : Tt (fun K k => qm_X13_keepRow_1 K (q_X13_keepRow K k) x2 x3 x4 r1 z) Q) : Tt (fun K k => q_X13_keepRow K k 1 x2 x3 x4 r1 z) Q := w_un (fun _ _ => rfl) H
theorem e_X13_keepRow {r1 : Nat} {x2 : Int32} {z : ow_MS} {Q : (Int32 × ow_MS) → Prop} (H : Tt (fun K k => q_X13_keepRow K k 0 x2 0 0 r1 z) Q) : Te (fun K => qe_X13_keepRow K r1 x2 z) Q := w_te H
theorem u_X13_keepRow_0 {x2 : Int32} {x3 : Int32} {x4 : Int32} {r1 : Nat} {z : ow_MS} {Q : (Int32 × ow_MS) → Prop} (H : Tt (fun K k => qm_X13_keepRow_0 K (q_X13_keepRow K k) x2 x3 x4 r1 z) Q) : Tt (fun K k => q_X13_keepRow K k 0 x2 x3 x4 r1 z) Q := w_un (fun _ _ => rfl) H
theorem tm_keepRow {X : (Nat → Nat → Int32) → Prop} {z : ow_MS} {h o la : Nat} (hI : gI X z) (hfree : frD z) (hh : h ≠ 12) (hla : (mX.2 h).2.1 = la) (ha : la < 2 ^ 30) (ho : o + 32 ≤ la) (hM : dRow z h o) : Te (fun K => qe_X13_keepRow K h (nI o) z) (fun r => gI X r.2 ∧ ∃ d, d < 40 ∧ r.1 = nI d) := by
  obtain ⟨r, hr, h1, h2⟩ := tm_free (z := z)
  obtain ⟨d, hd, e, -, -⟩ := h2.resolve_left (fun h9 => h9.2 hfree)
  obtain ⟨A, sg, hv, h5⟩ := hM
  have hl := hv.1
  have key : ∀ (j k : Nat) (z1 : ow_MS), k + j = (tk sg A).length + 1 → fr (fun g => g = 12) z z1 → (∀ i, i < k → z1.2.1 12 (32 * d + i) = z.2.1 h (o + i)) → (∀ i, i < 32 * d ∨ 32 * d + 32 ≤ i → z1.2.1 12 i = z.2.1 12 i) → Tt (fun K i => q_X13_keepRow K i 1 (nI o) (nI d) (nI k) h z1) (fun r => gI X r.2 ∧ ∃ d, d < 40 ∧ r.1 = nI d) := by
    intro j
    induction j with
    | zero =>
      intro k z1 hk hf hc hi
      have e0 : z1.2.1 h o = nI (tk sg A).length := by rw [(hf h hh).2.1]; exact hv.2.2.1
      refine u_X13_keepRow_1 ?_; unfold qm_X13_keepRow_1
      refine w_rdI hla rfl (by omega) e0 (w_ltT (by omega) (by omega) (w_some ⟨gI_rows hf (fun g hg => Or.inl hg) (gRows_put ⟨A, sg, ⟨hl, hv.2.1, ?_, fun i t hi9 => ?_⟩, h5⟩ hi hI.2.1) hI, d, hd, rfl⟩))
      · have := hc 0 (by omega)
        rw [Nat.add_zero, Nat.add_zero] at this
        rw [this]
        exact hv.2.2.1
      · have := (List.getElem?_eq_some_iff.mp hi9).1
        rw [hc (i + 1) (by omega)]
        exact hv.2.2.2 i t hi9
    | succ j ih =>
      intro k z1 hk hf hc hi
      have e0 : z1.2.1 h o = nI (tk sg A).length := by rw [(hf h hh).2.1]; exact hv.2.2.1
      refine u_X13_keepRow_1 ?_; unfold qm_X13_keepRow_1
      rw [nI_add, show (32 : Int32) * nI d = nI (32 * d) from pk_mul 32 d, nI_add, nI_1]
      refine w_rdI hla rfl (by omega) e0 (w_ltF (by omega) (by omega) (w_rdI hla rfl (by omega) (by rw [(hf h hh).2.1]) (w_wrI ml12 rfl (by omega) ?_)))
      refine ih (k + 1) _ (by omega) (fr_I2 hf rfl) (fun i hi9 => ?_) (fun i hi9 => rd_ne (by omega) (hi i hi9))
      by_cases hik : i = k
      · rw [hik, po_usI_at]
      · exact rd_ne (by omega) (hc i (by omega))
  refine e_X13_keepRow ?_
  refine u_X13_keepRow_0 ?_; unfold qm_X13_keepRow_0
  refine w_cs1 (R := fun r => r = (nI d, z)) ⟨r, hr, Prod.ext e h1⟩ (fun a z1 e9 => ?_)
  cases e9
  exact key ((tk sg A).length + 1) 0 z (by omega) fr_rf (fun i hi => by omega) (fun i _ => rfl)
theorem e_X13_open {x1 : Int32} {r2 : Nat} {z : ow_MS} {Q : ow_MS → Prop} (H : Tt (fun K _ => qm_X13_open_0 K x1 r2 z) Q) : Te (fun K => qe_X13_open K x1 r2 z) Q := w_te0 H
/-- open: the net of a place -/
theorem tm_open {z : ow_MS} {n d : Nat} {A : rn_L} {sg : Nat → Bool} (hn : mw_net n) (hd : d < 40) (hv : vRow z 12 (32 * d) A sg) : Te (fun K => qe_X13_open K (nI d) n z) (fun z1 => rn_lk z1 n A ∧ rn_sg z1 n A.flatten sg ∧ fr (fun g => n + 1 ≤ g ∧ g ≤ n + 11) z z1) := by
  obtain ⟨h1, ⟨c, h2, h3⟩, h4⟩ := hv
  have hl := okF_len h2
  have hll := h1.1
  have hw := okF_wk (by omega) h2
  refine e_X13_open ?_; unfold qm_X13_open_0
  rw [show (32 : Int32) * nI d = nI (32 * d) from pk_mul 32 d]
  refine w_cs0 (tr_unpack hn (by omega) ml12 (by omega) (by omega) (by omega) (by omega) (fun p hp => ⟨(hw.2 p hp).1, (hw.2 p hp).2.1⟩) h1) (fun z1 ⟨g1, g2, g3⟩ => w_cs0 (tn_link hn (by omega) (by omega) (wkF_ok hw).1 g1) (fun z2 ⟨f1, f2, f3⟩ => w_some ⟨⟨f2, f3⟩, fun p hp => ?_, fr_tr (fr_mono (fun g hg => by omega) g3) (fr_mono (fun g hg => by have := hg.1; have := hg.2; omega) f1)⟩))
  rw [(f1 (n + 6) (fun h9 => by have := h9.1; omega)).2.1]
  exact g2 p hp
end
