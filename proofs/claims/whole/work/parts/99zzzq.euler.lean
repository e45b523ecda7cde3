/-! a part with c crossings has at most c + 2 faces -/
theorem itf_in {f : Nat → Nat} {D : Nat → Prop} (hc : ∀ s, D s → D (f s)) {a : Nat} (ha : D a) : ∀ k, D (itf f k a)
  | 0 => ha
  | k + 1 => hc _ (itf_in hc ha k)
theorem itf_sub {f : Nat → Nat} {D : Nat → Prop} (hc : ∀ s, D s → D (f s)) (hi : ∀ s t, D s → D t → f s = f t → s = t) {a : Nat} (ha : D a) : ∀ (i j : Nat), itf f i a = itf f (i + j) a → itf f j a = a
  | 0, j, e => by
    rw [Nat.zero_add] at e
    exact e.symm
  | i + 1, j, e => by
    rw [show i + 1 + j = (i + j) + 1 by omega] at e
    exact itf_sub hc hi ha i j (hi _ _ (itf_in hc ha _) (itf_in hc ha _) e)
/-- a map that is one to one comes back -/
theorem itf_back {f : Nat → Nat} {D : Nat → Prop} {N : Nat} (hN : ∀ s, D s → s < N) (hc : ∀ s, D s → D (f s)) (hi : ∀ s t, D s → D t → f s = f t → s = t) {a : Nat} (ha : D a) : ∃ k, itf f (k + 1) a = a := by
  have key : ¬ ∀ i j, i < N + 1 → j < N + 1 → itf f i a = itf f j a → i = j := fun h => by
    have h1 : ((List.range (N + 1)).map (fun i => itf f i a)).Nodup := nodup_map List.nodup_range (fun i j hi hj e => h i j (List.mem_range.mp hi) (List.mem_range.mp hj) e)
    have := nodup_le _ (List.range N) h1 (fun x hx => by
      obtain ⟨i, -, e⟩ := List.mem_map.mp hx
      rw [← e]
      exact List.mem_range.mpr (hN _ (itf_in hc ha i)))
    rw [List.length_map, List.length_range, List.length_range] at this
    omega
  have h2 : ∃ i j, i < j ∧ itf f i a = itf f j a := Classical.byContradiction (fun h9 => key (fun i j _ _ e => by
    rcases Nat.lt_trichotomy i j with h8 | h8 | h8
    · exact absurd ⟨i, j, h8, e⟩ h9
    · exact h8
    · exact absurd ⟨j, i, h8, e.symm⟩ h9))
  obtain ⟨i, j, hij, e⟩ := h2
  refine ⟨j - i - 1, ?_⟩
  rw [show j - i - 1 + 1 = j - i by omega]
  exact itf_sub hc hi ha i (j - i) (by rw [show i + (j - i) = j by omega]; exact e)
/-- two ends in different rings are exchanged: what the new map keeps the old one keeps -/
theorem untw0 {D : Nat → Prop} {N a b : Nat} {p q : Nat → Nat} {L C : Nat → Nat} (hN : ∀ s, D s → s < N) (hc : ∀ s, D s → D (p s)) (hi : ∀ s t, D s → D t → p s = p t → s = t) (ha : D a) (h1 : ∀ s, s ≠ a → s ≠ b → q s = p s) (hC : ∀ s, D s → C (p s) = C s) (hne : C a ≠ C b) (hL : ∀ s, D s → L (q s) = L s) : L (p a) = L a := by
  have hCi : ∀ k, C (itf p k a) = C a := by
    intro k
    induction k with
    | zero => rfl
    | succ k ih => exact (hC _ (itf_in hc ha k)).trans ih
  have key : ∀ i, L a = L (p a) ∨ L (itf p (i + 1) a) = L (p a) := by
    intro i
    induction i with
    | zero => exact Or.inr rfl
    | succ i ih =>
      rcases ih with h9 | h9
      · exact Or.inl h9
      · by_cases h8 : itf p (i + 1) a = a
        · rw [h8] at h9
          exact Or.inl h9
        · refine Or.inr ?_
          have h7 : itf p (i + 1) a ≠ b := fun e => hne (by rw [← e]; exact (hCi (i + 1)).symm)
          have h6 := hL _ (itf_in hc ha (i + 1))
          rw [h1 _ h8 h7] at h6
          show L (p (itf p (i + 1) a)) = _
          rw [h6, h9]
  obtain ⟨k, hk⟩ := itf_back hN hc hi ha
  rcases key k with h9 | h9
  · exact h9.symm
  · rw [hk] at h9
    exact h9.symm
theorem untw {D : Nat → Prop} {N a b : Nat} {p q : Nat → Nat} {L C : Nat → Nat} (hN : ∀ s, D s → s < N) (hc : ∀ s, D s → D (p s)) (hi : ∀ s t, D s → D t → p s = p t → s = t) (ha : D a) (hb : D b) (h1 : ∀ s, s ≠ a → s ≠ b → q s = p s) (h2 : q a = p b) (h3 : q b = p a) (hC : ∀ s, D s → C (p s) = C s) (hne : C a ≠ C b) (hL : ∀ s, D s → L (q s) = L s) : L a = L b ∧ ∀ s, D s → L (p s) = L s := by
  have ka := untw0 hN hc hi ha h1 hC hne hL
  have kb := untw0 hN hc hi hb (fun s h8 h9 => h1 s h9 h8) hC (fun e => hne e.symm) hL
  have e1 : L (p a) = L b := by rw [← h3]; exact hL b hb
  refine ⟨ka.symm.trans e1, fun s hs => ?_⟩
  by_cases h8 : s = a
  · rw [h8]; exact ka
  · by_cases h9 : s = b
    · rw [h9]; exact kb
    · rw [← h1 s h8 h9]; exact hL s hs
/-! trees of gaps -/
def cls (A : rn_L) : List Nat → Nat → Nat
  | [] => fun x => x
  | g :: T => fun x => if cls A T x = cls A T (crs A g) then cls A T (crs A (rn_nx A g)) else cls A T x
theorem cls_e {A : rn_L} {T : List Nat} {g x y : Nat} (h : cls A T x = cls A T y) : cls A (g :: T) x = cls A (g :: T) y := by
  show (if cls A T x = cls A T (crs A g) then _ else cls A T x) = if cls A T y = cls A T (crs A g) then _ else cls A T y
  rw [h]
theorem cls_m {A : rn_L} {T : List Nat} {g : Nat} : cls A (g :: T) (crs A g) = cls A (g :: T) (crs A (rn_nx A g)) := by
  show (if cls A T (crs A g) = cls A T (crs A g) then cls A T (crs A (rn_nx A g)) else _) = if cls A T (crs A (rn_nx A g)) = cls A T (crs A g) then cls A T (crs A (rn_nx A g)) else cls A T (crs A (rn_nx A g))
  rw [if_pos rfl]
  split <;> rfl
theorem cls_in {A : rn_L} {g : Nat} : ∀ {T : List Nat}, g ∈ T → cls A T (crs A g) = cls A T (crs A (rn_nx A g))
  | [], h => by cases h
  | t :: T, h => by
    rcases List.mem_cons.mp h with h9 | h9
    · rw [h9]; exact cls_m
    · exact cls_e (cls_in h9)
theorem cls_k {A : rn_L} {Y : List Nat} : ∀ (T : List Nat) (k : Nat), (∃ R : List Nat, R.length ≤ k ∧ ∀ x, x ∈ Y → cls A T x ∈ R) → ∃ R : List Nat, R.length ≤ k + T.length ∧ ∀ x, x ∈ Y → x ∈ R
  | [], k, h => h
  | g :: T, k, ⟨R, h1, h2⟩ => by
    obtain ⟨R2, h3, h4⟩ := cls_k T (k + 1) ⟨cls A T (crs A g) :: R, by rw [List.length_cons]; omega, fun x hx => by
      have := h2 x hx
      by_cases h9 : cls A T x = cls A T (crs A g)
      · rw [h9]; exact List.mem_cons_self
      · have this : (if cls A T x = cls A T (crs A g) then cls A T (crs A (rn_nx A g)) else cls A T x) ∈ R := this
        rw [if_neg h9] at this
        exact List.mem_cons_of_mem _ this⟩
    exact ⟨R2, by rw [List.length_cons]; omega, h4⟩
def acy (A : rn_L) : List Nat → Prop
  | [] => True
  | g :: T => g ∉ T ∧ cls A T (crs A g) ≠ cls A T (crs A (rn_nx A g)) ∧ acy A T
def krT (A : rn_L) : List Nat → List Nat
  | [] => []
  | g :: G => if cls A (krT A G) (crs A g) = cls A (krT A G) (crs A (rn_nx A g)) then krT A G else g :: krT A G
theorem krT_in {A : rn_L} {g : Nat} : ∀ {G : List Nat}, g ∈ krT A G → g ∈ G
  | [], h => by cases h
  | t :: G, h => by
    unfold krT at h
    by_cases h9 : cls A (krT A G) (crs A t) = cls A (krT A G) (crs A (rn_nx A t))
    · rw [if_pos h9] at h
      exact List.mem_cons_of_mem _ (krT_in h)
    · rw [if_neg h9] at h
      rcases List.mem_cons.mp h with h8 | h8
      · rw [h8]; exact List.mem_cons_self
      · exact List.mem_cons_of_mem _ (krT_in h8)
theorem krT_acy {A : rn_L} : ∀ {G : List Nat}, G.Nodup → acy A (krT A G) ∧ (krT A G).Nodup
  | [], _ => ⟨trivial, List.nodup_nil⟩
  | t :: G, h => by
    obtain ⟨h1, h2⟩ := List.nodup_cons.mp h
    have ih := krT_acy (A := A) h2
    have hn : t ∉ krT A G := fun h9 => h1 (krT_in h9)
    unfold krT
    by_cases h9 : cls A (krT A G) (crs A t) = cls A (krT A G) (crs A (rn_nx A t))
    · rw [if_pos h9]; exact ih
    · rw [if_neg h9]
      exact ⟨⟨hn, h9, ih.1⟩, List.nodup_cons.mpr ⟨hn, ih.2⟩⟩
theorem krT_all {A : rn_L} {g : Nat} : ∀ {G : List Nat}, g ∈ G → cls A (krT A G) (crs A g) = cls A (krT A G) (crs A (rn_nx A g))
  | [], h => by cases h
  | t :: G, h => by
    unfold krT
    by_cases h9 : cls A (krT A G) (crs A t) = cls A (krT A G) (crs A (rn_nx A t))
    · rw [if_pos h9]
      rcases List.mem_cons.mp h with h8 | h8
      · rw [h8]; exact h9
      · exact krT_all h8
    · rw [if_neg h9]
      rcases List.mem_cons.mp h with h8 | h8
      · rw [h8]; exact cls_m
      · exact cls_e (krT_all h8)
/-! sides -/
def rv2 (s : Nat) : Nat := if s % 2 = 0 then s + 1 else s - 1
theorem rv2_rv2 (s : Nat) : rv2 (rv2 s) = s := by
  unfold rv2
  split <;> split <;> omega
theorem rv2_h (s : Nat) : rv2 s / 2 = s / 2 := by
  unfold rv2
  split <;> omega
theorem hdv_rv2 {A : rn_L} {s : Nat} : hdv A (rv2 s) = tlv A s := by
  unfold hdv tlv
  rw [rv2_h]
  unfold rv2
  by_cases h : s % 2 = 0
  · rw [if_pos h, if_pos h, if_neg (by omega)]
  · rw [if_neg h, if_neg h, if_pos (by omega)]
theorem tlv_rv2 {A : rn_L} {s : Nat} : tlv A (rv2 s) = hdv A s := by
  have := hdv_rv2 (A := A) (s := rv2 s)
  rw [rv2_rv2] at this
  exact this.symm
def piT (A : rn_L) (sg : Nat → Bool) (T : List Nat) (s : Nat) : Nat := phi A sg (if s / 2 ∈ T then s else rv2 s)
/-- a set of visits that is closed -/
def cloS (A : rn_L) (S : Nat → Prop) : Prop := (∀ v, S v → v < A.flatten.length) ∧ (∀ v, S v → S (rn_nx A v)) ∧ (∀ v, S v → S (rn_pv A v)) ∧ ∀ v, S v → S (mtf A v)
section EUL
variable {A : rn_L} {sg : Nat → Bool} {S : Nat → Prop}
theorem clo_hd (hS : cloS A S) {s : Nat} (h : S (s / 2)) : S (hdv A s) := by
  unfold hdv
  split
  · exact hS.2.1 _ h
  · exact h
theorem clo_phi (hS : cloS A S) {s : Nat} (h : S (s / 2)) : S (phi A sg s / 2) := by
  have h1 := hS.2.2.2 _ (clo_hd hS h)
  unfold phi
  split
  · rw [show 2 * mtf A (hdv A s) / 2 = mtf A (hdv A s) by omega]; exact h1
  · rw [show (2 * rn_pv A (mtf A (hdv A s)) + 1) / 2 = rn_pv A (mtf A (hdv A s)) by omega]; exact hS.2.2.1 _ h1
theorem clo_pi (hS : cloS A S) {T : List Nat} {s : Nat} (h : S (s / 2)) : S (piT A sg T s / 2) := by
  unfold piT
  split
  · exact clo_phi hS h
  · exact clo_phi hS (by rw [rv2_h]; exact h)
theorem clo_lt (hS : cloS A S) {s : Nat} (h : S (s / 2)) : s < 2 * A.flatten.length := by
  have := hS.1 _ h
  omega
theorem piT_inj (hd : rn_ok A.flatten) (hS : cloS A S) {T : List Nat} {s t : Nat} (hs : S (s / 2)) (ht : S (t / 2)) (e : piT A sg T s = piT A sg T t) : s = t := by
  unfold piT at e
  have key := phi_inj (sg := sg) hd (s := if s / 2 ∈ T then s else rv2 s) (t := if t / 2 ∈ T then t else rv2 t) (by split; exact clo_lt hS hs; exact clo_lt hS (by rw [rv2_h]; exact hs)) (by split; exact clo_lt hS ht; exact clo_lt hS (by rw [rv2_h]; exact ht)) e
  by_cases h1 : s / 2 ∈ T
  · rw [if_pos h1] at key
    by_cases h2 : t / 2 ∈ T
    · rw [if_pos h2] at key; exact key
    · rw [if_neg h2] at key
      rw [key, rv2_h] at h1
      exact absurd h1 h2
  · rw [if_neg h1] at key
    by_cases h2 : t / 2 ∈ T
    · rw [if_pos h2] at key
      rw [← key, rv2_h] at h2
      exact absurd h2 h1
    · rw [if_neg h2] at key
      have := congrArg rv2 key
      rw [rv2_rv2, rv2_rv2] at this
      exact this
/-- the tree's map keeps the class of a side's crossing -/
theorem piT_cls (hd : rn_ok A.flatten) (hS : cloS A S) {T : List Nat} {s : Nat} (hs : S (s / 2)) : cls A T (crs A (tlv A (piT A sg T s))) = cls A T (crs A (tlv A s)) := by
  unfold piT
  by_cases h : s / 2 ∈ T
  · rw [if_pos h, phi_tl hd (clo_lt hS hs), crs_mtf hd (hdv_lt (clo_lt hS hs))]
    have := cls_in (A := A) h
    unfold hdv tlv
    by_cases h2 : s % 2 = 0
    · rw [if_pos h2, if_pos h2]; exact this.symm
    · rw [if_neg h2, if_neg h2]; exact this
  · have hs2 : S (rv2 s / 2) := by rw [rv2_h]; exact hs
    rw [if_neg h, phi_tl hd (clo_lt hS hs2), crs_mtf hd (hdv_lt (clo_lt hS hs2)), hdv_rv2]
theorem tree_L (hd : rn_ok A.flatten) (hS : cloS A S) {L : Nat → Nat} : ∀ (T : List Nat), acy A T → (∀ g, g ∈ T → S g) → (∀ s, S (s / 2) → L (piT A sg T s) = L s) → (∀ g, g ∈ T → L (2 * g) = L (2 * g + 1)) ∧ ∀ s, S (s / 2) → L (piT A sg [] s) = L s
  | [], _, _, h => ⟨fun g hg => absurd hg List.not_mem_nil, h⟩
  | g :: T, ha, hT, h => by
    obtain ⟨a1, a2, a3⟩ := ha
    have hg : S g := hT g List.mem_cons_self
    have d1 : (2 * g) / 2 = g := by omega
    have d2 : (2 * g + 1) / 2 = g := by omega
    have e1 : rv2 (2 * g) = 2 * g + 1 := by unfold rv2; rw [if_pos (by omega)]
    have e2 : rv2 (2 * g + 1) = 2 * g := by unfold rv2; rw [if_neg (by omega)]; omega
    have key := untw (D := fun s => S (s / 2)) (N := 2 * A.flatten.length) (a := 2 * g) (b := 2 * g + 1) (p := piT A sg T) (q := piT A sg (g :: T)) (L := L) (C := fun s => cls A T (crs A (tlv A s))) (fun s hs => clo_lt hS hs) (fun s hs => clo_pi hS hs) (fun s t hs ht e => piT_inj hd hS hs ht e) (by show S (2 * g / 2); rw [d1]; exact hg) (by show S ((2 * g + 1) / 2); rw [d2]; exact hg) (fun s h8 h9 => by
      have hne : s / 2 ≠ g := fun e => by omega
      unfold piT
      by_cases h7 : s / 2 ∈ T
      · rw [if_pos h7, if_pos (List.mem_cons_of_mem _ h7)]
      · rw [if_neg h7, if_neg (fun h6 => by
          rcases List.mem_cons.mp h6 with h5 | h5
          · exact hne h5
          · exact h7 h5)]) (by
      unfold piT
      rw [d1, d2, if_pos List.mem_cons_self, if_neg a1, e2]) (by
      unfold piT
      rw [d1, d2, if_pos List.mem_cons_self, if_neg a1, e1]) (fun s hs => piT_cls hd hS hs) (by
      show cls A T (crs A (tlv A (2 * g))) ≠ cls A T (crs A (tlv A (2 * g + 1)))
      unfold tlv
      rw [if_pos (by omega), if_neg (by omega), d1, d2]
      exact a2) h
    obtain ⟨k1, k2⟩ := tree_L hd hS T a3 (fun t ht => hT t (List.mem_cons_of_mem _ ht)) key.2
    refine ⟨fun t ht => ?_, k2⟩
    rcases List.mem_cons.mp ht with h9 | h9
    · rw [h9]; exact key.1
    · exact k1 t h9
theorem smv_mt (hF : wkF A.flatten) {w : Nat} (hw : w < A.flatten.length) : smv A sg (mtf A w) = !smv A sg w := by
  have hd := wkF_ok hF
  have hc := crs_mtf hd hw
  have hml := mtf_lt hd hw
  have u1 := (hF.2 _ (List.mem_of_getElem? (vAt_of hw))).2.1
  have u2 := (hF.2 _ (List.mem_of_getElem? (vAt_of hml))).2.1
  have u3 : uns A (mtf A w) = 1 - uns A w := by
    by_cases h : uns A w = 0
    · have := mtf_uns hF hml (v := mtf A w)
      rw [mtf_mtf hd hw] at this
      have h2 : uns A (mtf A w) ≠ 0 := fun e => by
        refine mtf_ne hd hw (nodup_at hF.1 (vAt_of hml) ?_)
        rw [vAt_of hw]
        congr 1
        exact Prod.ext hc.symm (h.trans e.symm)
      have u2 : uns A (mtf A w) < 2 := u2
      omega
    · rw [mtf_uns hF hw h]
      have u1 : uns A w < 2 := u1
      omega
  unfold smv
  rw [hc, u3]
  have u1 : uns A w < 2 := u1
  rcases Nat.lt_or_ge (uns A w) 1 with h | h
  · have h0 : uns A w = 0 := by omega
    rw [h0]
    cases sg (crs A w) <;> rfl
  · have h0 : uns A w = 1 := by omega
    rw [h0]
    cases sg (crs A w) <;> rfl
/-- a label of sides that is kept by the faces and across all gaps is one label around each crossing -/
theorem lab_x (hF : wkF A.flatten) (hS : cloS A S) {L : Nat → Nat} (h1 : ∀ s, S (s / 2) → L (phi A sg s) = L s) (h2 : ∀ g, S g → L (2 * g) = L (2 * g + 1)) : ∀ w, S w → L (2 * rn_pv A w) = L (2 * w) ∧ L (2 * mtf A w) = L (2 * w) := by
  have hd := wkF_ok hF
  have fwd : ∀ w, S w → L (2 * rn_pv A w) = if smv A sg w then L (2 * mtf A w) else L (2 * rn_pv A (mtf A w)) := by
    intro w hw
    have hp := hS.2.2.1 w hw
    have hm := hS.2.2.2 w hw
    have e1 := h1 (2 * rn_pv A w) (by rw [show 2 * rn_pv A w / 2 = rn_pv A w by omega]; exact hp)
    have e2 : hdv A (2 * rn_pv A w) = w := by
      unfold hdv
      rw [if_pos (by omega), show 2 * rn_pv A w / 2 = rn_pv A w by omega, nx_pv (hS.1 w hw)]
    rw [← e1]
    unfold phi wyv
    rw [e2]
    cases smv A sg w with
    | true => 
      rw [if_pos rfl, if_pos rfl, if_pos (by omega)]
    | false =>
      show L (if 1 - 2 * rn_pv A w % 2 = 0 then 2 * mtf A w else 2 * rn_pv A (mtf A w) + 1) = L (2 * rn_pv A (mtf A w))
      rw [if_neg (by omega)]
      exact (h2 _ (hS.2.2.1 _ hm)).symm
  have bwd : ∀ w, S w → L (2 * w) = if smv A sg w then L (2 * rn_pv A (mtf A w)) else L (2 * mtf A w) := by
    intro w hw
    have hm := hS.2.2.2 w hw
    have e1 := h1 (2 * w + 1) (by rw [show (2 * w + 1) / 2 = w by omega]; exact hw)
    have e2 : hdv A (2 * w + 1) = w := by
      unfold hdv
      rw [if_neg (by omega)]
      omega
    rw [h2 w hw, ← e1]
    unfold phi wyv
    rw [e2]
    cases smv A sg w with
    | true =>
      rw [if_pos rfl, if_pos rfl, if_neg (by omega)]
      exact (h2 _ (hS.2.2.1 _ hm)).symm
    | false =>
      show L (if 1 - (2 * w + 1) % 2 = 0 then 2 * mtf A w else 2 * rn_pv A (mtf A w) + 1) = L (2 * mtf A w)
      rw [if_pos (by omega)]
  intro w hw
  have hm := hS.2.2.2 w hw
  have f1 := fwd w hw
  have f2 := fwd _ hm
  have b1 := bwd w hw
  have b2 := bwd _ hm
  rw [smv_mt hF (hS.1 w hw), mtf_mtf hd (hS.1 w hw)] at f2 b2
  cases hsm : smv A sg w with
  | true =>
    rw [hsm, if_pos rfl] at f1 b1
    rw [hsm, if_neg (by decide)] at f2 b2
    exact ⟨by rw [f1, b2], b2⟩
  | false =>
    rw [hsm, if_neg (by decide)] at f1 b1
    rw [hsm, if_pos (by rfl)] at f2 b2
    exact ⟨by rw [← b2, b1], b1.symm⟩
/-- a visit of part p -/
def inP (A : rn_L) (M : Nat → Int32) (p v : Nat) : Prop := v < A.flatten.length ∧ M (rn_c A v) = nI p
theorem c_nx {v : Nat} (hv : v < A.flatten.length) : rn_c A (rn_nx A v) = rn_c A v := by
  obtain ⟨h1, h2, h3⟩ := rn_c_in A v hv
  refine rn_c_of A _ _ ?_ ?_
  · unfold rn_nx; split <;> omega
  · unfold rn_nx; split <;> omega
theorem c_pv {v : Nat} (hv : v < A.flatten.length) : rn_c A (rn_pv A v) = rn_c A v := by
  obtain ⟨h1, h2, h3⟩ := rn_c_in A v hv
  refine rn_c_of A _ _ ?_ ?_
  · unfold rn_pv; split <;> omega
  · unfold rn_pv; split <;> omega
theorem inP_clo {M : Nat → Int32} {P p : Nat} (hd : rn_ok A.flatten) (hM : rn_SD A M P) (hp : p < P) : cloS A (inP A M p) := by
  refine ⟨fun v h => h.1, fun v h => ⟨rn_nx_lt h.1, by rw [c_nx h.1]; exact h.2⟩, fun v h => ⟨rn_pv_lt h.1, by rw [c_pv h.1]; exact h.2⟩, fun v h => ⟨mtf_lt hd h.1, hM.2.1 _ _ p hp ⟨v, mtf A v, mtf_mt hd h.1, rfl, rfl⟩ h.2⟩⟩
/-- what stays along the rings and through the crossings is one over a part -/
theorem inP_one {M : Nat → Int32} {P p : Nat} {f : Nat → Nat} (hd : rn_ok A.flatten) (hM : rn_SD A M P) (hp : p < P) (h1 : ∀ v, inP A M p v → f (rn_pv A v) = f v) (h2 : ∀ v, inP A M p v → f (mtf A v) = f v) {v w : Nat} (hv : inP A M p v) (hw : inP A M p w) : f v = f w := by
  have ring : ∀ v, inP A M p v → f v = f (rn_b A (rn_c A v)) := by
    intro v
    induction v using Nat.strongRecOn with
    | ind v ih =>
    intro hv
    obtain ⟨g1, g2, g3⟩ := rn_c_in A v hv.1
    by_cases hb : rn_b A (rn_c A v) = v
    · rw [hb]
    · have e1 : rn_pv A v = v - 1 := by
        unfold rn_pv
        rw [if_pos (by omega)]
      have h4 := h1 v hv
      rw [e1] at h4
      have e2 : rn_c A (v - 1) = rn_c A v := rn_c_of A _ _ (by omega) (by omega)
      have := ih (v - 1) (by omega) ⟨by have := hv.1; omega, by rw [e2]; exact hv.2⟩
      rw [e2] at this
      rw [← h4, this]
  have hc1 := (rn_c_in A v hv.1).1
  have hc2 := (rn_c_in A w hw.1).1
  have hcon := hM.2.2.1 _ _ p hp hc1 hc2 hv.2 hw.2
  have key := hcon (fun x => M x = nI p ∧ ∀ u, u < A.flatten.length → rn_c A u = x → f u = f v) ⟨hv.2, fun u hu e => by
    have hu2 : inP A M p u := ⟨hu, by rw [e]; exact hv.2⟩
    rw [ring u hu2, ring v hv, e]⟩ (fun x y ⟨hx1, hx2⟩ hxy => by
    have hy1 := hM.2.1 x y p hp hxy hx1
    obtain ⟨a, b, hab, ea, eb⟩ := hxy
    have hal := (rn_mt_lt hab).1
    have hbl := (rn_mt_lt hab).2
    refine ⟨hy1, fun u hu e => ?_⟩
    have hu2 : inP A M p u := ⟨hu, by rw [e]; exact hy1⟩
    have hb2 : inP A M p b := ⟨hbl, by rw [eb]; exact hy1⟩
    have ha2 : inP A M p a := ⟨hal, by rw [ea]; exact hx1⟩
    rw [ring u hu2, e, ← eb, ← ring b hb2, ← mtf_eq hd hab, h2 a ha2]
    exact hx2 a hal ea)
  exact (key.2 w hw.1 rfl).symm
theorem mgL_kP {D : Nat → Prop} : ∀ (E : List (Nat × Nat)) (L : Nat → Nat) (k : Nat), (∃ R : List Nat, R.length ≤ k ∧ ∀ x, D x → mgL L E x ∈ R) → ∃ R : List Nat, R.length ≤ k + E.length ∧ ∀ x, D x → L x ∈ R
  | [], L, k, h => h
  | (a, b) :: E, L, k, h => by
    obtain ⟨R, h1, h2⟩ := mgL_kP E _ k h
    refine ⟨L a :: R, by rw [List.length_cons, List.length_cons]; omega, fun x hx => ?_⟩
    have := h2 x hx
    by_cases h9 : L x = L a
    · rw [h9]; exact List.mem_cons_self
    · have this : (if L x = L a then L b else L x) ∈ R := this
      rw [if_neg h9] at this
      exact List.mem_cons_of_mem _ this
/-- Euler: a part's faces are at most its crossings and two -/
theorem euler {M : Nat → Int32} {P p c : Nat} {f : Nat → Nat} (hok : okF A.flatten c) (hc40 : c ≤ 40) (hM : rn_SD A M P) (hp : p < P) (hf : ∀ s, s < 2 * A.flatten.length → f (phi A sg s) = f s) {v0 : Nat} (hv0 : inP A M p v0) : ∃ R : List Nat, R.length ≤ c + 2 ∧ ∀ s, inP A M p (s / 2) → f s ∈ R := by
  have hF := okF_wk hc40 hok
  have hd := wkF_ok hF
  have hS := inP_clo hd hM hp
  let S := inP A M p
  let G := (List.range A.flatten.length).filter (fun v => decide (M (rn_c A v) = nI p))
  have hG : ∀ v, v ∈ G ↔ S v := fun v => by
    rw [List.mem_filter, List.mem_range, decide_eq_true_iff]
    exact Iff.rfl
  have hGn : G.Nodup := List.nodup_range.filter _
  let T := krT A G
  obtain ⟨hTa, hTn⟩ := krT_acy (A := A) hGn
  have hTS : ∀ g, g ∈ T → S g := fun g hg => (hG g).mp (krT_in hg)
  let E := G.filter (fun g => !decide (g ∈ T))
  let L := mgL f (E.map (fun g => (2 * g, 2 * g + 1)))
  have L1 : ∀ s, S (s / 2) → L (phi A sg s) = L s := fun s hs => mgL_e _ f _ _ (hf s (clo_lt hS hs))
  have L2 : ∀ g, S g → g ∉ T → L (2 * g) = L (2 * g + 1) := fun g hg hn => mgL_m _ f _ _ (List.mem_map.mpr ⟨g, List.mem_filter.mpr ⟨(hG g).mpr hg, by rw [decide_eq_false hn]; rfl⟩, rfl⟩)
  have L2' : ∀ s, S (s / 2) → s / 2 ∉ T → L (rv2 s) = L s := by
    intro s hs hn
    have := L2 _ hs hn
    unfold rv2
    by_cases h : s % 2 = 0
    · rw [if_pos h, show s + 1 = 2 * (s / 2) + 1 by omega, ← this]
      congr 1
      omega
    · rw [if_neg h, show s - 1 = 2 * (s / 2) by omega, this]
      congr 1
      omega
  have L3 : ∀ s, S (s / 2) → L (piT A sg T s) = L s := by
    intro s hs
    unfold piT
    by_cases h : s / 2 ∈ T
    · rw [if_pos h]; exact L1 s hs
    · rw [if_neg h, L1 (rv2 s) (by rw [rv2_h]; exact hs)]
      exact L2' s hs h
  obtain ⟨t1, -⟩ := tree_L hd hS T hTa hTS L3
  have L4 : ∀ g, S g → L (2 * g) = L (2 * g + 1) := fun g hg => by
    by_cases h : g ∈ T
    · exact t1 g h
    · exact L2 g hg h
  have lx := lab_x hF hS L1 L4
  have one : ∀ v w, S v → S w → L (2 * v) = L (2 * w) := fun v w hv hw => inP_one (f := fun v => L (2 * v)) hd hM hp (fun v hv => (lx v hv).1) (fun v hv => (lx v hv).2) hv hw
  have cl1 : ∀ v w, S v → S w → cls A T (crs A v) = cls A T (crs A w) := fun v w hv hw => inP_one (f := fun v => cls A T (crs A v)) hd hM hp (fun v hv => by
    show cls A T (crs A (rn_pv A v)) = cls A T (crs A v)
    have := krT_all (A := A) ((hG _).mpr (hS.2.2.1 v hv))
    rw [nx_pv hv.1] at this
    exact this) (fun v hv => by
    show cls A T (crs A (mtf A v)) = cls A T (crs A v)
    rw [crs_mtf hd hv.1]) hv hw
  -- the crossings of the part
  let O := G.filter (fun v => decide (uns A v = 0))
  let Y := O.map (crs A)
  have hO : ∀ v, v ∈ O ↔ S v ∧ uns A v = 0 := fun v => by
    rw [List.mem_filter, hG, decide_eq_true_iff]
  have hYn : Y.Nodup := by
    refine nodup_map (hGn.filter _) (fun i j hi hj e => ?_)
    obtain ⟨i1, i2⟩ := (hO i).mp hi
    obtain ⟨j1, j2⟩ := (hO j).mp hj
    refine nodup_at hF.1 (vAt_of i1.1) (?_ : A.flatten[j]? = some (vAt A i))
    rw [vAt_of j1.1, show vAt A j = vAt A i from Prod.ext e.symm (j2.trans i2.symm)]
  have hYc : Y.length ≤ c := by
    have := nodup_le Y (List.range c) hYn (fun x hx => by
      obtain ⟨v, hv, e⟩ := List.mem_map.mp hx
      rw [← e]
      exact List.mem_range.mpr ((hok.2 _).mp (List.mem_of_getElem? (vAt_of ((hO v).mp hv).1.1))).1)
    rw [List.length_range] at this
    exact this
  have hYT : Y.length ≤ 1 + T.length := by
    obtain ⟨R, r1, r2⟩ := cls_k (A := A) (Y := Y) T 1 ⟨[cls A T (crs A v0)], Nat.le_refl _, fun x hx => by
      obtain ⟨v, hv, e⟩ := List.mem_map.mp hx
      rw [← e, cl1 v v0 ((hO v).mp hv).1 hv0]
      exact List.mem_singleton.mpr rfl⟩
    have := nodup_le Y R hYn r2
    omega
  have hGY : G.length ≤ 2 * Y.length := by
    have h1 := filt_sum (fun v => decide (uns A v = 0)) G
    have h2 : (G.filter (fun v => !decide (uns A v = 0))).length ≤ O.length := by
      have hn : ((G.filter (fun v => !decide (uns A v = 0))).map (mtf A)).Nodup := nodup_map (hGn.filter _) (fun i j hi hj e => by
        have hi := ((hG i).mp (List.mem_filter.mp hi).1).1
        have hj := ((hG j).mp (List.mem_filter.mp hj).1).1
        have := congrArg (mtf A) e
        rw [mtf_mtf hd hi, mtf_mtf hd hj] at this
        exact this)
      have := nodup_le _ O hn (fun x hx => by
        obtain ⟨v, hv, e⟩ := List.mem_map.mp hx
        obtain ⟨hv1, hv2⟩ := List.mem_filter.mp hv
        have hv1 := (hG v).mp hv1
        have hu : uns A v ≠ 0 := fun h9 => by rw [h9] at hv2; exact absurd hv2 (by decide)
        rw [← e]
        exact (hO _).mpr ⟨hS.2.2.2 v hv1, mtf_uns hF hv1.1 hu⟩)
      rw [List.length_map] at this
      exact this
    have h3 : Y.length = O.length := List.length_map _
    have h4 : (G.filter (fun v => decide (uns A v = 0))).length = O.length := rfl
    omega
  have hET : E.length + T.length ≤ G.length := by
    have h1 := filt_sum (fun g => decide (g ∈ T)) G
    have h2 := nodup_le T (G.filter (fun g => decide (g ∈ T))) hTn (fun g hg => List.mem_filter.mpr ⟨krT_in hg, decide_eq_true hg⟩)
    have h3 : E.length = (G.filter (fun g => !decide (g ∈ T))).length := rfl
    omega
  obtain ⟨R, r1, r2⟩ := mgL_kP (D := fun s => S (s / 2)) (E.map (fun g => (2 * g, 2 * g + 1))) f 1 ⟨[L (2 * v0)], Nat.le_refl _, fun s hs => by
    have e1 : L s = L (2 * (s / 2)) := by
      by_cases h : s % 2 = 0
      · congr 1; omega
      · rw [L4 _ hs]; congr 1; omega
    show L s ∈ _
    rw [e1, one _ v0 hs hv0]
    exact List.mem_singleton.mpr rfl⟩
  rw [List.length_map] at r1
  exact ⟨R, by omega, r2⟩
end EUL
