section
/-! 99zzzzzzzzy.xref -/
/-! exact calls of the reference: the places as a table of lists -/
abbrev plT := Nat → Option (rn_L × (Nat → Bool))
def upP (St : plT) (e : Nat) (C : Option (rn_L × (Nat → Bool))) : plT := fun d => if d = e then C else St d
def relR (z : ow_MS) (St : plT) : Prop := ∀ d, d < 40 → (St d = none → z.2.1 12 (32 * d) = 0) ∧ ∀ A sg, St d = some (A, sg) → A ≠ [] ∧ vRow z 12 (32 * d) A sg
/-- what may change when a diagram is made: thrown, the rows, scratch -/
def rSc (g : Nat) : Prop := 2 ≤ g ∧ g ≤ 9 ∨ 1000 ≤ g
def rPk (g : Nat) : Prop := g = 1 ∨ g = 12 ∨ rSc g
/-- what may change else -/
def rPs (g : Nat) : Prop := g = 1 ∨ rSc g
def lstF (St : plT) (e : Nat) : Prop := e < 40 ∧ St e = none ∧ ∀ d, d < e → St d ≠ none
def allF (St : plT) : Prop := ∀ d, d < 40 → St d ≠ none
section XR
variable {X : (Nat → Nat → Int32) → Prop} {z z1 : ow_MS} {St : plT} {x : Int32}
theorem relR_eq (he : ∀ i, z1.2.1 12 i = z.2.1 12 i) (h : relR z St) : relR z1 St := fun d hd => by
  obtain ⟨h1, h2⟩ := h d hd
  refine ⟨fun e => (he _).trans (h1 e), fun A sg e => ?_⟩
  obtain ⟨k1, ⟨k2, k3, k4, k5⟩, k6⟩ := h2 A sg e
  exact ⟨k1, ⟨k2, k3, (he _).trans k4, fun k t hk => (he _).trans (k5 k t hk)⟩, k6⟩
theorem relR_fr {P : Nat → Prop} (hf : fr P z z1) (hP : ¬ P 12) (h : relR z St) : relR z1 St := relR_eq (fun i => by rw [(hf 12 hP).2.1]) h
theorem tk_pos {sg : Nat → Bool} {A : rn_L} (h : A ≠ []) : 0 < (tk sg A).length := by
  rw [tk_len]
  have := List.length_pos_iff.mpr h
  omega
theorem relR_le (h : relR z St) {d : Nat} (hd : d < 40) : z.2.1 12 (32 * d) ≤ 0 ↔ St d = none := by
  obtain ⟨h1, h2⟩ := h d hd
  cases e : St d with
  | none => exact ⟨fun _ => rfl, fun _ => by rw [h1 e]; decide⟩
  | some C =>
    obtain ⟨A, sg⟩ := C
    obtain ⟨k1, k2, -⟩ := h2 A sg e
    have hp := tk_pos (sg := sg) k1
    have hl := k2.1
    refine ⟨fun h9 => ?_, fun h9 => by cases h9⟩
    rw [k2.2.2.1] at h9
    have := (nI_leI (a := (tk sg A).length) (b := 0) (by omega) (by omega)).mp h9
    omega
theorem xr_has (h : relR z St) : Te (fun K => qe_X13_has K x z) (fun r => r.2 = z ∧ (r.1 = 0 ∧ (∀ d, d < 40 → x = nI d → St d = none) ∨ r.1 = 1 ∧ ∃ d A sg, d < 40 ∧ x = nI d ∧ St d = some (A, sg))) := by
  refine e_X13_has ?_; unfold qm_X13_has_0
  refine w_if (fun hx => w_okZ (Or.inl rfl) (w_some ⟨rfl, Or.inl ⟨rfl, fun d hd e => ?_⟩⟩)) (fun h0 => w_if (fun hx => w_okZ (Or.inl rfl) (w_some ⟨rfl, Or.inl ⟨rfl, fun d hd e => ?_⟩⟩)) (fun h1 => ?_))
  · rw [e] at hx
    exact absurd hx (nI_pos (by omega))
  · rw [e] at hx
    have := (nI_leI (a := 40) (b := d) (by omega) (by omega)).mp hx
    omega
  obtain ⟨d, hd, rfl⟩ : ∃ d, d < 40 ∧ x = nI d := by
    rcases pk_ix x (n := 40) (by omega) with h9 | h9 | h9
    · exact absurd h9 h0
    · exact absurd h9 h1
    · exact h9
  have hle := relR_le h hd
  rw [show (32 : Int32) * nI d = nI (32 * d) from pk_mul 32 d]
  refine w_rdI ml12 rfl (by omega) rfl (w_if (fun h9 => w_okZ (Or.inl rfl) (w_some ⟨rfl, Or.inl ⟨rfl, fun d' hd' e => ?_⟩⟩)) (fun h9 => w_okZ (Or.inr rfl) (w_some ⟨rfl, Or.inr ⟨rfl, ?_⟩⟩)))
  · rw [← nI_inj9 (by omega) (by omega) e]
    exact hle.mp h9
  · cases e : St d with
    | none => exact absurd (hle.mpr e) h9
    | some C => exact ⟨d, C.1, C.2, hd, rfl, e⟩
theorem w_hasX {O : Type} {Q : O → Prop} {B : Int32 → ow_MS → Nat → Nat → Option O} (h : relR z St) (H0 : (∀ d, d < 40 → x = nI d → St d = none) → Tt (B 0 z) Q) (H1 : ∀ d A sg, d < 40 → x = nI d → St d = some (A, sg) → vRow z 12 (32 * d) A sg → A ≠ [] → Tt (B 1 z) Q) : Tt (fun K k => cs1 (qe_X13_has K x z) fun v z1 => B v z1 K k) Q := by
  refine w_cs1 (xr_has h) (fun a z1 ⟨e, h9⟩ => ?_)
  have e : z1 = z := e
  subst e
  rcases h9 with ⟨h9, h8⟩ | ⟨h9, d, A, sg, hd, he, hs⟩
  · have h9 : a = 0 := h9
    rw [h9]
    exact H0 h8
  · have h9 : a = 1 := h9
    rw [h9]
    obtain ⟨k1, k2⟩ := (h d hd).2 A sg hs
    exact H1 d A sg hd he hs k2 k1
theorem xr_free (h : relR z St) : Te (fun K => qe_X13_free K z) (fun r => r.2 = z ∧ (r.1 = -1 ∧ allF St ∨ ∃ d, r.1 = nI d ∧ lstF St d)) := w_monoE tm_free (fun r ⟨e, h2⟩ => ⟨e, by
  rcases h2 with ⟨h2, h3⟩ | ⟨d, hd, h2, h3, h4⟩
  · exact Or.inl ⟨h2, fun d hd e9 => h3 ⟨d, hd, (relR_le h hd).mpr e9⟩⟩
  · exact Or.inr ⟨d, h2, hd, (relR_le h hd).mp h3, fun e he e9 => h4 e he ((relR_le h (by omega)).mpr e9)⟩⟩)
theorem w_freeX {O : Type} {Q : O → Prop} {B : Int32 → ow_MS → Nat → Nat → Option O} (h : relR z St) (H0 : allF St → Tt (B (-1) z) Q) (H1 : ∀ d, lstF St d → Tt (B (nI d) z) Q) : Tt (fun K k => cs1 (qe_X13_free K z) fun v z1 => B v z1 K k) Q := by
  refine w_cs1 (xr_free h) (fun a z1 ⟨e, h2⟩ => ?_)
  have e : z1 = z := e
  subst e
  rcases h2 with ⟨h2, h3⟩ | ⟨d, h2, h3⟩
  · have h2 : a = -1 := h2
    rw [h2]
    exact H0 h3
  · have h2 : a = nI d := h2
    rw [h2]
    exact H1 d h3
theorem frD_of (h : relR z St) {e : Nat} (he : lstF St e) : frD z := ⟨e, he.1, (relR_le h he.1).mpr he.2.1⟩
/-- a failed call -/
def rFl (X : (Nat → Nat → Int32) → Prop) (z : ow_MS) (k : Nat) (r : Int32 × ow_MS) : Prop := gI X r.2 ∧ r.2.1 1 = nI k ∧ fr rPs z r.2
/-- a diagram was made of the components A2 -/
def rKp (X : (Nat → Nat → Int32) → Prop) (z : ow_MS) (e : Nat) (A2 : rn_L) (sg2 : Nat → Bool) (r : Int32 × ow_MS) : Prop := gI X r.2 ∧ r.1 = nI e ∧ r.2.1 1 = 0 ∧ fr rPk z r.2 ∧ (∃ m P, mk A2 m P ∧ rc_At r.2 12 (32 * e) (pkR A2 sg2 m P)) ∧ ∀ i, i < 32 * e ∨ 32 * e + 32 ≤ i → r.2.2.1 12 i = z.2.1 12 i
theorem w_failX {z0 : ow_MS} {k : Nat} (h : gI X z) (hf : fr rPs z0 z) : Tt (fun K _ => cs1 (qe_X13_fails K (nI k) z) fun v z1 => some (v, z1)) (rFl X z0 k) := w_cs1 tm_fails (fun a z1 e => by
  cases e
  exact w_some ⟨gI_1 h, po_usF_at, fr_F2 hf (Or.inl rfl)⟩)
theorem xr_keep {A2 : rn_L} {sg2 : Nat → Bool} {e : Nat} (hI : gI X z) (hR : relR z St) (he : lstF St e) (hA : rn_At z 3000 A2 []) (hG : rn_sg z 3000 A2.flatten sg2) (hF : wkF A2.flatten) (h24 : A2.flatten.length ≤ 24) (h6 : A2.length ≤ 6) : Te (fun K => qe_X13_keep K z) (fun r => gI X r.2 ∧ r.1 = nI e ∧ r.2.1 1 = z.1 1 ∧ fr (frQ 3000 12) z r.2 ∧ (∃ m P, mk A2 m P ∧ rc_At r.2 12 (32 * e) (pkR A2 sg2 m P)) ∧ ∀ i, i < 32 * e ∨ 32 * e + 32 ≤ i → r.2.2.1 12 i = z.2.1 12 i) := by
  obtain ⟨r, hr, h1, h2⟩ := xr_free (z := z) hR
  have hd := he.1
  have e9 : r.1 = nI e := by
    rcases h2 with ⟨-, h3⟩ | ⟨d, h3, h4⟩
    · exact absurd he.2.1 (h3 e hd)
    · rw [h3]
      congr 1
      rcases Nat.lt_trichotomy d e with q | q | q
      · exact absurd h4.2.1 (he.2.2 d q)
      · exact q
      · exact absurd he.2.1 (h4.2.2 e q)
  refine e_X13_keep ?_; unfold qm_X13_keep_0
  refine w_cs1 (R := fun r => r = (nI e, z)) ⟨r, hr, Prod.ext e9 h1⟩ (fun a z1 e8 => ?_)
  cases e8
  rw [show (32 : Int32) * nI e = nI (32 * e) from pk_mul 32 e]
  refine w_cs0 (tr_pack pn3 (by omega) ml12 (by omega) (by omega) (by omega) (by omega) hF hA hG) (fun z1 ⟨m, P, g1, g2, g3, g4, _, _⟩ => w_some ⟨?_, rfl, (g3 1 (by unfold frQ; omega)).1, g3, ⟨m, P, g1, g2⟩, g4⟩)
  refine gI_rows g3 (fun g hg => ?_) (gRows_put (dRow_pack hF g1 h24 h6 g2) g4 hI.2.1) hI
  unfold per
  unfold frQ at hg
  omega
theorem frQ_rPk {g : Nat} (h : frQ 3000 12 g) : rPk g := by
  unfold rPk rSc
  unfold frQ at h
  omega
theorem w_keepX {z0 : ow_MS} {A2 : rn_L} {sg2 : Nat → Bool} {e : Nat} (hI : gI X z) (hR : relR z St) (he : lstF St e) (h1 : z.1 1 = 0) (hf : fr rPs z0 z) (hA : rn_At z 3000 A2 []) (hG : rn_sg z 3000 A2.flatten sg2) (hF : wkF A2.flatten) (h24 : A2.flatten.length ≤ 24) (h6 : A2.length ≤ 6) : Tt (fun K _ => cs1 (qe_X13_keep K z) fun v z1 => some (v, z1)) (rKp X z0 e A2 sg2) := w_cs1 (xr_keep hI hR he hA hG hF h24 h6) (fun a z1 ⟨q1, q2, q3, q4, q5, q6⟩ => w_some ⟨q1, q2, q3.trans h1, fr_tr (fr_mono (fun g hg => hg.elim Or.inl (fun h9 => Or.inr (Or.inr h9))) hf) (fr_mono (fun g hg => frQ_rPk hg) q4), q5, fun i hi => by rw [q6 i hi, (hf 12 (fun h9 => by unfold rPs rSc at h9; omega)).2.1]⟩)
end XR
end
