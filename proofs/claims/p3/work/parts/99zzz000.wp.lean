section
/-! 99zza.wp -/
/-! pure functions that have an answer: small rules -/
section PO
variable {O : Type} {X : ow_Tb} {z : ow_MS} {h i j : Nat} {x : Int32} {Q : O → Prop}
theorem po_rdI {K : Int32 → Option O} (hl : i < (X.2 h).2.1) (hi : i < 2 ^ 31) : rdI X z h (nI i) K = K (z.2.1 h i) := by
  unfold rdI
  rw [nI_clamp hi, if_neg (fun h9 => h9.elim (nI_pos hi) (by omega))]
theorem po_wrI {K : ow_MS → Option O} (hl : i < (X.2 h).2.1) (hi : i < 2 ^ 31) : wrI X z h (nI i) x K = K (usI z h i x) := by
  unfold wrI
  rw [nI_clamp hi, if_neg (fun h9 => h9.elim (nI_pos hi) (by omega))]
theorem po_rdJ {K : Int64 → Option O} (hl : i < (X.2 h).2.1) (hi : i < 2 ^ 31) : rdJ X z h (nI i) K = K (z.2.2 h i) := by
  unfold rdJ
  rw [nI_clamp hi, if_neg (fun h9 => h9.elim (nI_pos hi) (by omega))]
theorem po_wrJ {y : Int64} {K : ow_MS → Option O} (hl : i < (X.2 h).2.1) (hi : i < 2 ^ 31) : wrJ X z h (nI i) y K = K (usJ z h i y) := by
  unfold wrJ
  rw [nI_clamp hi, if_neg (fun h9 => h9.elim (nI_pos hi) (by omega))]
theorem po_usI_at : (usI z h i x).2.1 h i = x := by
  show (if h = h then upd (z.2.1 h) i x else z.2.1 h) i = x
  rw [if_pos rfl]
  exact pk_us
theorem po_usI_ne (hj : j ≠ i) : (usI z h i x).2.1 h j = z.2.1 h j := by
  show (if h = h then upd (z.2.1 h) i x else z.2.1 h) j = z.2.1 h j
  rw [if_pos rfl]
  exact pk_un hj
theorem po_usI_ot {g : Nat} (hg : g ≠ h) : (usI z h i x).2.1 g = z.2.1 g := if_neg hg
theorem po_usI1 : (usI z h i x).1 = z.1 := rfl
theorem po_usF_at : (usF z h x).1 h = x := if_pos rfl
theorem po_usF_ot {g : Nat} (hg : g ≠ h) : (usF z h x).1 g = z.1 g := if_neg hg
end PO
/-! what comes to an end, whatever the fuel (from some fuel on) -/
def Tt {O : Type} (f : Nat → Nat → Option O) (Q : O → Prop) : Prop := ∃ r, (∃ b, ∀ K k, b ≤ K → b ≤ k → f K k = some r) ∧ Q r
def Te {O : Type} (f : Nat → Option O) (Q : O → Prop) : Prop := ∃ r, (∃ b, ∀ K, b ≤ K → f K = some r) ∧ Q r
section WP
variable {O : Type} {X : ow_Tb} {z : ow_MS} {h i len : Nat} {j x : Int32} {y : Int64} {Q : O → Prop}
theorem w_mono {f : Nat → Nat → Option O} {R : O → Prop} (H : Tt f R) (hR : ∀ r, R r → Q r) : Tt f Q := by
  obtain ⟨r, h1, h2⟩ := H
  exact ⟨r, h1, hR r h2⟩
theorem w_monoE {f : Nat → Option O} {R : O → Prop} (H : Te f R) (hR : ∀ r, R r → Q r) : Te f Q := by
  obtain ⟨r, h1, h2⟩ := H
  exact ⟨r, h1, hR r h2⟩
theorem w_some {r : O} (H : Q r) : Tt (fun _ _ => some r) Q := ⟨r, ⟨0, fun _ _ _ _ => rfl⟩, H⟩
theorem w_un {f g : Nat → Nat → Option O} (he : ∀ K k, f K (k + 1) = g K k) (H : Tt g Q) : Tt f Q := by
  obtain ⟨r, ⟨b, h1⟩, h2⟩ := H
  refine ⟨r, ⟨b + 1, fun K k hK hk => ?_⟩, h2⟩
  obtain ⟨k, rfl⟩ : ∃ k', k = k' + 1 := ⟨k - 1, by omega⟩
  rw [he]
  exact h1 K k (by omega) (by omega)
theorem w_te {f : Nat → Nat → Option O} (H : Tt f Q) : Te (fun K => f K K) Q := by
  obtain ⟨r, ⟨b, h1⟩, h2⟩ := H
  exact ⟨r, ⟨b, fun K hK => h1 K K hK hK⟩, h2⟩
theorem w_te0 {f : Nat → Option O} (H : Tt (fun K _ => f K) Q) : Te f Q := by
  obtain ⟨r, ⟨b, h1⟩, h2⟩ := H
  exact ⟨r, ⟨b, fun K hK => h1 K K hK hK⟩, h2⟩
theorem w_if {c : Prop} [Decidable c] {A B : Nat → Nat → Option O} (H1 : c → Tt A Q) (H2 : ¬ c → Tt B Q) : Tt (fun K k => if c then A K k else B K k) Q := by
  by_cases hc : c
  · simp only [if_pos hc]
    exact H1 hc
  · simp only [if_neg hc]
    exact H2 hc
theorem w_ifT {c : Prop} [Decidable c] {A B : Nat → Nat → Option O} (hc : c) (H : Tt A Q) : Tt (fun K k => if c then A K k else B K k) Q := by
  simp only [if_pos hc]
  exact H
theorem w_ifF {c : Prop} [Decidable c] {A B : Nat → Nat → Option O} (hc : ¬ c) (H : Tt B Q) : Tt (fun K k => if c then A K k else B K k) Q := by
  simp only [if_neg hc]
  exact H
theorem w_lt {a b : Nat} {A B : Nat → Nat → Option O} (ha : a < 2 ^ 31) (hb : b < 2 ^ 31) (H1 : a < b → Tt A Q) (H2 : b ≤ a → Tt B Q) : Tt (fun K k => if nI a < nI b then A K k else B K k) Q := w_if (fun h9 => H1 ((nI_ltI ha hb).mp h9)) (fun h9 => H2 (Nat.le_of_not_lt (fun h8 => h9 ((nI_ltI ha hb).mpr h8))))
theorem w_le {a b : Nat} {A B : Nat → Nat → Option O} (ha : a < 2 ^ 31) (hb : b < 2 ^ 31) (H1 : a ≤ b → Tt A Q) (H2 : b < a → Tt B Q) : Tt (fun K k => if nI a ≤ nI b then A K k else B K k) Q := w_if (fun h9 => H1 ((nI_leI ha hb).mp h9)) (fun h9 => H2 (Nat.lt_of_not_le (fun h8 => h9 ((nI_leI ha hb).mpr h8))))
theorem w_eqN {a b : Nat} {A B : Nat → Nat → Option O} (ha : a < 2 ^ 31) (hb : b < 2 ^ 31) (H1 : a = b → Tt A Q) (H2 : a ≠ b → Tt B Q) : Tt (fun K k => if nI a = nI b then A K k else B K k) Q := w_if (fun h9 => H1 ((nI_eq ha hb).mp h9)) (fun h9 => H2 (fun h8 => h9 ((nI_eq ha hb).mpr h8)))
theorem w_ltT {a b : Nat} {A B : Nat → Nat → Option O} (hb : b < 2 ^ 31) (hc : a < b) (H : Tt A Q) : Tt (fun K k => if nI a < nI b then A K k else B K k) Q := w_ifT (nI_lt hc hb) H
theorem w_ltF {a b : Nat} {A B : Nat → Nat → Option O} (ha : a < 2 ^ 31) (hc : b ≤ a) (H : Tt B Q) : Tt (fun K k => if nI a < nI b then A K k else B K k) Q := w_ifF (nI_nlt hc ha) H
theorem w_leT {a b : Nat} {A B : Nat → Nat → Option O} (hb : b < 2 ^ 31) (hc : a ≤ b) (H : Tt A Q) : Tt (fun K k => if nI a ≤ nI b then A K k else B K k) Q := w_ifT (nI_le hc hb) H
theorem w_leF {a b : Nat} {A B : Nat → Nat → Option O} (ha : a < 2 ^ 31) (hc : b < a) (H : Tt B Q) : Tt (fun K k => if nI a ≤ nI b then A K k else B K k) Q := w_ifF (nI_ge hc ha) H
theorem w_rdF {E : Int32 → Nat → Nat → Option O} (he : z.1 h = x) (H : Tt (E x) Q) : Tt (fun K k => rdF z h (fun v => E v K k)) Q := by
  subst he
  exact H
theorem w_wrF {E : ow_MS → Nat → Nat → Option O} (H : Tt (E (usF z h x)) Q) : Tt (fun K k => wrF z h x (fun v => E v K k)) Q := H
theorem w_rdI {E : Int32 → Nat → Nat → Option O} (hL : (X.2 h).2.1 = len) (hj : j = nI i) (hi : i < len) (he : z.2.1 h i = x) (H : Tt (E x) Q) (hb : len < 2 ^ 31 := by omega) : Tt (fun K k => rdI X z h j (fun v => E v K k)) Q := by
  subst he
  have e : (fun K k => rdI X z h j (fun v => E v K k)) = E (z.2.1 h i) := by
    funext K k
    rw [hj]
    exact po_rdI (K := fun v => E v K k) (by rw [hL]; exact hi) (by omega)
  rw [e]
  exact H
theorem w_wrI {E : ow_MS → Nat → Nat → Option O} (hL : (X.2 h).2.1 = len) (hj : j = nI i) (hi : i < len) (H : Tt (E (usI z h i x)) Q) (hb : len < 2 ^ 31 := by omega) : Tt (fun K k => wrI X z h j x (fun v => E v K k)) Q := by
  have e : (fun K k => wrI X z h j x (fun v => E v K k)) = E (usI z h i x) := by
    funext K k
    rw [hj]
    exact po_wrI (K := fun v => E v K k) (by rw [hL]; exact hi) (by omega)
  rw [e]
  exact H
theorem w_wrZ {E : ow_MS → Nat → Nat → Option O} (hL : (X.2 h).2.1 = len) (hj : j = nI i) (hi : i < len) (H : Tt (E (usI z h i (vp_nar .boolean x))) Q) (hb : len < 2 ^ 31 := by omega) : Tt (fun K k => wrZ X z h j x (fun v => E v K k)) Q := w_wrI (x := vp_nar .boolean x) hL hj hi H hb
theorem w_wrB {E : ow_MS → Nat → Nat → Option O} (hL : (X.2 h).2.1 = len) (hj : j = nI i) (hi : i < len) (H : Tt (E (usI z h i (vp_nar .byte x))) Q) (hb : len < 2 ^ 31 := by omega) : Tt (fun K k => wrB X z h j x (fun v => E v K k)) Q := w_wrI (x := vp_nar .byte x) hL hj hi H hb
theorem w_rdJ {E : Int64 → Nat → Nat → Option O} (hL : (X.2 h).2.1 = len) (hj : j = nI i) (hi : i < len) (he : z.2.2 h i = y) (H : Tt (E y) Q) (hb : len < 2 ^ 31 := by omega) : Tt (fun K k => rdJ X z h j (fun v => E v K k)) Q := by
  subst he
  have e : (fun K k => rdJ X z h j (fun v => E v K k)) = E (z.2.2 h i) := by
    funext K k
    rw [hj]
    exact po_rdJ (K := fun v => E v K k) (by rw [hL]; exact hi) (by omega)
  rw [e]
  exact H
theorem w_wrJ {E : ow_MS → Nat → Nat → Option O} (hL : (X.2 h).2.1 = len) (hj : j = nI i) (hi : i < len) (H : Tt (E (usJ z h i y)) Q) (hb : len < 2 ^ 31 := by omega) : Tt (fun K k => wrJ X z h j y (fun v => E v K k)) Q := by
  have e : (fun K k => wrJ X z h j y (fun v => E v K k)) = E (usJ z h i y) := by
    funext K k
    rw [hj]
    exact po_wrJ (K := fun v => E v K k) (by rw [hL]; exact hi) (by omega)
  rw [e]
  exact H
theorem w_nzI {A : Nat → Nat → Option O} (hx : x ≠ 0) (H : Tt A Q) : Tt (fun K k => nzI x (A K k)) Q := w_ifF hx H
theorem w_nzJ {A : Nat → Nat → Option O} (hx : y ≠ 0) (H : Tt A Q) : Tt (fun K k => nzJ y (A K k)) Q := w_ifF hx H
theorem w_okZ {A : Nat → Nat → Option O} (hx : x = 0 ∨ x = 1) (H : Tt A Q) : Tt (fun K k => okZ x (A K k)) Q := w_ifT hx H
theorem w_cs0 {f : Nat → Option ow_MS} {R : ow_MS → Prop} {E : ow_MS → Nat → Nat → Option O} (hc : Te f R) (H : ∀ z1, R z1 → Tt (E z1) Q) : Tt (fun K k => cs0 (f K) (fun v => E v K k)) Q := by
  obtain ⟨r, ⟨b, h1⟩, h2⟩ := hc
  obtain ⟨r2, ⟨b2, h3⟩, h4⟩ := H r h2
  refine ⟨r2, ⟨b + b2, fun K k hK hk => ?_⟩, h4⟩
  show cs0 (f K) (fun v => E v K k) = some r2
  rw [h1 K (by omega)]
  exact h3 K k (by omega) (by omega)
theorem w_cs1 {α : Type} {f : Nat → Option (α × ow_MS)} {R : α × ow_MS → Prop} {E : α → ow_MS → Nat → Nat → Option O} (hc : Te f R) (H : ∀ a z1, R (a, z1) → Tt (E a z1) Q) : Tt (fun K k => cs1 (f K) (fun a v => E a v K k)) Q := by
  obtain ⟨r, ⟨b, h1⟩, h2⟩ := hc
  obtain ⟨r2, ⟨b2, h3⟩, h4⟩ := H r.1 r.2 h2
  refine ⟨r2, ⟨b + b2, fun K k hK hk => ?_⟩, h4⟩
  show cs1 (f K) (fun a v => E a v K k) = some r2
  rw [h1 K (by omega)]
  exact h3 K k (by omega) (by omega)
end WP
/-! frames: nothing but the handles in P is changed -/
def fr (P : Nat → Prop) (z z1 : ow_MS) : Prop := ∀ g, ¬ P g → z1.1 g = z.1 g ∧ z1.2.1 g = z.2.1 g ∧ z1.2.2 g = z.2.2 g
section FR
variable {P P2 : Nat → Prop} {z z1 z2 : ow_MS} {h i g j : Nat} {x y : Int32}
theorem fr_rf : fr P z z := fun _ _ => ⟨rfl, rfl, rfl⟩
theorem fr_tr (h1 : fr P z z1) (h2 : fr P z1 z2) : fr P z z2 := fun g hg => ⟨(h2 g hg).1.trans (h1 g hg).1, (h2 g hg).2.1.trans (h1 g hg).2.1, (h2 g hg).2.2.trans (h1 g hg).2.2⟩
theorem fr_mono (hP : ∀ g, P g → P2 g) (h1 : fr P z z1) : fr P2 z z1 := fun g hg => h1 g (fun h9 => hg (hP g h9))
theorem fr_I (hh : P h) : fr P z (usI z h i x) := fun g hg => ⟨rfl, if_neg (fun e => hg (by rw [e]; exact hh)), rfl⟩
theorem fr_J {y : Int64} (hh : P h) : fr P z (usJ z h i y) := fun g hg => ⟨rfl, rfl, if_neg (fun e => hg (by rw [e]; exact hh))⟩
theorem fr_F (hh : P h) : fr P z (usF z h x) := fun g hg => ⟨if_neg (fun e => hg (by rw [e]; exact hh)), rfl, rfl⟩
theorem fr_I2 (h1 : fr P z z1) (hh : P h) : fr P z (usI z1 h i x) := fr_tr h1 (fr_I hh)
theorem fr_J2 {y : Int64} (h1 : fr P z z1) (hh : P h) : fr P z (usJ z1 h i y) := fr_tr h1 (fr_J hh)
theorem fr_F2 (h1 : fr P z z1) (hh : P h) : fr P z (usF z1 h x) := fr_tr h1 (fr_F hh)
theorem rd_ot (hg : g ≠ h) (e : z.2.1 g j = y) : (usI z h i x).2.1 g j = y := (congrFun (po_usI_ot hg) j).trans e
theorem rd_ne (hj : j ≠ i) (e : z.2.1 h j = y) : (usI z h i x).2.1 h j = y := (po_usI_ne hj).trans e
theorem rf_ot (hg : g ≠ h) (e : z.1 g = y) : (usF z h x).1 g = y := (po_usF_ot hg).trans e
theorem po_usI_row : (usI z h i x).2.1 h = upd (z.2.1 h) i x := if_pos rfl
end FR
theorem po_len {n : Nat} (hn : mw_net n) : (mX.2 (n + 3)).2.1 = 40 ∧ (mX.2 (n + 4)).2.1 = 40 ∧ (mX.2 (n + 5)).2.1 = 40 ∧ (mX.2 (n + 6)).2.1 = 40 ∧ (mX.2 (n + 7)).2.1 = 40 ∧ (mX.2 (n + 8)).2.1 = 40 ∧ (mX.2 (n + 9)).2.1 = 40 ∧ (mX.2 (n + 10)).2.1 = 40 ∧ (mX.2 (n + 11)).2.1 = 40 ∧ (mX.2 (n + 12)).2.1 = 40 ∧ (mX.2 (n + 14)).2.1 = 80 ∧ (mX.2 (n + 15)).2.1 = 80 := by
  obtain ⟨o, ho, rfl⟩ := hn
  have key : ∀ o, o < 18 → ((mX.2 (1000 * (o + 1) + 3)).2.1 = 40 ∧ (mX.2 (1000 * (o + 1) + 4)).2.1 = 40 ∧ (mX.2 (1000 * (o + 1) + 5)).2.1 = 40 ∧ (mX.2 (1000 * (o + 1) + 6)).2.1 = 40 ∧ (mX.2 (1000 * (o + 1) + 7)).2.1 = 40 ∧ (mX.2 (1000 * (o + 1) + 8)).2.1 = 40 ∧ (mX.2 (1000 * (o + 1) + 9)).2.1 = 40 ∧ (mX.2 (1000 * (o + 1) + 10)).2.1 = 40 ∧ (mX.2 (1000 * (o + 1) + 11)).2.1 = 40 ∧ (mX.2 (1000 * (o + 1) + 12)).2.1 = 40 ∧ (mX.2 (1000 * (o + 1) + 14)).2.1 = 80 ∧ (mX.2 (1000 * (o + 1) + 15)).2.1 = 80) := by decide +kernel
  exact key o ho
end
section
/-! 99zzb.net -/
theorem pl3 {n : Nat} (hn : mw_net n) : (mX.2 (n + 3)).2.1 = 40 := (po_len hn).1
theorem pl4 {n : Nat} (hn : mw_net n) : (mX.2 (n + 4)).2.1 = 40 := (po_len hn).2.1
theorem pl5 {n : Nat} (hn : mw_net n) : (mX.2 (n + 5)).2.1 = 40 := (po_len hn).2.2.1
theorem pl6 {n : Nat} (hn : mw_net n) : (mX.2 (n + 6)).2.1 = 40 := (po_len hn).2.2.2.1
theorem pl7 {n : Nat} (hn : mw_net n) : (mX.2 (n + 7)).2.1 = 40 := (po_len hn).2.2.2.2.1
theorem pl8 {n : Nat} (hn : mw_net n) : (mX.2 (n + 8)).2.1 = 40 := (po_len hn).2.2.2.2.2.1
theorem pl9 {n : Nat} (hn : mw_net n) : (mX.2 (n + 9)).2.1 = 40 := (po_len hn).2.2.2.2.2.2.1
theorem pl10 {n : Nat} (hn : mw_net n) : (mX.2 (n + 10)).2.1 = 40 := (po_len hn).2.2.2.2.2.2.2.1
theorem pl11 {n : Nat} (hn : mw_net n) : (mX.2 (n + 11)).2.1 = 40 := (po_len hn).2.2.2.2.2.2.2.2.1
theorem pl12 {n : Nat} (hn : mw_net n) : (mX.2 (n + 12)).2.1 = 40 := (po_len hn).2.2.2.2.2.2.2.2.2.1
theorem pl14 {n : Nat} (hn : mw_net n) : (mX.2 (n + 14)).2.1 = 80 := (po_len hn).2.2.2.2.2.2.2.2.2.2.1
theorem pl15 {n : Nat} (hn : mw_net n) : (mX.2 (n + 15)).2.1 = 80 := (po_len hn).2.2.2.2.2.2.2.2.2.2.2
/-! a net of the reference: closed components A, an open one B; a visit is (crossing, under) -/
abbrev rn_L := List (List (Nat × Nat))
def rn_At (z : ow_MS) (n : Nat) (A : rn_L) (B : List (Nat × Nat)) : Prop := z.1 (n + 1) = nI (A.flatten ++ B).length ∧ z.1 (n + 2) = nI A.length ∧ (∀ c, c ≤ A.length → z.2.1 (n + 3) c = nI (A.take c).flatten.length) ∧ ∀ v p, (A.flatten ++ B)[v]? = some p → z.2.1 (n + 4) v = nI p.1 ∧ z.2.1 (n + 5) v = nI p.2
theorem fr_At {P : Nat → Prop} {z z1 : ow_MS} {n : Nat} {A : rn_L} {B : List (Nat × Nat)} (hf : fr P z z1) (hP : ∀ g, P g → g < n + 1 ∨ n + 5 < g) (h : rn_At z n A B) : rn_At z1 n A B := by
  have e : ∀ g, n + 1 ≤ g → g ≤ n + 5 → z1.1 g = z.1 g ∧ z1.2.1 g = z.2.1 g := fun g h1 h2 => by
    have := hf g (fun h9 => by have := hP g h9; omega)
    exact ⟨this.1, this.2.1⟩
  obtain ⟨h1, h2, h3, h4⟩ := h
  refine ⟨?_, ?_, fun c hc => ?_, fun v p hv => ?_⟩
  · rw [(e _ (by omega) (by omega)).1]; exact h1
  · rw [(e _ (by omega) (by omega)).1]; exact h2
  · rw [(e _ (by omega) (by omega)).2]; exact h3 c hc
  · rw [(e _ (by omega) (by omega)).2, (e (n + 5) (by omega) (by omega)).2]; exact h4 v p hv
theorem net_mod {n : Nat} (hn : mw_net n) : n % 1000 = 0 ∧ 1000 ≤ n := by
  obtain ⟨o, ho, rfl⟩ := hn
  omega
theorem e_X12_clear {r0 : Nat} {z : ow_MS} {Q : ow_MS → Prop} (H : Tt (fun K _ => qm_X12_clear_0 K r0 z) Q) : Te (fun K => qe_X12_clear K r0 z) Q := w_te0 H
theorem tn_clear {n : Nat} {z : ow_MS} (hn : mw_net n) : Te (fun K => qe_X12_clear K n z) (fun z1 => rn_At z1 n [] [] ∧ fr (fun g => g = n + 1 ∨ g = n + 2 ∨ g = n + 3) z z1) := by
  refine e_X12_clear ?_; unfold qm_X12_clear_0
  refine w_wrF (w_wrF (w_wrI (pl3 hn) nI_0.symm (by omega) (w_some ⟨⟨?_, ?_, fun c hc => ?_, fun v p hv => ?_⟩, ?_⟩)))
  · show (usF (usF z (n + 1) 0) (n + 2) 0).1 (n + 1) = 0
    rw [po_usF_ot (by omega), po_usF_at]
  · show (usF (usF z (n + 1) 0) (n + 2) 0).1 (n + 2) = 0
    exact po_usF_at
  · have h0 : c = 0 := Nat.le_zero.mp hc
    subst h0
    exact po_usI_at
  · simp at hv
  · exact fr_I2 (fr_F2 (fr_F (Or.inl rfl)) (Or.inr (Or.inl rfl))) (Or.inr (Or.inr rfl))
theorem e_X12_add {r0 : Nat} {x1 : Int32} {x2 : Int32} {z : ow_MS} {Q : ow_MS → Prop} (H : Tt (fun K _ => qm_X12_add_0 K x1 x2 r0 z) Q) : Te (fun K => qe_X12_add K r0 x1 x2 z) Q := w_te0 H
theorem tn_add {n x u : Nat} {z : ow_MS} {A : rn_L} {B : List (Nat × Nat)} (hn : mw_net n) (h : rn_At z n A B) (hlen : (A.flatten ++ B).length < 40) : Te (fun K => qe_X12_add K n (nI x) (nI u) z) (fun z1 => rn_At z1 n A (B ++ [(x, u)]) ∧ fr (fun g => g = n + 1 ∨ g = n + 4 ∨ g = n + 5) z z1) := by
  obtain ⟨h1, h2, h3, h4⟩ := h
  generalize hv : (A.flatten ++ B).length = v at h1 hlen
  refine e_X12_add ?_; unfold qm_X12_add_0
  refine w_rdF h1 (w_wrI (pl4 hn) rfl hlen (w_rdF (x := nI v) h1 (w_wrI (pl5 hn) rfl hlen (w_rdF (x := nI v) h1 (w_wrF (w_some ⟨⟨?_, ?_, fun c hc => ?_, fun w p hw => ?_⟩, ?_⟩))))))
  · rw [po_usF_at, ← List.append_assoc, List.length_append, hv]
    exact nI_1 v
  · rw [po_usF_ot (by omega)]
    exact h2
  · show (usI (usI z (n + 4) v (nI x)) (n + 5) v (nI u)).2.1 (n + 3) c = _
    rw [po_usI_ot (by omega), po_usI_ot (by omega)]
    exact h3 c hc
  · show (usI (usI z (n + 4) v (nI x)) (n + 5) v (nI u)).2.1 (n + 4) w = _ ∧ (usI (usI z (n + 4) v (nI x)) (n + 5) v (nI u)).2.1 (n + 5) w = _
    rw [po_usI_ot (h := n + 5) (g := n + 4) (by omega)]
    rw [← List.append_assoc] at hw
    by_cases hwv : w = v
    · subst hwv
      rw [← hv, List.getElem?_append_right (Nat.le_refl _), Nat.sub_self] at hw
      cases hw
      exact ⟨po_usI_at, po_usI_at⟩
    · have hlt : w < v := by
        have h9 := (List.getElem?_eq_some_iff.mp hw).1
        rw [List.length_append, hv] at h9
        have : w < v + 1 := h9
        omega
      rw [List.getElem?_append_left (by rw [hv]; exact hlt)] at hw
      rw [po_usI_ne hwv, po_usI_ne hwv, po_usI_ot (by omega)]
      exact h4 w p hw
  · exact fr_F2 (fr_I2 (fr_I (Or.inr (Or.inl rfl))) (Or.inr (Or.inr rfl))) (Or.inl rfl)
theorem e_X12_end {r0 : Nat} {z : ow_MS} {Q : ow_MS → Prop} (H : Tt (fun K _ => qm_X12_end_0 K r0 z) Q) : Te (fun K => qe_X12_end K r0 z) Q := w_te0 H
theorem tn_end {n : Nat} {z : ow_MS} {A : rn_L} {B : List (Nat × Nat)} (hn : mw_net n) (h : rn_At z n A B) (hlen : A.length < 39) : Te (fun K => qe_X12_end K n z) (fun z1 => rn_At z1 n (A ++ [B]) [] ∧ fr (fun g => g = n + 2 ∨ g = n + 3) z z1) := by
  obtain ⟨h1, h2, h3, h4⟩ := h
  have hfl : (A ++ [B]).flatten = A.flatten ++ B := by rw [List.flatten_append]; simp
  refine e_X12_end ?_; unfold qm_X12_end_0
  refine w_rdF h2 (w_wrF (w_rdF (x := nI (A.length + 1)) (po_usF_at.trans (nI_1 _)) (w_rdF (x := nI (A.flatten ++ B).length) (rf_ot (by omega) h1) (w_wrI (pl3 hn) rfl (by omega) (w_some ⟨⟨?_, ?_, fun c hc => ?_, fun w p hw => ?_⟩, ?_⟩)))))
  · show (usF z (n + 2) (nI A.length + 1)).1 (n + 1) = _
    rw [po_usF_ot (by omega), h1, hfl, List.append_nil]
  · show (usF z (n + 2) (nI A.length + 1)).1 (n + 2) = _
    rw [po_usF_at, List.length_append]
    exact nI_1 _
  · by_cases hc2 : c = A.length + 1
    · subst hc2
      rw [po_usI_at, List.take_of_length_le (by rw [List.length_append]; exact Nat.le_refl _), hfl]
    · have hc3 : c ≤ A.length := by
        rw [List.length_append] at hc
        have : c ≤ A.length + 1 := hc
        omega
      rw [po_usI_ne hc2, List.take_append_of_le_length hc3]
      exact h3 c hc3
  · rw [hfl, List.append_nil] at hw
    exact ⟨rd_ot (by omega) (h4 w p hw).1, rd_ot (by omega) (h4 w p hw).2⟩
  · exact fr_I2 (fr_F (Or.inl rfl)) (Or.inr rfl)
theorem e_X12_signsOf {r0 : Nat} {r1 : Nat} {z : ow_MS} {Q : ow_MS → Prop} (H : Tt (fun K k => q_X12_signsOf K k 0 0 r0 r1 z) Q) : Te (fun K => qe_X12_signsOf K r0 r1 z) Q := w_te H
theorem u_X12_signsOf_0 {x2 : Int32} {r0 : Nat} {r1 : Nat} {z : ow_MS} {Q : ow_MS → Prop} (H : Tt (fun K k => qm_X12_signsOf_0 K (q_X12_signsOf K k) x2 r0 r1 z) Q) : Tt (fun K k => q_X12_signsOf K k 0 x2 r0 r1 z) Q := w_un (fun _ _ => rfl) H
theorem u_X12_signsOf_1 {x2 : Int32} {r0 : Nat} {r1 : Nat} {z : ow_MS} {Q : ow_MS → Prop} (H : Tt (fun K k => qm_X12_signsOf_1 K (q_X12_signsOf K k) x2 r0 r1 z) Q) : Tt (fun K k => q_X12_signsOf K k 1 x2 r0 r1 z) Q := w_un (fun _ _ => rfl) H
theorem tn_signs {n o : Nat} {z : ow_MS} (hn : mw_net n) (ho : mw_net o) (hno : n ≠ o) : Te (fun K => qe_X12_signsOf K n o z) (fun z1 => fr (fun g => g = n + 6) z z1 ∧ ∀ x, x < 40 → z1.2.1 (n + 6) x = z.2.1 (o + 6) x) := by
  refine e_X12_signsOf ?_
  refine u_X12_signsOf_0 ?_; unfold qm_X12_signsOf_0
  have hne : o + 6 ≠ n + 6 := by omega
  have key : ∀ (d i : Nat) (z1 : ow_MS), i + d = 40 → fr (fun g => g = n + 6) z z1 → (∀ x, x < i → z1.2.1 (n + 6) x = z.2.1 (o + 6) x) → Tt (fun K k => q_X12_signsOf K k 1 (nI i) n o z1) (fun z1 => fr (fun g => g = n + 6) z z1 ∧ ∀ x, x < 40 → z1.2.1 (n + 6) x = z.2.1 (o + 6) x) := by
    intro d
    induction d with
    | zero =>
      intro i z1 hi hf hx
      refine u_X12_signsOf_1 ?_; unfold qm_X12_signsOf_1
      exact w_leT (a := 40) (by omega) (by omega) (w_some ⟨hf, fun x h9 => hx x (by omega)⟩)
    | succ d ih =>
      intro i z1 hi hf hx
      refine u_X12_signsOf_1 ?_; unfold qm_X12_signsOf_1
      refine w_leF (a := 40) (by omega) (by omega) (w_rdI (pl6 ho) rfl (by omega) rfl (w_wrI (pl6 hn) rfl (by omega) ?_))
      rw [nI_1]
      refine ih (i + 1) _ (by omega) (fr_I2 hf rfl) (fun x h9 => ?_)
      by_cases hxi : x = i
      · rw [hxi, po_usI_at, (hf _ hne).2.1]
      · rw [po_usI_ne hxi]
        exact hx x (by omega)
  exact key 40 0 z (by omega) fr_rf (fun x h9 => by omega)
theorem rn_at_idx {A1 A2 : rn_L} {B1 B2 : List (Nat × Nat)} {p : Nat × Nat} : ((A1 ++ (B1 ++ p :: B2) :: A2).flatten ++ [])[A1.flatten.length + B1.length]? = some p := by
  have e : (A1 ++ (B1 ++ p :: B2) :: A2).flatten ++ [] = (A1.flatten ++ B1) ++ (p :: (B2 ++ A2.flatten)) := by simp
  rw [e, ← List.length_append, List.getElem?_append_right (Nat.le_refl _), Nat.sub_self]
  rfl
theorem rn_take1 {A1 A2 : rn_L} {B : List (Nat × Nat)} : ((A1 ++ B :: A2).take (A1.length + 1)).flatten.length = A1.flatten.length + B.length := by
  rw [List.take_append, List.take_of_length_le (by omega)]
  have : A1.length + 1 - A1.length = 1 := by omega
  rw [this]
  simp
theorem rn_take0 {A1 A2 : rn_L} : ((A1 ++ A2).take A1.length).flatten.length = A1.flatten.length := by
  rw [List.take_append_of_le_length (Nat.le_refl _), List.take_length]
/-- what copy has done at its end -/
def rn_cpQ (n o : Nat) (A : rn_L) (z z1 : ow_MS) : Prop := rn_At z1 n A [] ∧ fr (fun g => n + 1 ≤ g ∧ g ≤ n + 6) z z1 ∧ ∀ x, x < 40 → z1.2.1 (n + 6) x = z.2.1 (o + 6) x
theorem u_X12_copy_1 {x2 : Int32} {x3 : Int32} {r0 : Nat} {r1 : Nat} {z : ow_MS} {Q : ow_MS → Prop} (H : Tt (fun K k => qm_X12_copy_1 K (q_X12_copy K k) x2 x3 r0 r1 z) Q) : Tt (fun K k => q_X12_copy K k 1 x2 x3 r0 r1 z) Q := w_un (fun _ _ => rfl) H
theorem u_X12_copy_2 {x2 : Int32} {x3 : Int32} {r0 : Nat} {r1 : Nat} {z : ow_MS} {Q : ow_MS → Prop} (H : Tt (fun K k => qm_X12_copy_2 K (q_X12_copy K k) x2 x3 r0 r1 z) Q) : Tt (fun K k => q_X12_copy K k 2 x2 x3 r0 r1 z) Q := w_un (fun _ _ => rfl) H
theorem e_X12_copy {r0 : Nat} {r1 : Nat} {z : ow_MS} {Q : ow_MS → Prop} (H : Tt (fun K k => q_X12_copy K k 0 0 0 r0 r1 z) Q) : Te (fun K => qe_X12_copy K r0 r1 z) Q := w_te H
theorem u_X12_copy_0 {x2 : Int32} {x3 : Int32} {r0 : Nat} {r1 : Nat} {z : ow_MS} {Q : ow_MS → Prop} (H : Tt (fun K k => qm_X12_copy_0 K (q_X12_copy K k) x2 x3 r0 r1 z) Q) : Tt (fun K k => q_X12_copy K k 0 x2 x3 r0 r1 z) Q := w_un (fun _ _ => rfl) H
theorem tn_copy {n o : Nat} {z : ow_MS} {A : rn_L} (hn : mw_net n) (ho : mw_net o) (hno : n ≠ o) (hlen : A.flatten.length ≤ 40) (hcn : A.length ≤ 39) (hzo : rn_At z o A []) : Te (fun K => qe_X12_copy K n o z) (rn_cpQ n o A z) := by
  have hm := net_mod hn
  have hm2 := net_mod ho
  have frO : ∀ {P : Nat → Prop} {y y1 : ow_MS}, fr P y y1 → (∀ g, P g → n + 1 ≤ g ∧ g ≤ n + 6) → rn_At y o A [] → rn_At y1 o A [] := fun hf hP h => fr_At hf (fun g hg => by have := hP g hg; omega) h
  have frM : ∀ {P : Nat → Prop} {y y1 : ow_MS}, (∀ g, P g → n + 1 ≤ g ∧ g ≤ n + 6) → fr P y y1 → fr (fun g => n + 1 ≤ g ∧ g ≤ n + 6) y y1 := fun hP hf => fr_mono hP hf
  have out : ∀ (A2 A1 : rn_L) (z1 : ow_MS), A1 ++ A2 = A → fr (fun g => n + 1 ≤ g ∧ g ≤ n + 6) z z1 → rn_At z1 o A [] → rn_At z1 n A1 [] → Tt (fun K k => q_X12_copy K k 1 (nI A1.length) 0 n o z1) (rn_cpQ n o A z) := by
    intro A2
    induction A2 with
    | nil =>
      intro A1 z1 hA hf hzo hzn
      rw [List.append_nil] at hA
      subst hA
      refine u_X12_copy_1 ?_; unfold qm_X12_copy_1
      refine w_rdF hzo.2.1 (w_leT (by omega) (Nat.le_refl _) (w_cs0 (tn_signs hn ho hno) (fun z2 ⟨e1, e2⟩ => w_some ⟨fr_At e1 (fun g hg => by omega) hzn, fr_tr hf (frM (fun g hg => by omega) e1), fun x hx => ?_⟩)))
      rw [e2 x hx, (hf (o + 6) (by omega)).2.1]
    | cons B A2 ih =>
      intro A1 z1 hA hf hzo hzn
      have hC : A1.length + 1 ≤ A.length := by
        rw [← hA, List.length_append, List.length_cons]
        omega
      have hL : A1.flatten.length + B.length ≤ A.flatten.length := by
        have : (A1 ++ B :: A2).flatten.length = A1.flatten.length + (B.length + A2.flatten.length) := by simp
        rw [← hA]
        omega
      have b0 : ∀ y, rn_At y o A [] → y.2.1 (o + 3) A1.length = nI A1.flatten.length := fun y hy => by
        rw [hy.2.2.1 _ (by omega), ← hA, rn_take0]
      have b1 : ∀ y, rn_At y o A [] → y.2.1 (o + 3) (A1.length + 1) = nI (A1.flatten.length + B.length) := fun y hy => by
        rw [hy.2.2.1 _ (by omega), ← hA, rn_take1]
      have inn : ∀ (B2 B1 : List (Nat × Nat)) (z1 : ow_MS), B1 ++ B2 = B → fr (fun g => n + 1 ≤ g ∧ g ≤ n + 6) z z1 → rn_At z1 o A [] → rn_At z1 n A1 B1 → Tt (fun K k => q_X12_copy K k 2 (nI A1.length) (nI (A1.flatten.length + B1.length)) n o z1) (rn_cpQ n o A z) := by
        intro B2
        induction B2 with
        | nil =>
          intro B1 z1 hB hf hzo hzn
          rw [List.append_nil] at hB
          subst hB
          refine u_X12_copy_2 ?_; unfold qm_X12_copy_2
          refine w_rdI (pl3 ho) (nI_1 _) (by omega) (b1 _ hzo) (w_leT (by omega) (Nat.le_refl _) (w_cs0 (tn_end hn hzn (by omega)) (fun z2 ⟨e1, e2⟩ => ?_)))
          have := ih (A1 ++ [B1]) z2 (by rw [← hA]; simp) (fr_tr hf (frM (fun g hg => by omega) e2)) (frO e2 (fun g hg => by omega) hzo) e1
          rw [List.length_append] at this
          rw [nI_1]
          exact this
        | cons p B2 ihB =>
          intro B1 z1 hB hf hzo hzn
          have hBl : B1.length + (B2.length + 1) = B.length := by
            rw [← hB, List.length_append]
            rfl
          have hx := hzo.2.2.2 (A1.flatten.length + B1.length) p (by rw [← hA, ← hB]; exact rn_at_idx)
          refine u_X12_copy_2 ?_; unfold qm_X12_copy_2
          refine w_rdI (pl3 ho) (nI_1 _) (by omega) (b1 _ hzo) (w_leF (by omega) (by omega) (w_rdI (pl4 ho) rfl (by omega) hx.1 (w_rdI (pl5 ho) rfl (by omega) hx.2 (w_cs0 (tn_add hn hzn (by rw [List.length_append]; omega)) (fun z2 ⟨e1, e2⟩ => ?_)))))
          have := ihB (B1 ++ [p]) z2 (by rw [← hB]; simp) (fr_tr hf (frM (fun g hg => by omega) e2)) (frO e2 (fun g hg => by omega) hzo) e1
          rw [List.length_append] at this
          rw [nI_1]
          exact this
      refine u_X12_copy_1 ?_; unfold qm_X12_copy_1
      have hlA : A.length ≤ 39 := hcn
      exact w_rdF hzo.2.1 (w_leF (by omega) (by omega) (w_rdI (pl3 ho) rfl (by omega) (b0 _ hzo) (inn B [] z1 (List.nil_append _) hf hzo hzn)))
  refine e_X12_copy ?_
  refine u_X12_copy_0 ?_; unfold qm_X12_copy_0
  refine w_cs0 (tn_clear hn) (fun z1 ⟨e1, e2⟩ => ?_)
  exact out A [] z1 (List.nil_append _) (frM (fun g hg => by omega) e2) (frO e2 (fun g hg => by omega) hzo) e1
end
section
/-! 99zzc.link -/
/-! the reference's nets: link -/
def rn_b (A : rn_L) (c : Nat) : Nat := (A.take c).flatten.length
theorem rn_b0 (A : rn_L) : rn_b A 0 = 0 := rfl
theorem rn_bS (B : List (Nat × Nat)) (A : rn_L) (c : Nat) : rn_b (B :: A) (c + 1) = B.length + rn_b A c := by
  unfold rn_b
  rw [List.take_succ_cons, List.flatten_cons, List.length_append]
theorem rn_bN (c : Nat) : rn_b [] c = 0 := by
  unfold rn_b
  rw [List.take_nil]
  rfl
theorem rn_b_mono : ∀ (A : rn_L) (c : Nat), rn_b A c ≤ rn_b A (c + 1)
  | [], c => by rw [rn_bN, rn_bN]; exact Nat.le_refl _
  | B :: A, 0 => by rw [rn_b0]; exact Nat.zero_le _
  | B :: A, c + 1 => by
    rw [rn_bS, rn_bS]
    exact Nat.add_le_add_left (rn_b_mono A c) _
theorem rn_b_len (A : rn_L) : rn_b A A.length = A.flatten.length := by
  unfold rn_b
  rw [List.take_length]
theorem rn_b_le : ∀ (A : rn_L) (c : Nat), rn_b A c ≤ A.flatten.length
  | [], c => by rw [rn_bN]; exact Nat.zero_le _
  | B :: A, 0 => by rw [rn_b0]; exact Nat.zero_le _
  | B :: A, c + 1 => by
    rw [rn_bS, List.flatten_cons, List.length_append]
    exact Nat.add_le_add_left (rn_b_le A c) _
/-- the component of a visit -/
def rn_c : rn_L → Nat → Nat
  | [], _ => 0
  | B :: A, v => if v < B.length then 0 else rn_c A (v - B.length) + 1
theorem rn_c_of : ∀ (A : rn_L) (c v : Nat), rn_b A c ≤ v → v < rn_b A (c + 1) → rn_c A v = c
  | [], c, v, _, h => by rw [rn_bN] at h; omega
  | B :: A, 0, v, _, h => by
    rw [rn_bS, rn_b0] at h
    unfold rn_c
    rw [if_pos (by omega)]
  | B :: A, c + 1, v, h1, h2 => by
    rw [rn_bS] at h1 h2
    unfold rn_c
    rw [if_neg (by omega), rn_c_of A c (v - B.length) (by omega) (by omega)]
theorem rn_c_in : ∀ (A : rn_L) (v : Nat), v < A.flatten.length → rn_c A v < A.length ∧ rn_b A (rn_c A v) ≤ v ∧ v < rn_b A (rn_c A v + 1)
  | [], v, h => by simp at h
  | B :: A, v, h => by
    rw [List.flatten_cons, List.length_append] at h
    unfold rn_c
    by_cases hv : v < B.length
    · rw [if_pos hv, rn_b0, rn_bS, rn_b0, List.length_cons]
      omega
    · obtain ⟨h1, h2, h3⟩ := rn_c_in A (v - B.length) (by omega)
      rw [if_neg hv, rn_bS, rn_bS, List.length_cons]
      omega
def rn_nx (A : rn_L) (v : Nat) : Nat := if v + 1 < rn_b A (rn_c A v + 1) then v + 1 else rn_b A (rn_c A v)
def rn_pv (A : rn_L) (v : Nat) : Nat := if rn_b A (rn_c A v) < v then v - 1 else rn_b A (rn_c A v + 1) - 1
/-- two visits of one crossing -/
def rn_mt (F : List (Nat × Nat)) (v w : Nat) : Prop := v ≠ w ∧ ∃ p q, F[v]? = some p ∧ F[w]? = some q ∧ p.1 = q.1
theorem rn_mt.symm {F : List (Nat × Nat)} {v w : Nat} (h : rn_mt F v w) : rn_mt F w v := by
  obtain ⟨h1, p, q, h2, h3, h4⟩ := h
  exact ⟨fun e => h1 e.symm, q, p, h3, h2, h4.symm⟩
/-- no crossing has three visits, and all are below 40 -/
def rn_d2 (F : List (Nat × Nat)) : Prop := (∀ v w w', rn_mt F v w → rn_mt F v w' → w = w') ∧ ∀ (v : Nat) (p : Nat × Nat), F[v]? = some p → p.1 < 40 ∧ p.2 < 2
def rn_LI (z : ow_MS) (n : Nat) (A : rn_L) (m : Nat) : Prop := (∀ v, v < m → z.2.1 (n + 8) v = nI (rn_c A v) ∧ z.2.1 (n + 9) v = nI (rn_nx A v) ∧ z.2.1 (n + 10) v = nI (rn_pv A v)) ∧ (∀ x, x < 40 → (z.2.1 (n + 11) x = -1 ∧ ∀ v p, v < m → A.flatten[v]? = some p → p.1 ≠ x) ∨ ∃ v p, v < m ∧ A.flatten[v]? = some p ∧ p.1 = x ∧ z.2.1 (n + 11) x = nI v) ∧ ∀ v w, v < m → w < m → rn_mt A.flatten v w → z.2.1 (n + 7) v = nI w
theorem rn_neg1 {v : Nat} (hv : v < 2 ^ 31) : ¬ nI v = -1 := by
  intro e
  have h1 := congrArg Int32.toInt e
  rw [nI_toInt hv] at h1
  have h2 : (-1 : Int32).toInt = -1 := by decide
  rw [h2] at h1
  omega
/-- the first three rows of an inner turn -/
def rn_z3 (z : ow_MS) (n : Nat) (A : rn_L) (v : Nat) : ow_MS := usI (usI (usI z (n + 8) v (nI (rn_c A v))) (n + 9) v (nI (rn_nx A v))) (n + 10) v (nI (rn_pv A v))
theorem rn_z3_rows {z : ow_MS} {n v : Nat} {A : rn_L} : (rn_z3 z n A v).2.1 (n + 7) = z.2.1 (n + 7) ∧ (rn_z3 z n A v).2.1 (n + 11) = z.2.1 (n + 11) ∧ ∀ m, (∀ w, w < m → z.2.1 (n + 8) w = nI (rn_c A w) ∧ z.2.1 (n + 9) w = nI (rn_nx A w) ∧ z.2.1 (n + 10) w = nI (rn_pv A w)) → m ≤ v → ∀ w, w < m ∨ w = v → (rn_z3 z n A v).2.1 (n + 8) w = nI (rn_c A w) ∧ (rn_z3 z n A v).2.1 (n + 9) w = nI (rn_nx A w) ∧ (rn_z3 z n A v).2.1 (n + 10) w = nI (rn_pv A w) := by
  unfold rn_z3
  refine ⟨by rw [po_usI_ot (by omega), po_usI_ot (by omega), po_usI_ot (by omega)], by rw [po_usI_ot (by omega), po_usI_ot (by omega), po_usI_ot (by omega)], fun m hm hv w hw => ?_⟩
  rw [po_usI_ot (h := n + 10) (g := n + 8) (by omega), po_usI_ot (h := n + 9) (g := n + 8) (by omega), po_usI_ot (h := n + 10) (g := n + 9) (by omega)]
  by_cases hwv : w = v
  · subst hwv
    exact ⟨po_usI_at, po_usI_at, po_usI_at⟩
  · have hwm : w < m := hw.resolve_right hwv
    rw [po_usI_ne hwv, po_usI_ne hwv, po_usI_ne hwv, po_usI_ot (by omega), po_usI_ot (by omega), po_usI_ot (by omega)]
    exact hm w hwm
theorem rn_LI_a {n v : Nat} {z : ow_MS} {A : rn_L} {p : Nat × Nat} (hI : rn_LI z n A v) (hp : A.flatten[v]? = some p) (hx : p.1 < 40) (j1 : z.2.1 (n + 11) p.1 = -1) (j2 : ∀ w p9, w < v → A.flatten[w]? = some p9 → p9.1 ≠ p.1) : rn_LI (usI (rn_z3 z n A v) (n + 11) p.1 (nI v)) n A (v + 1) := by
  obtain ⟨i1, i2, i3⟩ := hI
  obtain ⟨r7, r11, r8⟩ := rn_z3_rows (z := z) (n := n) (v := v) (A := A)
  have rows : ∀ z1 : ow_MS, z1.2.1 (n + 8) = (rn_z3 z n A v).2.1 (n + 8) → z1.2.1 (n + 9) = (rn_z3 z n A v).2.1 (n + 9) → z1.2.1 (n + 10) = (rn_z3 z n A v).2.1 (n + 10) → ∀ w, w < v + 1 → z1.2.1 (n + 8) w = nI (rn_c A w) ∧ z1.2.1 (n + 9) w = nI (rn_nx A w) ∧ z1.2.1 (n + 10) w = nI (rn_pv A w) := by
    intro z1 e8 e9 e10 w hw
    rw [e8, e9, e10]
    exact r8 v i1 (Nat.le_refl _) w (by omega)
  refine ⟨rows _ (po_usI_ot (by omega)) (po_usI_ot (by omega)) (po_usI_ot (by omega)), fun x hx2 => ?_, fun a b ha hb hm => ?_⟩
  · by_cases hxe : x = p.1
    · subst hxe
      exact Or.inr ⟨v, p, by omega, hp, rfl, po_usI_at⟩
    · rw [po_usI_ne hxe, r11]
      rcases i2 x hx2 with ⟨a1, a2⟩ | ⟨a, b, a1, a2, a3, a4⟩
      · refine Or.inl ⟨a1, fun w p9 hw hp9 => ?_⟩
        by_cases hwv : w = v
        · subst hwv
          rw [hp] at hp9
          cases hp9
          exact fun e => hxe e.symm
        · exact a2 w p9 (by omega) hp9
      · exact Or.inr ⟨a, b, by omega, a2, a3, a4⟩
  · rw [po_usI_ot (by omega), r7]
    have no : ∀ w, w < v → ¬ rn_mt A.flatten v w := by
      intro w hw hm9
      obtain ⟨-, p9, q9, e1, e2, e3⟩ := hm9
      rw [hp] at e1
      cases e1
      exact j2 w q9 hw e2 e3.symm
    have hav : a ≠ v := fun e => by
      subst e
      exact no b (by have := hm.1; omega) hm
    have hbv : b ≠ v := fun e => by
      subst e
      exact no a (by omega) hm.symm
    exact i3 a b (by omega) (by omega) hm
theorem rn_LI_b {n v w : Nat} {z : ow_MS} {A : rn_L} {p p2 : Nat × Nat} (hd : rn_d2 A.flatten) (hI : rn_LI z n A v) (hp : A.flatten[v]? = some p) (hx : p.1 < 40) (j1 : w < v) (j2 : A.flatten[w]? = some p2) (j3 : p2.1 = p.1) : rn_LI (usI (usI (rn_z3 z n A v) (n + 7) v (nI w)) (n + 7) w (nI v)) n A (v + 1) := by
  obtain ⟨i1, i2, i3⟩ := hI
  obtain ⟨r7, r11, r8⟩ := rn_z3_rows (z := z) (n := n) (v := v) (A := A)
  have rows : ∀ z1 : ow_MS, z1.2.1 (n + 8) = (rn_z3 z n A v).2.1 (n + 8) → z1.2.1 (n + 9) = (rn_z3 z n A v).2.1 (n + 9) → z1.2.1 (n + 10) = (rn_z3 z n A v).2.1 (n + 10) → ∀ w, w < v + 1 → z1.2.1 (n + 8) w = nI (rn_c A w) ∧ z1.2.1 (n + 9) w = nI (rn_nx A w) ∧ z1.2.1 (n + 10) w = nI (rn_pv A w) := by
    intro z1 e8 e9 e10 w hw
    rw [e8, e9, e10]
    exact r8 v i1 (Nat.le_refl _) w (by omega)
  have hvw : rn_mt A.flatten v w := ⟨by omega, p, p2, hp, j2, j3.symm⟩
  refine ⟨rows _ (by rw [po_usI_ot (by omega), po_usI_ot (by omega)]) (by rw [po_usI_ot (by omega), po_usI_ot (by omega)]) (by rw [po_usI_ot (by omega), po_usI_ot (by omega)]), fun x hx2 => ?_, fun a b ha hb hm => ?_⟩
  · rw [po_usI_ot (by omega), po_usI_ot (by omega), r11]
    rcases i2 x hx2 with ⟨a1, a2⟩ | ⟨a, b, a1, a2, a3, a4⟩
    · refine Or.inl ⟨a1, fun w9 p9 hw hp9 => ?_⟩
      by_cases hwv : w9 = v
      · subst hwv
        rw [hp] at hp9
        cases hp9
        rw [← j3]
        exact a2 w p2 j1 j2
      · exact a2 w9 p9 (by omega) hp9
    · exact Or.inr ⟨a, b, by omega, a2, a3, a4⟩
  · by_cases haw : a = w
    · subst haw
      rw [po_usI_at, hd.1 a b v hm hvw.symm]
    · rw [po_usI_ne haw]
      by_cases hav : a = v
      · subst hav
        rw [po_usI_at, hd.1 a b w hm hvw]
      · rw [po_usI_ne hav, r7]
        have hbv : b ≠ v := fun e => by
          subst e
          exact haw (hd.1 b a w hm.symm hvw)
        exact i3 a b (by omega) (by omega) hm
abbrev frL (n g : Nat) : Prop := n + 7 ≤ g ∧ g ≤ n + 11
theorem rn_z3_fr {z : ow_MS} {n v : Nat} {A : rn_L} : fr (frL n) z (rn_z3 z n A v) := fr_I2 (fr_I2 (fr_I ⟨by omega, by omega⟩) ⟨by omega, by omega⟩) ⟨by omega, by omega⟩
theorem u_X12_link_3 {x1 : Int32} {x2 : Int32} {x3 : Int32} {r0 : Nat} {t0 : Int32} {t1 : Int32} {z : ow_MS} {Q : ow_MS → Prop} (H : Tt (fun K k => qm_X12_link_3 K (q_X12_link K k) x1 x2 x3 r0 t0 t1 z) Q) : Tt (fun K k => q_X12_link K k 3 x1 x2 x3 r0 t0 t1 z) Q := w_un (fun _ _ => rfl) H
theorem u_X12_link_6 {x1 : Int32} {x2 : Int32} {x3 : Int32} {r0 : Nat} {t0 : Int32} {t1 : Int32} {z : ow_MS} {Q : ow_MS → Prop} (H : Tt (fun K k => qm_X12_link_6 K (q_X12_link K k) x1 x2 x3 r0 t0 t1 z) Q) : Tt (fun K k => q_X12_link K k 6 x1 x2 x3 r0 t0 t1 z) Q := w_un (fun _ _ => rfl) H
theorem u_X12_link_5 {x1 : Int32} {x2 : Int32} {x3 : Int32} {r0 : Nat} {t0 : Int32} {t1 : Int32} {z : ow_MS} {Q : ow_MS → Prop} (H : Tt (fun K k => qm_X12_link_5 K (q_X12_link K k) x1 x2 x3 r0 t0 t1 z) Q) : Tt (fun K k => q_X12_link K k 5 x1 x2 x3 r0 t0 t1 z) Q := w_un (fun _ _ => rfl) H
theorem u_X12_link_4 {x1 : Int32} {x2 : Int32} {x3 : Int32} {r0 : Nat} {t0 : Int32} {t1 : Int32} {z : ow_MS} {Q : ow_MS → Prop} (H : Tt (fun K k => qm_X12_link_4 K (q_X12_link K k) x1 x2 x3 r0 t0 t1 z) Q) : Tt (fun K k => q_X12_link K k 4 x1 x2 x3 r0 t0 t1 z) Q := w_un (fun _ _ => rfl) H
theorem u_X12_link_2 {x1 : Int32} {x2 : Int32} {x3 : Int32} {r0 : Nat} {t0 : Int32} {t1 : Int32} {z : ow_MS} {Q : ow_MS → Prop} (H : Tt (fun K k => qm_X12_link_2 K (q_X12_link K k) x1 x2 x3 r0 t0 t1 z) Q) : Tt (fun K k => q_X12_link K k 2 x1 x2 x3 r0 t0 t1 z) Q := w_un (fun _ _ => rfl) H
theorem u_X12_link_1 {x1 : Int32} {x2 : Int32} {x3 : Int32} {r0 : Nat} {t0 : Int32} {t1 : Int32} {z : ow_MS} {Q : ow_MS → Prop} (H : Tt (fun K k => qm_X12_link_1 K (q_X12_link K k) x1 x2 x3 r0 t0 t1 z) Q) : Tt (fun K k => q_X12_link K k 1 x1 x2 x3 r0 t0 t1 z) Q := w_un (fun _ _ => rfl) H
theorem e_X12_link {r0 : Nat} {z : ow_MS} {Q : ow_MS → Prop} (H : Tt (fun K k => q_X12_link K k 0 0 0 0 r0 0 0 z) Q) : Te (fun K => qe_X12_link K r0 z) Q := w_te H
theorem u_X12_link_0 {x1 : Int32} {x2 : Int32} {x3 : Int32} {r0 : Nat} {t0 : Int32} {t1 : Int32} {z : ow_MS} {Q : ow_MS → Prop} (H : Tt (fun K k => qm_X12_link_0 K (q_X12_link K k) x1 x2 x3 r0 t0 t1 z) Q) : Tt (fun K k => q_X12_link K k 0 x1 x2 x3 r0 t0 t1 z) Q := w_un (fun _ _ => rfl) H
/-- link: components, neighbours, mates -/
theorem tn_link {n : Nat} {z : ow_MS} {A : rn_L} (hn : mw_net n) (hlen : A.flatten.length ≤ 40) (hcn : A.length ≤ 39) (hd : rn_d2 A.flatten) (hA : rn_At z n A []) : Te (fun K => qe_X12_link K n z) (fun z1 => fr (frL n) z z1 ∧ rn_At z1 n A [] ∧ rn_LI z1 n A A.flatten.length) := by
  have frA : ∀ {y y1 : ow_MS}, fr (frL n) y y1 → rn_At y n A [] → rn_At y1 n A [] := fun hf h => fr_At hf (fun g hg => by have := hg.1; omega) h
  let Q : ow_MS → Prop := fun z1 => fr (frL n) z z1 ∧ rn_At z1 n A [] ∧ rn_LI z1 n A A.flatten.length
  have inn : ∀ (c : Nat), c < A.length → (∀ z1, fr (frL n) z z1 → rn_At z1 n A [] → rn_LI z1 n A (rn_b A (c + 1)) → Tt (fun K k => q_X12_link K k 2 (nI (c + 1)) 0 0 n 0 0 z1) Q) → ∀ (d v : Nat) (z1 : ow_MS), v + d = rn_b A (c + 1) → rn_b A c ≤ v → fr (frL n) z z1 → rn_At z1 n A [] → rn_LI z1 n A v → Tt (fun K k => q_X12_link K k 3 (nI c) (nI v) 0 n 0 0 z1) Q := by
    intro c hc hout d
    have hbl := rn_b_le A (c + 1)
    induction d with
    | zero =>
      intro v z1 hv h1 hf hA hI
      have hv2 : v = rn_b A (c + 1) := by omega
      subst hv2
      have b1 : z1.2.1 (n + 3) (c + 1) = nI (rn_b A (c + 1)) := hA.2.2.1 (c + 1) (by omega)
      refine u_X12_link_3 ?_; unfold qm_X12_link_3
      refine w_rdI (pl3 hn) (nI_1 _) (by omega) b1 (w_leT (by omega) (Nat.le_refl _) ?_)
      rw [nI_1]
      exact hout z1 hf hA hI
    | succ d ih =>
      intro v z1 hv h1 hf hA hI
      have b0 : z1.2.1 (n + 3) c = nI (rn_b A c) := hA.2.2.1 c (by omega)
      have b1 : z1.2.1 (n + 3) (c + 1) = nI (rn_b A (c + 1)) := hA.2.2.1 (c + 1) (by omega)
      have h2 : v < rn_b A (c + 1) := by omega
      have hco := rn_c_of A c v h1 h2
      obtain ⟨p, hp⟩ : ∃ p, A.flatten[v]? = some p := ⟨_, List.getElem?_eq_getElem (by omega)⟩
      have hx := (hd.2 v p hp).1
      have hcr : z1.2.1 (n + 4) v = nI p.1 := (hA.2.2.2 v p (by rw [List.append_nil]; exact hp)).1
      have hz : usI (usI (usI z1 (n + 8) v (nI c)) (n + 9) v (nI (rn_nx A v))) (n + 10) v (nI (rn_pv A v)) = rn_z3 z1 n A v := by
        unfold rn_z3
        rw [hco]
      have r11 := (rn_z3_rows (z := z1) (n := n) (v := v) (A := A)).2.1
      have hnx : rn_nx A v = if v + 1 < rn_b A (c + 1) then v + 1 else rn_b A c := by
        unfold rn_nx
        rw [hco]
      have hpv : rn_pv A v = if rn_b A c < v then v - 1 else rn_b A (c + 1) - 1 := by
        unfold rn_pv
        rw [hco]
      have c6 : ∀ (x3 : Int32) (z2 : ow_MS), fr (frL n) z1 z2 → rn_LI z2 n A (v + 1) → Tt (fun K k => q_X12_link K k 6 (nI c) (nI v) x3 n 0 0 z2) Q := by
        intro x3 z2 hf2 hI2
        refine u_X12_link_6 ?_; unfold qm_X12_link_6
        rw [nI_1]
        exact ih (v + 1) z2 (by omega) (by omega) (fr_tr hf hf2) (frA hf2 hA) hI2
      have c5 : Tt (fun K k => q_X12_link K k 5 (nI c) (nI v) 0 n (nI (rn_pv A v)) (nI v) (usI (usI z1 (n + 8) v (nI c)) (n + 9) v (nI (rn_nx A v)))) Q := by
        refine u_X12_link_5 ?_; unfold qm_X12_link_5
        refine w_wrI (pl10 hn) rfl (by omega) ?_
        rw [hz]
        refine w_rdI (pl4 hn) rfl (by omega) (x := nI p.1) ?_ ?_
        · rw [(rn_z3_fr (n + 4) (by omega)).2.1]
          exact hcr
        · rcases hI.2.1 p.1 hx with ⟨j1, j2⟩ | ⟨w, p2, j1, j2, j3, j4⟩
          · refine w_rdI (pl11 hn) rfl hx (x := -1) (by rw [r11]; exact j1) (w_ifT rfl (w_wrI (pl11 hn) rfl hx ?_))
            exact c6 _ _ (fr_I2 rn_z3_fr ⟨by omega, by omega⟩) (rn_LI_a hI hp hx j1 (fun w p9 hw hp9 => j2 w p9 hw hp9))
          · refine w_rdI (pl11 hn) rfl hx (x := nI w) (by rw [r11]; exact j4) (w_ifF (rn_neg1 (by omega)) (w_rdI (pl11 hn) rfl hx (x := nI w) (by rw [r11]; exact j4) (w_wrI (pl7 hn) rfl (by omega) (w_rdI (pl11 hn) rfl hx (x := nI w) (rd_ot (by omega) (by rw [r11]; exact j4)) (w_wrI (pl7 hn) rfl (by omega) ?_)))))
            exact c6 _ _ (fr_I2 (fr_I2 rn_z3_fr ⟨by omega, by omega⟩) ⟨by omega, by omega⟩) (rn_LI_b hd hI hp hx j1 j2 j3)
      have c4 : Tt (fun K k => q_X12_link K k 4 (nI c) (nI v) 0 n (nI (rn_nx A v)) (nI v) (usI z1 (n + 8) v (nI c))) Q := by
        refine u_X12_link_4 ?_; unfold qm_X12_link_4
        refine w_wrI (pl9 hn) rfl (by omega) (w_rdI (pl3 hn) rfl (by omega) (rd_ot (by omega) (rd_ot (by omega) b0)) (w_le (by omega) (by omega) (fun hb => w_rdI (pl3 hn) (nI_1 _) (by omega) (rd_ot (by omega) (rd_ot (by omega) b1)) ?_) (fun hb => ?_)))
        · have e9 : nI (rn_b A (c + 1)) - 1 = nI (rn_pv A v) := by
            rw [hpv, if_neg (by omega)]
            exact pk_sub (b := 1) (by omega)
          rw [e9]
          exact c5
        · have e9 : nI v - 1 = nI (rn_pv A v) := by
            rw [hpv, if_pos hb]
            exact pk_sub (b := 1) (by omega)
          rw [e9]
          exact c5
      refine u_X12_link_3 ?_; unfold qm_X12_link_3
      refine w_rdI (pl3 hn) (nI_1 _) (by omega) b1 (w_leF (by omega) h2 (w_wrI (pl8 hn) rfl (by omega) (w_rdI (pl3 hn) (nI_1 _) (by omega) (rd_ot (by omega) b1) ?_)))
      rw [nI_1]
      refine w_le (by omega) (by omega) (fun hb => w_rdI (pl3 hn) rfl (by omega) (rd_ot (by omega) b0) ?_) (fun hb => ?_)
      · rw [hnx, if_neg (by omega)] at c4
        exact c4
      · rw [hnx, if_pos hb] at c4
        exact c4
  have out : ∀ (d c : Nat) (z1 : ow_MS), c + d = A.length → fr (frL n) z z1 → rn_At z1 n A [] → rn_LI z1 n A (rn_b A c) → Tt (fun K k => q_X12_link K k 2 (nI c) 0 0 n 0 0 z1) Q := by
    intro d
    induction d with
    | zero =>
      intro c z1 hc hf hA hI
      have hc2 : c = A.length := by omega
      subst hc2
      refine u_X12_link_2 ?_; unfold qm_X12_link_2
      rw [rn_b_len] at hI
      exact w_rdF hA.2.1 (w_leT (by omega) (Nat.le_refl _) (w_some ⟨hf, hA, hI⟩))
    | succ d ih =>
      intro c z1 hc hf hA hI
      have hm := rn_b_mono A c
      refine u_X12_link_2 ?_; unfold qm_X12_link_2
      exact w_rdF hA.2.1 (w_leF (by omega) (by omega) (w_rdI (pl3 hn) rfl (by omega) (hA.2.2.1 c (by omega)) (inn c (by omega) (fun z2 h1 h2 h3 => ih (c + 1) z2 (by omega) h1 h2 h3) (rn_b A (c + 1) - rn_b A c) (rn_b A c) z1 (by omega) (Nat.le_refl _) hf hA hI)))
  have zer : ∀ (d i : Nat) (z1 : ow_MS), i + d = 40 → fr (frL n) z z1 → (∀ x, x < i → z1.2.1 (n + 11) x = -1) → Tt (fun K k => q_X12_link K k 1 (nI i) 0 0 n 0 0 z1) Q := by
    intro d
    induction d with
    | zero =>
      intro i z1 hi hf hx
      refine u_X12_link_1 ?_; unfold qm_X12_link_1
      refine w_leT (a := 40) (by omega) (by omega) (out A.length 0 z1 (by omega) hf (frA hf hA) ⟨fun v hv => by rw [rn_b0] at hv; omega, fun x hx2 => Or.inl ⟨hx x (by omega), fun v p hv => by rw [rn_b0] at hv; omega⟩, fun v w hv => by rw [rn_b0] at hv; omega⟩)
    | succ d ih =>
      intro i z1 hi hf hx
      refine u_X12_link_1 ?_; unfold qm_X12_link_1
      refine w_leF (a := 40) (by omega) (by omega) (w_wrI (pl11 hn) rfl (by omega) ?_)
      rw [nI_1]
      refine ih (i + 1) _ (by omega) (fr_I2 hf ⟨by omega, by omega⟩) (fun x hx2 => ?_)
      by_cases hxi : x = i
      · rw [hxi]
        exact po_usI_at
      · exact rd_ne hxi (hx x (by omega))
  refine e_X12_link ?_
  refine u_X12_link_0 ?_; unfold qm_X12_link_0
  exact zer 40 0 z (by omega) fr_rf (fun x hx => by omega)
end
section
/-! 99zzd.split -/
def rn_cU (M : Nat → Int32) : Nat → Nat
  | 0 => 0
  | n + 1 => rn_cU M n + if M n = -1 then 1 else 0
theorem rn_cU_ge {M : Nat → Int32} {b : Nat} {x : Int32} : ∀ n, n ≤ b → rn_cU (upd M b x) n = rn_cU M n
  | 0, _ => rfl
  | n + 1, h => by
    unfold rn_cU
    rw [rn_cU_ge n (by omega), pk_un (by omega)]
theorem rn_cU_upd {M : Nat → Int32} {b : Nat} {x : Int32} (hM : M b = -1) (hx : x ≠ -1) : ∀ n, b < n → rn_cU (upd M b x) n + 1 = rn_cU M n
  | 0, h => by omega
  | n + 1, h => by
    unfold rn_cU
    by_cases hb : b = n
    · subst hb
      rw [rn_cU_ge b (Nat.le_refl _), pk_us, if_neg hx, hM, if_pos rfl]
    · have := rn_cU_upd hM hx n (by omega)
      rw [pk_un (fun e => hb e.symm)]
      omega
/-- every visit has a mate, and only one -/
def rn_ok (F : List (Nat × Nat)) : Prop := rn_d2 F ∧ ∀ v, v < F.length → ∃ w, rn_mt F v w
theorem rn_mt_lt {F : List (Nat × Nat)} {v w : Nat} (h : rn_mt F v w) : v < F.length ∧ w < F.length := by
  obtain ⟨-, p, q, h1, h2, -⟩ := h
  exact ⟨(List.getElem?_eq_some_iff.mp h1).1, (List.getElem?_eq_some_iff.mp h2).1⟩
/-- components that share a crossing -/
def rn_adj (A : rn_L) (a b : Nat) : Prop := ∃ v w, rn_mt A.flatten v w ∧ rn_c A v = a ∧ rn_c A w = b
theorem rn_adj.symm {A : rn_L} {a b : Nat} (h : rn_adj A a b) : rn_adj A b a := by
  obtain ⟨v, w, h1, h2, h3⟩ := h
  exact ⟨w, v, h1.symm, h3, h2⟩
def rn_con (A : rn_L) (a b : Nat) : Prop := ∀ S : Nat → Prop, S a → (∀ x y, S x → rn_adj A x y → S y) → S b
theorem rn_con.rf {A : rn_L} {a : Nat} : rn_con A a a := fun _ h _ => h
theorem rn_con.tr {A : rn_L} {a b c : Nat} (h1 : rn_con A a b) (h2 : rn_con A b c) : rn_con A a c := fun S hs hc => h2 S (h1 S hs hc) hc
theorem rn_con.st {A : rn_L} {a b c : Nat} (h1 : rn_con A a b) (h2 : rn_adj A b c) : rn_con A a c := fun S hs hc => hc b c (h1 S hs hc) h2
theorem rn_con.symm {A : rn_L} {a b : Nat} (h : rn_con A a b) : rn_con A b a := h (fun x => rn_con A x a) rn_con.rf (fun x y hx hxy => fun S hs hc => hx S (hc y x hs hxy.symm) hc)
/-- what split reads: a linked net -/
def rn_lk (z : ow_MS) (n : Nat) (A : rn_L) : Prop := rn_At z n A [] ∧ rn_LI z n A A.flatten.length
theorem fr_lk {P : Nat → Prop} {z z1 : ow_MS} {n : Nat} {A : rn_L} (hf : fr P z z1) (hP : ∀ g, P g → g < n + 1 ∨ n + 5 < g ∧ g < n + 7 ∨ n + 11 < g) (h : rn_lk z n A) : rn_lk z1 n A := by
  obtain ⟨h0, i1, i2, i3⟩ := h
  have e : ∀ g, n + 7 ≤ g → g ≤ n + 11 → z1.2.1 g = z.2.1 g := fun g h1 h2 => (hf g (fun h9 => by have := hP g h9; omega)).2.1
  refine ⟨fr_At hf (fun g hg => by have := hP g hg; omega) h0, fun v hv => ?_, fun x hx => ?_, fun v w hv hw hm => ?_⟩
  · rw [e _ (by omega) (by omega), e (n + 9) (by omega) (by omega), e (n + 10) (by omega) (by omega)]; exact i1 v hv
  · rw [e _ (by omega) (by omega)]; exact i2 x hx
  · rw [e _ (by omega) (by omega)]; exact i3 v w hv hw hm
theorem rn_lk.V {z : ow_MS} {n : Nat} {A : rn_L} (h : rn_lk z n A) : z.1 (n + 1) = nI A.flatten.length := by
  rw [h.1.1, List.append_nil]
/-- the marks while part P grows from component c0 -/
def rn_SI (A : rn_L) (M : Nat → Int32) (P c0 : Nat) : Prop := (∀ c, c < A.length → M c = -1 ∨ ∃ p, p ≤ P ∧ M c = nI p) ∧ (∀ a b p, p < P → rn_adj A a b → M a = nI p → M b = nI p) ∧ (∀ a b p, p < P → a < A.length → b < A.length → M a = nI p → M b = nI p → rn_con A a b) ∧ M c0 = nI P ∧ (∀ b, b < A.length → M b = nI P → rn_con A c0 b) ∧ ∀ p, p < P → ∃ a, a < A.length ∧ M a = nI p
theorem rn_SI_st {A : rn_L} {M : Nat → Int32} {P c0 v w : Nat} (hP : P < 39) (hm : rn_mt A.flatten v w) (ca : rn_c A v < A.length) (c1 : M (rn_c A v) = nI P) (c2 : M (rn_c A w) = -1) (hS : rn_SI A M P c0) : rn_SI A (upd M (rn_c A w) (nI P)) P c0 := by
  have hne : nI P ≠ -1 := rn_neg1 (by omega)
  have hadj : rn_adj A (rn_c A v) (rn_c A w) := ⟨v, w, hm, rfl, rfl⟩
  obtain ⟨a1, a2, a3, a4, a5, a6⟩ := hS
  refine ⟨fun c hc => ?_, fun a b p hp hab ha => ?_, fun a b p hp ha hb hma hmb => ?_, ?_, fun b hb hmb => ?_, fun p hp => ?_⟩
  · by_cases hcw : c = rn_c A w
    · rw [hcw]
      exact Or.inr ⟨P, Nat.le_refl _, pk_us⟩
    · rw [pk_un hcw]
      exact a1 c hc
  · by_cases haw : a = rn_c A w
    · rw [haw, pk_us] at ha
      have := (nI_eq (a := P) (b := p) (by omega) (by omega)).mp ha
      omega
    · rw [pk_un haw] at ha
      have hb := a2 a b p hp hab ha
      by_cases hbw : b = rn_c A w
      · rw [hbw, c2] at hb
        exact absurd hb.symm (rn_neg1 (by omega))
      · rw [pk_un hbw]
        exact hb
  · have haw : a ≠ rn_c A w := fun e => by
      rw [e, pk_us] at hma
      have := (nI_eq (a := P) (b := p) (by omega) (by omega)).mp hma
      omega
    have hbw : b ≠ rn_c A w := fun e => by
      rw [e, pk_us] at hmb
      have := (nI_eq (a := P) (b := p) (by omega) (by omega)).mp hmb
      omega
    rw [pk_un haw] at hma
    rw [pk_un hbw] at hmb
    exact a3 a b p hp ha hb hma hmb
  · rw [pk_un (fun e => by rw [← e, a4] at c2; exact hne c2)]
    exact a4
  · by_cases hbw : b = rn_c A w
    · rw [hbw]
      exact (a5 _ ca c1).st hadj
    · rw [pk_un hbw] at hmb
      exact a5 b hb hmb
  · obtain ⟨a, ha, hma⟩ := a6 p hp
    refine ⟨a, ha, ?_⟩
    rw [pk_un (fun e => by rw [e, c2] at hma; exact rn_neg1 (v := p) (by omega) hma.symm)]
    exact hma
/-- the marks when parts below P are done -/
def rn_SD (A : rn_L) (M : Nat → Int32) (P : Nat) : Prop := (∀ c, c < A.length → M c = -1 ∨ ∃ p, p < P ∧ M c = nI p) ∧ (∀ a b p, p < P → rn_adj A a b → M a = nI p → M b = nI p) ∧ (∀ a b p, p < P → a < A.length → b < A.length → M a = nI p → M b = nI p → rn_con A a b) ∧ ∀ p, p < P → ∃ a, a < A.length ∧ M a = nI p
theorem rn_SI_SD {A : rn_L} {M : Nat → Int32} {P c0 : Nat} (hP : P < 39) (hc0 : c0 < A.length) (hS : rn_SI A M P c0) (hcl : ∀ v w, v < A.flatten.length → rn_mt A.flatten v w → M (rn_c A v) = nI P → M (rn_c A w) ≠ -1) : rn_SD A M (P + 1) := by
  obtain ⟨a1, a2, a3, a4, a5, a6⟩ := hS
  refine ⟨fun c hc => (a1 c hc).imp id (fun ⟨p, hp, e⟩ => ⟨p, by omega, e⟩), fun a b p hp hab ha => ?_, fun a b p hp ha hb hma hmb => ?_, fun p hp => ?_⟩
  · by_cases hpP : p < P
    · exact a2 a b p hpP hab ha
    · have hpe : P = p := by omega
      subst hpe
      obtain ⟨v, w, hm, rfl, rfl⟩ := hab
      have hnb := hcl v w (rn_mt_lt hm).1 hm ha
      rcases a1 (rn_c A w) (rn_c_in A w (rn_mt_lt hm).2).1 with e | ⟨p, hp2, e⟩
      · exact absurd e hnb
      · by_cases hpp : p = P
        · rw [← hpp]
          exact e
        · have h9 := a2 _ _ p (by omega) (rn_adj.symm ⟨v, w, hm, rfl, rfl⟩) e
          rw [ha] at h9
          have := (nI_eq (a := P) (b := p) (by omega) (by omega)).mp h9
          omega
  · by_cases hpP : p < P
    · exact a3 a b p hpP ha hb hma hmb
    · have hpe : P = p := by omega
      subst hpe
      exact (a5 a ha hma).symm.tr (a5 b hb hmb)
  · by_cases hpP : p < P
    · exact a6 p hpP
    · have hpe : P = p := by omega
      subst hpe
      exact ⟨c0, hc0, a4⟩
theorem rn_SI_0 {A : rn_L} {M : Nat → Int32} {P c : Nat} (hP : P < 39) (c1 : M c = -1) (hS : rn_SD A M P) : rn_SI A (upd M c (nI P)) P c := by
  have hne : nI P ≠ -1 := rn_neg1 (by omega)
  obtain ⟨a1, a2, a3, a4⟩ := hS
  have nc : ∀ a p, p < P → upd (M) c (nI P) a = nI p → a ≠ c ∧ M a = nI p := by
    intro a p hp ha
    have hac : a ≠ c := fun e => by
      rw [e, pk_us] at ha
      have := (nI_eq (a := P) (b := p) (by omega) (by omega)).mp ha
      omega
    rw [pk_un hac] at ha
    exact ⟨hac, ha⟩
  refine ⟨fun b hb => ?_, fun a b p hp hab ha => ?_, fun a b p hp ha hb hma hmb => ?_, pk_us, fun b hb hmb => ?_, fun p hp => ?_⟩
  · by_cases hbc : b = c
    · rw [hbc]
      exact Or.inr ⟨P, Nat.le_refl _, pk_us⟩
    · rw [pk_un hbc]
      exact (a1 b hb).imp id (fun ⟨p, hp, e⟩ => ⟨p, by omega, e⟩)
  · have hb := a2 a b p hp hab (nc a p hp ha).2
    have hbc : b ≠ c := fun e => by
      rw [e, c1] at hb
      exact rn_neg1 (v := p) (by omega) hb.symm
    rw [pk_un hbc]
    exact hb
  · exact a3 a b p hp ha hb (nc a p hp hma).2 (nc b p hp hmb).2
  · by_cases hbc : b = c
    · rw [hbc]
      exact rn_con.rf
    · rw [pk_un hbc] at hmb
      rcases a1 b hb with e | ⟨p, hp, e⟩
      · rw [e] at hmb
        exact absurd hmb.symm hne
      · rw [e] at hmb
        have := (nI_eq (a := p) (b := P) (by omega) (by omega)).mp hmb
        omega
  · obtain ⟨a, ha, hma⟩ := a4 p hp
    refine ⟨a, ha, ?_⟩
    rw [pk_un (fun e => by rw [e, c1] at hma; exact rn_neg1 (v := p) (by omega) hma.symm)]
    exact hma
/-- the parts of a linked net -/
def rn_pt (z : ow_MS) (n : Nat) (A : rn_L) (P : Nat) : Prop := z.1 (n + 13) = nI P ∧ P ≤ A.length ∧ rn_SD A (z.2.1 (n + 12)) P ∧ ∀ c, c < A.length → z.2.1 (n + 12) c ≠ -1
abbrev frP (n g : Nat) : Prop := g = n + 12 ∨ g = n + 13
theorem u_X12_split_4 {x1 : Int32} {x2 : Int32} {x3 : Int32} {r0 : Nat} {z : ow_MS} {Q : ow_MS → Prop} (H : Tt (fun K k => qm_X12_split_4 K (q_X12_split K k) x1 x2 x3 r0 z) Q) : Tt (fun K k => q_X12_split K k 4 x1 x2 x3 r0 z) Q := w_un (fun _ _ => rfl) H
theorem u_X12_split_5 {x1 : Int32} {x2 : Int32} {x3 : Int32} {r0 : Nat} {z : ow_MS} {Q : ow_MS → Prop} (H : Tt (fun K k => qm_X12_split_5 K (q_X12_split K k) x1 x2 x3 r0 z) Q) : Tt (fun K k => q_X12_split K k 5 x1 x2 x3 r0 z) Q := w_un (fun _ _ => rfl) H
theorem u_X12_split_3 {x1 : Int32} {x2 : Int32} {x3 : Int32} {r0 : Nat} {z : ow_MS} {Q : ow_MS → Prop} (H : Tt (fun K k => qm_X12_split_3 K (q_X12_split K k) x1 x2 x3 r0 z) Q) : Tt (fun K k => q_X12_split K k 3 x1 x2 x3 r0 z) Q := w_un (fun _ _ => rfl) H
theorem u_X12_split_2 {x1 : Int32} {x2 : Int32} {x3 : Int32} {r0 : Nat} {z : ow_MS} {Q : ow_MS → Prop} (H : Tt (fun K k => qm_X12_split_2 K (q_X12_split K k) x1 x2 x3 r0 z) Q) : Tt (fun K k => q_X12_split K k 2 x1 x2 x3 r0 z) Q := w_un (fun _ _ => rfl) H
theorem u_X12_split_6 {x1 : Int32} {x2 : Int32} {x3 : Int32} {r0 : Nat} {z : ow_MS} {Q : ow_MS → Prop} (H : Tt (fun K k => qm_X12_split_6 K (q_X12_split K k) x1 x2 x3 r0 z) Q) : Tt (fun K k => q_X12_split K k 6 x1 x2 x3 r0 z) Q := w_un (fun _ _ => rfl) H
theorem u_X12_split_1 {x1 : Int32} {x2 : Int32} {x3 : Int32} {r0 : Nat} {z : ow_MS} {Q : ow_MS → Prop} (H : Tt (fun K k => qm_X12_split_1 K (q_X12_split K k) x1 x2 x3 r0 z) Q) : Tt (fun K k => q_X12_split K k 1 x1 x2 x3 r0 z) Q := w_un (fun _ _ => rfl) H
theorem e_X12_split {r0 : Nat} {z : ow_MS} {Q : ow_MS → Prop} (H : Tt (fun K k => q_X12_split K k 0 0 0 0 r0 z) Q) : Te (fun K => qe_X12_split K r0 z) Q := w_te H
theorem u_X12_split_0 {x1 : Int32} {x2 : Int32} {x3 : Int32} {r0 : Nat} {z : ow_MS} {Q : ow_MS → Prop} (H : Tt (fun K k => qm_X12_split_0 K (q_X12_split K k) x1 x2 x3 r0 z) Q) : Tt (fun K k => q_X12_split K k 0 x1 x2 x3 r0 z) Q := w_un (fun _ _ => rfl) H
/-- split: the parts -/
theorem tn_split {n : Nat} {z : ow_MS} {A : rn_L} (hn : mw_net n) (hlen : A.flatten.length ≤ 40) (hcn : A.length ≤ 39) (hd : rn_ok A.flatten) (hL : rn_lk z n A) : Te (fun K => qe_X12_split K n z) (fun z1 => fr (frP n) z z1 ∧ ∃ P, rn_pt z1 n A P) := by
  have frK : ∀ {y y1 : ow_MS}, fr (frP n) y y1 → rn_lk y n A → rn_lk y1 n A := fun hf h => fr_lk hf (fun g hg => by rcases hg with hg | hg <;> omega) h
  let Q : ow_MS → Prop := fun z1 => fr (frP n) z z1 ∧ ∃ P, rn_pt z1 n A P
  have pass : ∀ (c0 P : Nat), P < 39 → c0 < A.length → ∀ (M0 : Nat → Int32), ∀ (d v : Nat) (g : Int32) (z1 : ow_MS), v + d = A.flatten.length → fr (frP n) z z1 → z1.1 (n + 13) = nI P → rn_SI A (z1.2.1 (n + 12)) P c0 → (g = 0 → ∀ v' w, v' < v → rn_mt A.flatten v' w → z1.2.1 (n + 12) (rn_c A v') = nI P → z1.2.1 (n + 12) (rn_c A w) ≠ -1) → (g = 0 ∧ rn_cU (z1.2.1 (n + 12)) A.length ≤ rn_cU M0 A.length ∨ g = 1 ∧ rn_cU (z1.2.1 (n + 12)) A.length < rn_cU M0 A.length) → (∀ c, M0 c ≠ -1 → z1.2.1 (n + 12) c = M0 c) →
      (∀ (g1 : Int32) (z2 : ow_MS), fr (frP n) z z2 → z2.1 (n + 13) = nI P → rn_SI A (z2.2.1 (n + 12)) P c0 → (g1 = 0 → ∀ v' w, v' < A.flatten.length → rn_mt A.flatten v' w → z2.2.1 (n + 12) (rn_c A v') = nI P → z2.2.1 (n + 12) (rn_c A w) ≠ -1) → (g1 = 0 ∧ rn_cU (z2.2.1 (n + 12)) A.length ≤ rn_cU M0 A.length ∨ g1 = 1 ∧ rn_cU (z2.2.1 (n + 12)) A.length < rn_cU M0 A.length) → (∀ c, M0 c ≠ -1 → z2.2.1 (n + 12) c = M0 c) → Tt (fun K k => q_X12_split K k 3 (nI c0) g1 0 n z2) Q) → Tt (fun K k => q_X12_split K k 4 (nI c0) g (nI v) n z1) Q := by
    intro c0 P hP hc0 M0 d
    induction d with
    | zero =>
      intro v g z1 hv hf h13 hS hq hcu hmo hout
      have hv2 : v = A.flatten.length := by omega
      subst hv2
      refine u_X12_split_4 ?_; unfold qm_X12_split_4
      exact w_rdF (frK hf hL).V (w_leT (by omega) (Nat.le_refl _) (hout g z1 hf h13 hS hq hcu hmo))
    | succ d ih =>
      intro v g z1 hv hf h13 hS hq hcu hmo hout
      have hL1 := frK hf hL
      have hvl : v < A.flatten.length := by omega
      obtain ⟨w, hm⟩ := hd.2 v hvl
      have hwl := (rn_mt_lt hm).2
      obtain ⟨ca, -, -⟩ := rn_c_in A v hvl
      obtain ⟨cb, -, -⟩ := rn_c_in A w hwl
      have e8 := (hL1.2.1 v hvl).1
      have e8w := (hL1.2.1 w hwl).1
      have e7 := hL1.2.2.2 v w hvl hwl hm
      have uniq : ∀ w', rn_mt A.flatten v w' → w' = w := fun w' h9 => hd.1.1 v w' w h9 hm
      have hne : nI P ≠ -1 := rn_neg1 (by omega)
      refine u_X12_split_4 ?_; unfold qm_X12_split_4
      refine w_rdF hL1.V (w_leF (by omega) hvl (w_rdI (pl8 hn) rfl (by omega) e8 (w_rdI (pl12 hn) rfl (by omega) rfl (w_rdF h13 (w_if (fun c1 => w_rdI (pl7 hn) rfl (by omega) e7 (w_rdI (pl8 hn) rfl (by omega) e8w (w_rdI (pl12 hn) rfl (by omega) rfl (w_if (fun c2 => w_rdI (pl7 hn) rfl (by omega) e7 (w_rdI (pl8 hn) rfl (by omega) e8w (w_rdF h13 (w_wrI (pl12 hn) rfl (by omega) ?_)))) (fun c2 => ?_))))) (fun c1 => ?_))))))
      · refine u_X12_split_5 ?_; unfold qm_X12_split_5
        rw [nI_1]
        have cu := rn_cU_upd (M := z1.2.1 (n + 12)) (x := nI P) c2 hne A.length cb
        refine ih (v + 1) 1 _ (by omega) (fr_I2 hf (Or.inl rfl)) h13 (by rw [po_usI_row]; exact rn_SI_st hP hm ca c1 c2 hS) (fun h9 => absurd h9 (by decide)) (Or.inr ⟨rfl, by rw [po_usI_row]; omega⟩) (fun c hc => ?_) hout
        have hcw : c ≠ rn_c A w := fun e => hc (by rw [← hmo c hc, e]; exact c2)
        exact rd_ne hcw (hmo c hc)
      · refine u_X12_split_5 ?_; unfold qm_X12_split_5
        rw [nI_1]
        refine ih (v + 1) g z1 (by omega) hf h13 hS (fun h9 v' w' hv' hm' hM => ?_) hcu hmo hout
        by_cases hvv : v' = v
        · rw [hvv] at hm'
          rw [uniq w' hm']
          exact c2
        · exact hq h9 v' w' (by omega) hm' hM
      · refine u_X12_split_5 ?_; unfold qm_X12_split_5
        rw [nI_1]
        refine ih (v + 1) g z1 (by omega) hf h13 hS (fun h9 v' w' hv' hm' hM => ?_) hcu hmo hout
        by_cases hvv : v' = v
        · rw [hvv] at hM
          exact absurd hM c1
        · exact hq h9 v' w' (by omega) hm' hM
  have wh : ∀ (c0 P : Nat), P < 39 → c0 < A.length → ∀ (u : Nat) (z1 : ow_MS), rn_cU (z1.2.1 (n + 12)) A.length ≤ u → fr (frP n) z z1 → z1.1 (n + 13) = nI P → rn_SI A (z1.2.1 (n + 12)) P c0 →
      (∀ (z2 : ow_MS), fr (frP n) z z2 → z2.1 (n + 13) = nI (P + 1) → rn_SD A (z2.2.1 (n + 12)) (P + 1) → (∀ c, z1.2.1 (n + 12) c ≠ -1 → z2.2.1 (n + 12) c = z1.2.1 (n + 12) c) → Tt (fun K k => q_X12_split K k 6 (nI c0) 0 0 n z2) Q) → Tt (fun K k => q_X12_split K k 3 (nI c0) 1 0 n z1) Q := by
    intro c0 P hP hc0 u
    induction u with
    | zero =>
      intro z1 hu hf h13 hS hout
      refine u_X12_split_3 ?_; unfold qm_X12_split_3
      refine w_ifF (by decide) (pass c0 P hP hc0 (z1.2.1 (n + 12)) A.flatten.length 0 0 z1 (by omega) hf h13 hS (fun _ v' w hv => by omega) (Or.inl ⟨rfl, Nat.le_refl _⟩) (fun _ _ => rfl) (fun g1 z2 hf2 h132 hS2 hq2 hcu2 hmo2 => ?_))
      rcases hcu2 with ⟨e, hcu⟩ | ⟨e, hcu⟩
      · subst e
        refine u_X12_split_3 ?_; unfold qm_X12_split_3
        refine w_ifT rfl (w_rdF h132 (w_wrF ?_))
        rw [nI_1]
        exact hout _ (fr_F2 hf2 (Or.inr rfl)) po_usF_at (rn_SI_SD hP hc0 hS2 (hq2 rfl)) hmo2
      · omega
    | succ u ih =>
      intro z1 hu hf h13 hS hout
      refine u_X12_split_3 ?_; unfold qm_X12_split_3
      refine w_ifF (by decide) (pass c0 P hP hc0 (z1.2.1 (n + 12)) A.flatten.length 0 0 z1 (by omega) hf h13 hS (fun _ v' w hv => by omega) (Or.inl ⟨rfl, Nat.le_refl _⟩) (fun _ _ => rfl) (fun g1 z2 hf2 h132 hS2 hq2 hcu2 hmo2 => ?_))
      rcases hcu2 with ⟨e, hcu⟩ | ⟨e, hcu⟩
      · subst e
        refine u_X12_split_3 ?_; unfold qm_X12_split_3
        refine w_ifT rfl (w_rdF h132 (w_wrF ?_))
        rw [nI_1]
        exact hout _ (fr_F2 hf2 (Or.inr rfl)) po_usF_at (rn_SI_SD hP hc0 hS2 (hq2 rfl)) hmo2
      · subst e
        exact ih z2 (by omega) hf2 h132 hS2 (fun z3 a1 a2 a3 a4 => hout z3 a1 a2 a3 (fun c hc => by
          have e9 := hmo2 c hc
          rw [a4 c (by rw [e9]; exact hc), e9]))
  have out : ∀ (d c P : Nat) (z1 : ow_MS), c + d = A.length → P ≤ c → fr (frP n) z z1 → z1.1 (n + 13) = nI P → rn_SD A (z1.2.1 (n + 12)) P → (∀ c', c' < c → z1.2.1 (n + 12) c' ≠ -1) → Tt (fun K k => q_X12_split K k 2 (nI c) 0 0 n z1) Q := by
    intro d
    induction d with
    | zero =>
      intro c P z1 hc hP hf h13 hS hm
      refine u_X12_split_2 ?_; unfold qm_X12_split_2
      exact w_rdF (frK hf hL).1.2.1 (w_leT (by omega) (by omega) (w_some ⟨hf, P, h13, by omega, hS, fun c' hc' => hm c' (by omega)⟩))
    | succ d ih =>
      intro c P z1 hc hP hf h13 hS hm
      have hcl : c < A.length := by omega
      have hne : nI P ≠ -1 := rn_neg1 (by omega)
      refine u_X12_split_2 ?_; unfold qm_X12_split_2
      refine w_rdF (frK hf hL).1.2.1 (w_leF (by omega) (by omega) (w_rdI (pl12 hn) rfl (by omega) rfl (w_if (fun c1 => w_rdF h13 (w_wrI (pl12 hn) rfl (by omega) (wh c P (by omega) hcl _ _ (Nat.le_refl _) (fr_I2 hf (Or.inl rfl)) h13 (by rw [po_usI_row]; exact rn_SI_0 (by omega) c1 hS) (fun z2 hf2 h132 hS2 hmo => ?_)))) (fun c1 => ?_))))
      · refine u_X12_split_6 ?_; unfold qm_X12_split_6
        rw [nI_1]
        rw [po_usI_row] at hmo
        refine ih (c + 1) (P + 1) z2 (by omega) (by omega) hf2 h132 hS2 (fun c' hc' => ?_)
        by_cases hce : c' = c
        · rw [hce, hmo c (by rw [pk_us]; exact hne), pk_us]
          exact hne
        · have e9 := pk_un (f := z1.2.1 (n + 12)) (x := nI P) hce
          have h9 := hm c' (by omega)
          rw [hmo c' (by rw [e9]; exact h9), e9]
          exact h9
      · refine u_X12_split_6 ?_; unfold qm_X12_split_6
        rw [nI_1]
        refine ih (c + 1) P z1 (by omega) (by omega) hf h13 hS (fun c' hc' => ?_)
        by_cases hce : c' = c
        · rw [hce]
          exact c1
        · exact hm c' (by omega)
  have zer : ∀ (d c : Nat) (z1 : ow_MS), c + d = A.length → fr (frP n) z z1 → (∀ c', c' < c → z1.2.1 (n + 12) c' = -1) → Tt (fun K k => q_X12_split K k 1 (nI c) 0 0 n z1) Q := by
    intro d
    induction d with
    | zero =>
      intro c z1 hc hf hm
      refine u_X12_split_1 ?_; unfold qm_X12_split_1
      refine w_rdF (frK hf hL).1.2.1 (w_leT (by omega) (by omega) (w_wrF (out A.length 0 0 _ (by omega) (Nat.le_refl _) (fr_F2 hf (Or.inr rfl)) po_usF_at ⟨fun c hc => Or.inl (hm c (by omega)), fun a b p hp => by omega, fun a b p hp => by omega, fun p hp => by omega⟩ (fun c hc => by omega))))
    | succ d ih =>
      intro c z1 hc hf hm
      refine u_X12_split_1 ?_; unfold qm_X12_split_1
      refine w_rdF (frK hf hL).1.2.1 (w_leF (by omega) (by omega) (w_wrI (pl12 hn) rfl (by omega) ?_))
      rw [nI_1]
      refine ih (c + 1) _ (by omega) (fr_I2 hf (Or.inl rfl)) (fun c' hc' => ?_)
      by_cases hce : c' = c
      · rw [hce]
        exact po_usI_at
      · exact rd_ne hce (hm c' (by omega))
  refine e_X12_split ?_
  refine u_X12_split_0 ?_; unfold qm_X12_split_0
  exact zer A.length 0 z (by omega) fr_rf (fun c hc => by omega)
end
section
/-! 99zze.walk -/
/-! the reference's nets: walk (its faces are counted), isCircle, isPlane -/
theorem rn_nx_lt {A : rn_L} {v : Nat} (hv : v < A.flatten.length) : rn_nx A v < A.flatten.length := by
  obtain ⟨h1, h2, h3⟩ := rn_c_in A v hv
  have h4 := rn_b_le A (rn_c A v + 1)
  unfold rn_nx
  by_cases h : v + 1 < rn_b A (rn_c A v + 1)
  · rw [if_pos h]; omega
  · rw [if_neg h]; omega
theorem rn_pv_lt {A : rn_L} {v : Nat} (hv : v < A.flatten.length) : rn_pv A v < A.flatten.length := by
  obtain ⟨h1, h2, h3⟩ := rn_c_in A v hv
  have h4 := rn_b_le A (rn_c A v + 1)
  unfold rn_pv
  by_cases h : rn_b A (rn_c A v) < v
  · rw [if_pos h]; omega
  · rw [if_neg h]; omega
theorem rn_and1 {a : Nat} (ha : a < 2 ^ 31) : nI a &&& 1 = nI (a % 2) := pk_andN (n := a) (by omega) (m := 1) 1 (by decide)
theorem rn_shr1 {a : Nat} (ha : a < 2 ^ 31) : nI a >>> ((1 : Int32) &&& 31) = nI (a / 2) := pk_shrN (n := a) ha ((1 : Int32) &&& 31) 1 (by decide)
theorem rn_mul2 {a : Nat} : 2 * nI a = nI (2 * a) := pk_mul 2 a
def cE (M : Nat → Int32) (x : Int32) : Nat → Nat
  | 0 => 0
  | n + 1 => cE M x n + if M n = x then 1 else 0
theorem cE_ge {M : Nat → Int32} {b : Nat} {x y : Int32} : ∀ n, n ≤ b → cE (upd M b y) x n = cE M x n
  | 0, _ => rfl
  | n + 1, h => by
    unfold cE
    rw [cE_ge n (by omega), pk_un (by omega)]
theorem cE_up {M : Nat → Int32} {b : Nat} {x : Int32} (hM : M b ≠ x) : ∀ n, b < n → cE (upd M b x) x n = cE M x n + 1
  | 0, h => by omega
  | n + 1, h => by
    unfold cE
    by_cases hb : b = n
    · subst hb
      rw [cE_ge b (Nat.le_refl _), pk_us, if_pos rfl, if_neg hM]
    · have := cE_up hM n (by omega)
      rw [pk_un (fun e => hb e.symm)]
      omega
theorem cE_ne {M : Nat → Int32} {b : Nat} {x y : Int32} (hM : M b ≠ x) (hy : y ≠ x) : ∀ n, cE (upd M b y) x n = cE M x n
  | 0 => rfl
  | n + 1 => by
    unfold cE
    rw [cE_ne hM hy n]
    by_cases hb : n = b
    · rw [hb, pk_us, if_neg hy, if_neg hM]
    · rw [pk_un hb]
theorem cE_zero {M : Nat → Int32} {x : Int32} : ∀ n, (∀ s, s < n → M s ≠ x) → cE M x n = 0
  | 0, _ => rfl
  | n + 1, h => by
    unfold cE
    rw [cE_zero n (fun s hs => h s (by omega)), if_neg (h n (by omega))]
theorem cE_le {M : Nat → Int32} {x : Int32} : ∀ n, cE M x n ≤ n
  | 0 => Nat.le_refl _
  | n + 1 => by
    have := cE_le (M := M) (x := x) n
    unfold cE
    by_cases h : M n = x
    · rw [if_pos h]; omega
    · rw [if_neg h]; omega
/-- the faces of a net with V visits -/
def rn_fc (z : ow_MS) (n V F : Nat) : Prop := z.1 (n + 16) = nI F ∧ F ≤ 2 * V ∧ (∀ s, s < 2 * V → ∃ f, f < F ∧ z.2.1 (n + 14) s = nI f) ∧ ∀ f, f < F → z.2.1 (n + 15) f = nI (cE (z.2.1 (n + 14)) (nI f) (2 * V))
abbrev frW (n g : Nat) : Prop := g = n + 14 ∨ g = n + 15 ∨ g = n + 16
def wkI (V f : Nat) (M S : Nat → Int32) : Prop := (∀ s, s < 2 * V → M s = -1 ∨ ∃ f', f' < f + 1 ∧ M s = nI f') ∧ ∀ f', f' < f + 1 → S f' = nI (cE M (nI f') (2 * V))
def wkO (V f : Nat) (M S : Nat → Int32) : Prop := (∀ s, s < 2 * V → M s = -1 ∨ ∃ f', f' < f ∧ M s = nI f') ∧ ∀ f', f' < f → S f' = nI (cE M (nI f') (2 * V))
theorem wkI_0 {V f : Nat} {M S : Nat → Int32} (hf : f < 2 ^ 30) (h : wkO V f M S) : wkI V f M (upd S f 0) := by
  refine ⟨fun s hs => (h.1 s hs).imp id (fun ⟨f', h1, h2⟩ => ⟨f', by omega, h2⟩), fun f' hf' => ?_⟩
  by_cases he : f' = f
  · rw [he, pk_us, cE_zero]
    · rfl
    · intro s hs e
      rcases h.1 s hs with h1 | ⟨f9, h1, h2⟩
      · rw [e] at h1
        exact rn_neg1 (by omega) h1
      · rw [e] at h2
        have := (nI_eq (by omega) (by omega)).mp h2
        omega
  · rw [pk_un he]
    exact h.2 f' (by omega)
theorem wkI_st {V f a : Nat} {M S : Nat → Int32} (hf : f < 2 ^ 30) (ha : a < 2 * V) (hM : M a = -1) (h : wkI V f M S) : wkI V f (upd M a (nI f)) (upd S f (S f + 1)) := by
  refine ⟨fun s hs => ?_, fun f' hf' => ?_⟩
  · by_cases he : s = a
    · rw [he, pk_us]
      exact Or.inr ⟨f, by omega, rfl⟩
    · rw [pk_un he]
      exact h.1 s hs
  · have hne : ∀ f9, f9 < f + 1 → M a ≠ nI f9 := fun f9 h9 e => rn_neg1 (v := f9) (by omega) (e.symm.trans hM)
    by_cases he : f' = f
    · rw [he, pk_us, cE_up (hne f (by omega)) _ ha, h.2 f (by omega)]
      exact nI_1 _
    · rw [pk_un he, cE_ne (hne f' hf') (fun e => he ((nI_eq (by omega) (by omega)).mp e).symm)]
      exact h.2 f' hf'
theorem u_X12_walk_9 {x1 : Int32} {x2 : Int32} {x3 : Int32} {x4 : Int32} {x5 : Int32} {x6 : Int32} {r0 : Nat} {t0 : Int32} {z : ow_MS} {Q : ow_MS → Prop} (H : Tt (fun K k => qm_X12_walk_9 K (q_X12_walk K k) x1 x2 x3 x4 x5 x6 r0 t0 z) Q) : Tt (fun K k => q_X12_walk K k 9 x1 x2 x3 x4 x5 x6 r0 t0 z) Q := w_un (fun _ _ => rfl) H
theorem u_X12_walk_10 {x1 : Int32} {x2 : Int32} {x3 : Int32} {x4 : Int32} {x5 : Int32} {x6 : Int32} {r0 : Nat} {t0 : Int32} {z : ow_MS} {Q : ow_MS → Prop} (H : Tt (fun K k => qm_X12_walk_10 K (q_X12_walk K k) x1 x2 x3 x4 x5 x6 r0 t0 z) Q) : Tt (fun K k => q_X12_walk K k 10 x1 x2 x3 x4 x5 x6 r0 t0 z) Q := w_un (fun _ _ => rfl) H
theorem u_X12_walk_8 {x1 : Int32} {x2 : Int32} {x3 : Int32} {x4 : Int32} {x5 : Int32} {x6 : Int32} {r0 : Nat} {t0 : Int32} {z : ow_MS} {Q : ow_MS → Prop} (H : Tt (fun K k => qm_X12_walk_8 K (q_X12_walk K k) x1 x2 x3 x4 x5 x6 r0 t0 z) Q) : Tt (fun K k => q_X12_walk K k 8 x1 x2 x3 x4 x5 x6 r0 t0 z) Q := w_un (fun _ _ => rfl) H
theorem u_X12_walk_6 {x1 : Int32} {x2 : Int32} {x3 : Int32} {x4 : Int32} {x5 : Int32} {x6 : Int32} {r0 : Nat} {t0 : Int32} {z : ow_MS} {Q : ow_MS → Prop} (H : Tt (fun K k => qm_X12_walk_6 K (q_X12_walk K k) x1 x2 x3 x4 x5 x6 r0 t0 z) Q) : Tt (fun K k => q_X12_walk K k 6 x1 x2 x3 x4 x5 x6 r0 t0 z) Q := w_un (fun _ _ => rfl) H
theorem u_X12_walk_7 {x1 : Int32} {x2 : Int32} {x3 : Int32} {x4 : Int32} {x5 : Int32} {x6 : Int32} {r0 : Nat} {t0 : Int32} {z : ow_MS} {Q : ow_MS → Prop} (H : Tt (fun K k => qm_X12_walk_7 K (q_X12_walk K k) x1 x2 x3 x4 x5 x6 r0 t0 z) Q) : Tt (fun K k => q_X12_walk K k 7 x1 x2 x3 x4 x5 x6 r0 t0 z) Q := w_un (fun _ _ => rfl) H
theorem u_X12_walk_5 {x1 : Int32} {x2 : Int32} {x3 : Int32} {x4 : Int32} {x5 : Int32} {x6 : Int32} {r0 : Nat} {t0 : Int32} {z : ow_MS} {Q : ow_MS → Prop} (H : Tt (fun K k => qm_X12_walk_5 K (q_X12_walk K k) x1 x2 x3 x4 x5 x6 r0 t0 z) Q) : Tt (fun K k => q_X12_walk K k 5 x1 x2 x3 x4 x5 x6 r0 t0 z) Q := w_un (fun _ _ => rfl) H
theorem u_X12_walk_4 {x1 : Int32} {x2 : Int32} {x3 : Int32} {x4 : Int32} {x5 : Int32} {x6 : Int32} {r0 : Nat} {t0 : Int32} {z : ow_MS} {Q : ow_MS → Prop} (H : Tt (fun K k => qm_X12_walk_4 K (q_X12_walk K k) x1 x2 x3 x4 x5 x6 r0 t0 z) Q) : Tt (fun K k => q_X12_walk K k 4 x1 x2 x3 x4 x5 x6 r0 t0 z) Q := w_un (fun _ _ => rfl) H
theorem u_X12_walk_3 {x1 : Int32} {x2 : Int32} {x3 : Int32} {x4 : Int32} {x5 : Int32} {x6 : Int32} {r0 : Nat} {t0 : Int32} {z : ow_MS} {Q : ow_MS → Prop} (H : Tt (fun K k => qm_X12_walk_3 K (q_X12_walk K k) x1 x2 x3 x4 x5 x6 r0 t0 z) Q) : Tt (fun K k => q_X12_walk K k 3 x1 x2 x3 x4 x5 x6 r0 t0 z) Q := w_un (fun _ _ => rfl) H
theorem u_X12_walk_2 {x1 : Int32} {x2 : Int32} {x3 : Int32} {x4 : Int32} {x5 : Int32} {x6 : Int32} {r0 : Nat} {t0 : Int32} {z : ow_MS} {Q : ow_MS → Prop} (H : Tt (fun K k => qm_X12_walk_2 K (q_X12_walk K k) x1 x2 x3 x4 x5 x6 r0 t0 z) Q) : Tt (fun K k => q_X12_walk K k 2 x1 x2 x3 x4 x5 x6 r0 t0 z) Q := w_un (fun _ _ => rfl) H
theorem u_X12_walk_11 {x1 : Int32} {x2 : Int32} {x3 : Int32} {x4 : Int32} {x5 : Int32} {x6 : Int32} {r0 : Nat} {t0 : Int32} {z : ow_MS} {Q : ow_MS → Prop} (H : Tt (fun K k => qm_X12_walk_11 K (q_X12_walk K k) x1 x2 x3 x4 x5 x6 r0 t0 z) Q) : Tt (fun K k => q_X12_walk K k 11 x1 x2 x3 x4 x5 x6 r0 t0 z) Q := w_un (fun _ _ => rfl) H
theorem u_X12_walk_1 {x1 : Int32} {x2 : Int32} {x3 : Int32} {x4 : Int32} {x5 : Int32} {x6 : Int32} {r0 : Nat} {t0 : Int32} {z : ow_MS} {Q : ow_MS → Prop} (H : Tt (fun K k => qm_X12_walk_1 K (q_X12_walk K k) x1 x2 x3 x4 x5 x6 r0 t0 z) Q) : Tt (fun K k => q_X12_walk K k 1 x1 x2 x3 x4 x5 x6 r0 t0 z) Q := w_un (fun _ _ => rfl) H
theorem e_X12_walk {r0 : Nat} {z : ow_MS} {Q : ow_MS → Prop} (H : Tt (fun K k => q_X12_walk K k 0 0 0 0 0 0 0 r0 0 z) Q) : Te (fun K => qe_X12_walk K r0 z) Q := w_te H
theorem u_X12_walk_0 {x1 : Int32} {x2 : Int32} {x3 : Int32} {x4 : Int32} {x5 : Int32} {x6 : Int32} {r0 : Nat} {t0 : Int32} {z : ow_MS} {Q : ow_MS → Prop} (H : Tt (fun K k => qm_X12_walk_0 K (q_X12_walk K k) x1 x2 x3 x4 x5 x6 r0 t0 z) Q) : Tt (fun K k => q_X12_walk K k 0 x1 x2 x3 x4 x5 x6 r0 t0 z) Q := w_un (fun _ _ => rfl) H
theorem tn_walk {n : Nat} {z : ow_MS} {A : rn_L} (hn : mw_net n) (hlen : A.flatten.length ≤ 40) (hd : rn_ok A.flatten) (hL : rn_lk z n A) : Te (fun K => qe_X12_walk K n z) (fun z1 => fr (frW n) z z1 ∧ ∃ F, rn_fc z1 n A.flatten.length F) := by
  have frK : ∀ {y y1 : ow_MS}, fr (frW n) y y1 → rn_lk y n A → rn_lk y1 n A := fun hf h => fr_lk hf (fun g hg => by rcases hg with hg | hg | hg <;> omega) h
  let Q : ow_MS → Prop := fun z1 => fr (frW n) z z1 ∧ ∃ F, rn_fc z1 n A.flatten.length F
  obtain ⟨V, hV⟩ : ∃ V, A.flatten.length = V := ⟨_, rfl⟩
  have V40 : V ≤ 40 := by omega
  have turn : ∀ (k0 a v : Nat) (z1 : ow_MS), fr (frW n) z z1 → a < 2 * V → v < V → (∀ a1, a1 < 2 * V → Tt (fun K k => q_X12_walk K k 3 (nI k0) (nI a1) 0 0 0 0 n 0 z1) Q) → Tt (fun K k => q_X12_walk K k 4 (nI k0) (nI a) 0 0 0 0 n (nI v) z1) Q := by
    intro k0 a v z1 hf ha hv hout
    have hL1 := frK hf hL
    have hv2 : v < A.flatten.length := by omega
    obtain ⟨p, hp⟩ : ∃ p, A.flatten[v]? = some p := ⟨_, List.getElem?_eq_getElem hv2⟩
    obtain ⟨hx, hu⟩ := hd.1.2 v p hp
    obtain ⟨e4, e5⟩ := hL1.1.2.2.2 v p (by rw [List.append_nil]; exact hp)
    obtain ⟨w, hm⟩ := hd.2 v hv2
    have hwl := (rn_mt_lt hm).2
    have e7 := hL1.2.2.2 v w hv2 hwl hm
    have e10 := (hL1.2.1 w hwl).2.2
    have hpv := rn_pv_lt (A := A) hwl
    have c9 : ∀ (x4 t : Int32), Tt (fun K k => q_X12_walk K k 9 (nI k0) (nI a) (nI v) x4 0 0 n t z1) Q := by
      intro x4 t
      refine u_X12_walk_9 ?_; unfold qm_X12_walk_9
      refine w_rdI (pl7 hn) rfl (by omega) e7 (w_if (fun _ => ?_) (fun _ => w_rdI (pl10 hn) rfl (by omega) e10 ?_))
      · refine u_X12_walk_10 ?_; unfold qm_X12_walk_10
        rw [rn_mul2]
        exact hout _ (by omega)
      · refine u_X12_walk_10 ?_; unfold qm_X12_walk_10
        rw [rn_mul2, nI_1]
        exact hout _ (by omega)
    have c8 : ∀ (t : Int32), Tt (fun K k => q_X12_walk K k 8 (nI k0) (nI a) (nI v) 0 0 0 n t z1) Q := by
      intro t
      refine u_X12_walk_8 ?_; unfold qm_X12_walk_8
      exact w_if (fun _ => c9 _ _) (fun _ => c9 _ _)
    have c6 : Tt (fun K k => q_X12_walk K k 6 (nI k0) (nI a) (nI v) 0 0 0 n 0 z1) Q := by
      refine u_X12_walk_6 ?_; unfold qm_X12_walk_6
      exact c8 _
    have c7 : Tt (fun K k => q_X12_walk K k 7 (nI k0) (nI a) (nI v) 0 0 0 n 0 z1) Q := by
      refine u_X12_walk_7 ?_; unfold qm_X12_walk_7
      exact c8 _
    have c5 : Tt (fun K k => q_X12_walk K k 5 (nI k0) (nI a) (nI v) 0 0 0 n 0 z1) Q := by
      refine u_X12_walk_5 ?_; unfold qm_X12_walk_5
      exact w_rdI (pl5 hn) rfl (by omega) e5 (w_if (fun _ => w_rdI (pl4 hn) rfl (by omega) e4 (w_rdI (pl6 hn) rfl hx rfl (w_if (fun _ => c7) (fun _ => c6)))) (fun _ => c7))
    refine u_X12_walk_4 ?_; unfold qm_X12_walk_4
    exact w_rdI (pl5 hn) rfl (by omega) e5 (w_if (fun _ => w_rdI (pl4 hn) rfl (by omega) e4 (w_rdI (pl6 hn) rfl hx rfl (w_if (fun _ => c6) (fun _ => c5)))) (fun _ => c5))
  have inn : ∀ (k0 f : Nat), f < 80 → ∀ (u a : Nat) (z1 : ow_MS), rn_cU (z1.2.1 (n + 14)) (2 * V) ≤ u → a < 2 * V → fr (frW n) z z1 → z1.1 (n + 16) = nI f → wkI V f (z1.2.1 (n + 14)) (z1.2.1 (n + 15)) → (∀ z2, fr (frW n) z z2 → z2.1 (n + 16) = nI (f + 1) → wkI V f (z2.2.1 (n + 14)) (z2.2.1 (n + 15)) → z2.2.1 (n + 14) a ≠ -1 → (∀ s, z1.2.1 (n + 14) s ≠ -1 → z2.2.1 (n + 14) s ≠ -1) → Tt (fun K k => q_X12_walk K k 11 (nI k0) 0 0 0 0 0 n 0 z2) Q) → Tt (fun K k => q_X12_walk K k 3 (nI k0) (nI a) 0 0 0 0 n 0 z1) Q := by
    intro k0 f hf80 u
    induction u with
    | zero =>
      intro a z1 hu ha hf h16 hI hout
      refine u_X12_walk_3 ?_; unfold qm_X12_walk_3
      refine w_rdI (pl14 hn) rfl (by omega) rfl (w_if (fun hM => ?_) (fun hM => w_rdF h16 (w_wrF ?_)))
      · have := rn_cU_upd (M := z1.2.1 (n + 14)) (x := 0) hM (by decide) (2 * V) ha
        omega
      · rw [nI_1]
        exact hout _ (fr_F2 hf (Or.inr (Or.inr rfl))) po_usF_at hI hM (fun s hs => hs)
    | succ u ih =>
      intro a z1 hu ha hf h16 hI hout
      refine u_X12_walk_3 ?_; unfold qm_X12_walk_3
      refine w_rdI (pl14 hn) rfl (by omega) rfl (w_if (fun hM => ?_) (fun hM => w_rdF h16 (w_wrF ?_)))
      · have hne : nI f ≠ -1 := rn_neg1 (by omega)
        have cu := rn_cU_upd (M := z1.2.1 (n + 14)) (x := nI f) hM hne (2 * V) ha
        have hf2 : fr (frW n) z (usI (usI z1 (n + 14) a (nI f)) (n + 15) f (z1.2.1 (n + 15) f + 1)) := fr_I2 (fr_I2 hf (Or.inl rfl)) (Or.inr (Or.inl rfl))
        have r14 : (usI (usI z1 (n + 14) a (nI f)) (n + 15) f (z1.2.1 (n + 15) f + 1)).2.1 (n + 14) = upd (z1.2.1 (n + 14)) a (nI f) := by
          rw [po_usI_ot (by omega), po_usI_row]
        have r15 : (usI (usI z1 (n + 14) a (nI f)) (n + 15) f (z1.2.1 (n + 15) f + 1)).2.1 (n + 15) = upd (z1.2.1 (n + 15)) f (z1.2.1 (n + 15) f + 1) := by
          rw [po_usI_row, po_usI_ot (by omega)]
        have go4 : ∀ v, v < V → Tt (fun K k => q_X12_walk K k 4 (nI k0) (nI a) 0 0 0 0 n (nI v) (usI (usI z1 (n + 14) a (nI f)) (n + 15) f (z1.2.1 (n + 15) f + 1))) Q := by
          intro v hv
          refine turn k0 a v _ hf2 ha hv (fun a1 ha1 => ?_)
          refine ih a1 _ (by rw [r14]; omega) ha1 hf2 h16 (by rw [r14, r15]; exact wkI_st (by omega) ha hM hI) (fun z2 g1 g2 g3 g4 g5 => ?_)
          rw [r14] at g5
          have ga : z2.2.1 (n + 14) a ≠ -1 := g5 a (by rw [pk_us]; exact hne)
          refine hout z2 g1 g2 g3 ga (fun s hs => ?_)
          by_cases hsa : s = a
          · rw [hsa]; exact ga
          · exact g5 s (by rw [pk_un hsa]; exact hs)
        have e9 := ((frK hf2 hL).2.1 (a / 2) (by omega)).2.1
        refine w_rdF h16 (w_wrI (pl14 hn) rfl (by omega) (w_rdF h16 (w_rdI (pl15 hn) rfl hf80 (rd_ot (by omega) rfl) (w_wrI (pl15 hn) rfl hf80 ?_))))
        rw [rn_shr1 (by omega)]
        exact w_if (fun _ => w_rdI (pl9 hn) rfl (by omega) e9 (go4 _ (by have := rn_nx_lt (A := A) (v := a / 2) (by omega); omega))) (fun _ => go4 _ (by omega))
      · rw [nI_1]
        exact hout _ (fr_F2 hf (Or.inr (Or.inr rfl))) po_usF_at hI hM (fun s hs => hs)
  have out : ∀ (d c f : Nat) (z1 : ow_MS), c + d = 2 * V → f ≤ c → fr (frW n) z z1 → z1.1 (n + 16) = nI f → wkO V f (z1.2.1 (n + 14)) (z1.2.1 (n + 15)) → (∀ s, s < c → z1.2.1 (n + 14) s ≠ -1) → Tt (fun K k => q_X12_walk K k 2 (nI c) 0 0 0 0 0 n 0 z1) Q := by
    intro d
    induction d with
    | zero =>
      intro c f z1 hc hfc hf h16 hO hm
      refine u_X12_walk_2 ?_; unfold qm_X12_walk_2
      refine w_rdF (frK hf hL).V ?_
      rw [rn_mul2]
      refine w_leT (by omega) (by omega) (w_some ⟨hf, f, h16, by omega, fun s hs => ?_, ?_⟩)
      · rw [hV] at hs
        exact (hO.1 s hs).resolve_left (hm s (by omega))
      · rw [hV]
        exact hO.2
    | succ d ih =>
      intro c f z1 hc hfc hf h16 hO hm
      refine u_X12_walk_2 ?_; unfold qm_X12_walk_2
      refine w_rdF (frK hf hL).V ?_
      rw [rn_mul2]
      refine w_leF (by omega) (by omega) (w_rdI (pl14 hn) rfl (by omega) rfl (w_if (fun c1 => w_rdF h16 (w_wrI (pl15 hn) rfl (by omega) ?_)) (fun c1 => ?_)))
      · have r14 : (usI z1 (n + 15) f 0).2.1 (n + 14) = z1.2.1 (n + 14) := po_usI_ot (by omega)
        refine inn c f (by omega) _ c _ (Nat.le_refl _) (by omega) (fr_I2 hf (Or.inr (Or.inl rfl))) h16 (by rw [r14, po_usI_row]; exact wkI_0 (by omega) hO) (fun z2 g1 g2 g3 g4 g5 => ?_)
        refine u_X12_walk_11 ?_; unfold qm_X12_walk_11
        rw [nI_1]
        rw [r14] at g5
        refine ih (c + 1) (f + 1) z2 (by omega) (by omega) g1 g2 g3 (fun s hs => ?_)
        by_cases hsc : s = c
        · rw [hsc]; exact g4
        · exact g5 s (hm s (by omega))
      · refine u_X12_walk_11 ?_; unfold qm_X12_walk_11
        rw [nI_1]
        refine ih (c + 1) f z1 (by omega) (by omega) hf h16 hO (fun s hs => ?_)
        by_cases hsc : s = c
        · rw [hsc]; exact c1
        · exact hm s (by omega)
  have zer : ∀ (d c : Nat) (z1 : ow_MS), c + d = 2 * V → fr (frW n) z z1 → (∀ s, s < c → z1.2.1 (n + 14) s = -1) → Tt (fun K k => q_X12_walk K k 1 (nI c) 0 0 0 0 0 n 0 z1) Q := by
    intro d
    induction d with
    | zero =>
      intro c z1 hc hf hm
      refine u_X12_walk_1 ?_; unfold qm_X12_walk_1
      refine w_rdF (frK hf hL).V ?_
      rw [rn_mul2]
      exact w_leT (by omega) (by omega) (w_wrF (out (2 * V) 0 0 _ (by omega) (Nat.le_refl _) (fr_F2 hf (Or.inr (Or.inr rfl))) po_usF_at ⟨fun s hs => Or.inl (hm s (by omega)), fun f hf9 => by omega⟩ (fun s hs => by omega)))
    | succ d ih =>
      intro c z1 hc hf hm
      refine u_X12_walk_1 ?_; unfold qm_X12_walk_1
      refine w_rdF (frK hf hL).V ?_
      rw [rn_mul2]
      refine w_leF (by omega) (by omega) (w_wrI (pl14 hn) rfl (by omega) ?_)
      rw [nI_1]
      refine ih (c + 1) _ (by omega) (fr_I2 hf (Or.inl rfl)) (fun s hs => ?_)
      by_cases hsc : s = c
      · rw [hsc]; exact po_usI_at
      · exact rd_ne hsc (hm s (by omega))
  refine e_X12_walk ?_
  refine u_X12_walk_0 ?_; unfold qm_X12_walk_0
  exact zer (2 * V) 0 z (by omega) fr_rf (fun s hs => by omega)
theorem e_X12_isCircle {r0 : Nat} {x1 : Int32} {z : ow_MS} {Q : (Int32 × ow_MS) → Prop} (H : Tt (fun K _ => qm_X12_isCircle_0 K x1 r0 z) Q) : Te (fun K => qe_X12_isCircle K r0 x1 z) Q := w_te0 H
/-- isCircle -/
theorem tn_circle {n c : Nat} {z : ow_MS} {A : rn_L} (hn : mw_net n) (hlen : A.flatten.length ≤ 40) (hcn : A.length ≤ 39) (hc : c < A.length) (hA : rn_At z n A []) : Te (fun K => qe_X12_isCircle K n (nI c) z) (fun r => r = (if rn_b A c = rn_b A (c + 1) then 1 else 0, z)) := by
  have h1 := rn_b_le A (c + 1)
  have h2 := rn_b_le A c
  refine e_X12_isCircle ?_; unfold qm_X12_isCircle_0
  refine w_rdI (pl3 hn) rfl (by omega) (hA.2.2.1 c (by omega)) (w_rdI (pl3 hn) (nI_1 _) (by omega) (hA.2.2.1 (c + 1) (by omega)) (w_eqN (a := rn_b A c) (b := rn_b A (c + 1)) (by omega) (by omega) (fun h9 => w_okZ (Or.inr rfl) (w_some ?_)) (fun h9 => w_okZ (Or.inl rfl) (w_some ?_))))
  · rw [if_pos h9]
  · rw [if_neg h9]
theorem e_X12_isPlane {r0 : Nat} {z : ow_MS} {Q : (Int32 × ow_MS) → Prop} (H : Tt (fun K k => q_X12_isPlane K k 0 0 0 0 0 r0 0 0 z) Q) : Te (fun K => qe_X12_isPlane K r0 z) Q := w_te H
theorem u_X12_isPlane_0 {x1 : Int32} {x2 : Int32} {x3 : Int32} {x4 : Int32} {r0 : Nat} {t0 : Int32} {t1 : Int32} {z : ow_MS} {Q : (Int32 × ow_MS) → Prop} (H : Tt (fun K k => qm_X12_isPlane_0 K (q_X12_isPlane K k) x1 x2 x3 x4 r0 t0 t1 z) Q) : Tt (fun K k => q_X12_isPlane K k 0 x1 x2 x3 x4 r0 t0 t1 z) Q := w_un (fun _ _ => rfl) H
theorem u_X12_isPlane_2 {x1 : Int32} {x2 : Int32} {x3 : Int32} {x4 : Int32} {r0 : Nat} {t0 : Int32} {t1 : Int32} {z : ow_MS} {Q : (Int32 × ow_MS) → Prop} (H : Tt (fun K k => qm_X12_isPlane_2 K (q_X12_isPlane K k) x1 x2 x3 x4 r0 t0 t1 z) Q) : Tt (fun K k => q_X12_isPlane K k 2 x1 x2 x3 x4 r0 t0 t1 z) Q := w_un (fun _ _ => rfl) H
theorem u_X12_isPlane_5 {x1 : Int32} {x2 : Int32} {x3 : Int32} {x4 : Int32} {r0 : Nat} {t0 : Int32} {t1 : Int32} {z : ow_MS} {Q : (Int32 × ow_MS) → Prop} (H : Tt (fun K k => qm_X12_isPlane_5 K (q_X12_isPlane K k) x1 x2 x3 x4 r0 t0 t1 z) Q) : Tt (fun K k => q_X12_isPlane K k 5 x1 x2 x3 x4 r0 t0 t1 z) Q := w_un (fun _ _ => rfl) H
theorem u_X12_isPlane_4 {x1 : Int32} {x2 : Int32} {x3 : Int32} {x4 : Int32} {r0 : Nat} {t0 : Int32} {t1 : Int32} {z : ow_MS} {Q : (Int32 × ow_MS) → Prop} (H : Tt (fun K k => qm_X12_isPlane_4 K (q_X12_isPlane K k) x1 x2 x3 x4 r0 t0 t1 z) Q) : Tt (fun K k => q_X12_isPlane K k 4 x1 x2 x3 x4 r0 t0 t1 z) Q := w_un (fun _ _ => rfl) H
theorem u_X12_isPlane_3 {x1 : Int32} {x2 : Int32} {x3 : Int32} {x4 : Int32} {r0 : Nat} {t0 : Int32} {t1 : Int32} {z : ow_MS} {Q : (Int32 × ow_MS) → Prop} (H : Tt (fun K k => qm_X12_isPlane_3 K (q_X12_isPlane K k) x1 x2 x3 x4 r0 t0 t1 z) Q) : Tt (fun K k => q_X12_isPlane K k 3 x1 x2 x3 x4 r0 t0 t1 z) Q := w_un (fun _ _ => rfl) H
theorem u_X12_isPlane_1 {x1 : Int32} {x2 : Int32} {x3 : Int32} {x4 : Int32} {r0 : Nat} {t0 : Int32} {t1 : Int32} {z : ow_MS} {Q : (Int32 × ow_MS) → Prop} (H : Tt (fun K k => qm_X12_isPlane_1 K (q_X12_isPlane K k) x1 x2 x3 x4 r0 t0 t1 z) Q) : Tt (fun K k => q_X12_isPlane K k 1 x1 x2 x3 x4 r0 t0 t1 z) Q := w_un (fun _ _ => rfl) H
theorem tn_plane {n : Nat} {z : ow_MS} {A : rn_L} (hn : mw_net n) (hlen : A.flatten.length ≤ 40) (hcn : A.length ≤ 39) (hd : rn_ok A.flatten) (hL : rn_lk z n A) : Te (fun K => qe_X12_isPlane K n z) (fun r => (r.1 = 0 ∨ r.1 = 1) ∧ fr (fun g => n + 12 ≤ g ∧ g ≤ n + 16) z r.2 ∧ rn_lk r.2 n A ∧ (∃ P, rn_pt r.2 n A P) ∧ ∃ F, rn_fc r.2 n A.flatten.length F) := by
  refine e_X12_isPlane ?_
  refine u_X12_isPlane_0 ?_; unfold qm_X12_isPlane_0
  refine w_cs0 (tn_split hn hlen hcn hd hL) (fun z1 ⟨f1, P, g1⟩ => w_cs0 (tn_walk hn hlen hd (fr_lk f1 (fun g hg => by rcases hg with hg | hg <;> omega) hL)) (fun z2 ⟨f2, F, g2⟩ => ?_))
  have hL1 := fr_lk f1 (fun g hg => by rcases hg with hg | hg <;> omega) hL
  have hL2 := fr_lk f2 (fun g hg => by rcases hg with hg | hg | hg <;> omega) hL1
  have hP2 : rn_pt z2 n A P := by
    obtain ⟨a1, a2, a3, a4⟩ := g1
    have e12 := (f2 (n + 12) (by omega)).2.1
    exact ⟨by rw [(f2 (n + 13) (by omega)).1]; exact a1, a2, by rw [e12]; exact a3, by rw [e12]; exact a4⟩
  have post : fr (fun g => n + 12 ≤ g ∧ g ≤ n + 16) z z2 := fr_tr (fr_mono (fun g hg => by rcases hg with hg | hg <;> omega) f1) (fr_mono (fun g hg => by rcases hg with hg | hg | hg <;> omega) f2)
  have inn : ∀ (p : Nat) (x1 : Int32), (∀ t : Int32, Tt (fun K k => q_X12_isPlane K k 1 t (nI (p + 1)) 0 0 n 0 0 z2) (fun r => (r.1 = 0 ∨ r.1 = 1) ∧ fr (fun g => n + 12 ≤ g ∧ g ≤ n + 16) z r.2 ∧ rn_lk r.2 n A ∧ (∃ P, rn_pt r.2 n A P) ∧ ∃ F, rn_fc r.2 n A.flatten.length F)) → ∀ (d c : Nat) (x3 : Int32), c + d = A.length → Tt (fun K k => q_X12_isPlane K k 2 x1 (nI p) x3 (nI c) n 0 0 z2) (fun r => (r.1 = 0 ∨ r.1 = 1) ∧ fr (fun g => n + 12 ≤ g ∧ g ≤ n + 16) z r.2 ∧ rn_lk r.2 n A ∧ (∃ P, rn_pt r.2 n A P) ∧ ∃ F, rn_fc r.2 n A.flatten.length F) := by
    intro p x1 hout d
    induction d with
    | zero =>
      intro c x3 hc
      refine u_X12_isPlane_2 ?_; unfold qm_X12_isPlane_2
      refine w_rdF hL2.1.2.1 (w_leT (by omega) (by omega) (w_if (fun _ => ?_) (fun _ => ?_)))
      · refine u_X12_isPlane_5 ?_; unfold qm_X12_isPlane_5
        rw [nI_1]
        exact hout _
      · refine u_X12_isPlane_5 ?_; unfold qm_X12_isPlane_5
        rw [nI_1]
        exact hout _
    | succ d ih =>
      intro c x3 hc
      refine u_X12_isPlane_2 ?_; unfold qm_X12_isPlane_2
      refine w_rdF hL2.1.2.1 (w_leF (by omega) (by omega) (w_rdI (pl12 hn) rfl (by omega) rfl (w_if (fun _ => w_cs1 (tn_circle hn hlen hcn (by omega) hL2.1) (fun a z9 h9 => ?_)) (fun _ => ?_))))
      · cases h9
        refine w_if (fun _ => ?_) (fun _ => ?_)
        · refine u_X12_isPlane_4 ?_; unfold qm_X12_isPlane_4
          rw [nI_1]
          exact ih (c + 1) _ (by omega)
        · refine u_X12_isPlane_3 ?_; unfold qm_X12_isPlane_3
          refine u_X12_isPlane_4 ?_; unfold qm_X12_isPlane_4
          rw [nI_1]
          exact ih (c + 1) _ (by omega)
      · refine u_X12_isPlane_3 ?_; unfold qm_X12_isPlane_3
        refine u_X12_isPlane_4 ?_; unfold qm_X12_isPlane_4
        rw [nI_1]
        exact ih (c + 1) _ (by omega)
  have out : ∀ (d p : Nat) (x1 : Int32), p + d = P → Tt (fun K k => q_X12_isPlane K k 1 x1 (nI p) 0 0 n 0 0 z2) (fun r => (r.1 = 0 ∨ r.1 = 1) ∧ fr (fun g => n + 12 ≤ g ∧ g ≤ n + 16) z r.2 ∧ rn_lk r.2 n A ∧ (∃ P, rn_pt r.2 n A P) ∧ ∃ F, rn_fc r.2 n A.flatten.length F) := by
    intro d
    have hP39 := hP2.2.1
    induction d with
    | zero =>
      intro p x1 hp
      refine u_X12_isPlane_1 ?_; unfold qm_X12_isPlane_1
      exact w_rdF hP2.1 (w_leT (by omega) (by omega) (w_rdF rfl (w_if (fun _ => w_okZ (Or.inr rfl) (w_some ⟨Or.inr rfl, post, hL2, ⟨P, hP2⟩, F, g2⟩)) (fun _ => w_okZ (Or.inl rfl) (w_some ⟨Or.inl rfl, post, hL2, ⟨P, hP2⟩, F, g2⟩)))))
    | succ d ih =>
      intro p x1 hp
      refine u_X12_isPlane_1 ?_; unfold qm_X12_isPlane_1
      exact w_rdF hP2.1 (w_leF (by omega) (by omega) (inn p x1 (fun t => ih (p + 1) t (by omega)) A.length 0 0 (by omega)))
  exact w_rdF rfl (w_nzI (by decide) (out P 0 _ (by omega)))
end
