section
/-! 99zza.wp -/
/-! pure functions that have an answer: small rules -/
section PO
variable {O : Type} {X : ow_Tb} {z : ow_MS} {h i j : Nat} {x : Int32} {Q : O → Prop}
theorem po_rdI {K : Int32 → Option O} (hl : i < (X.2 h).2.1) (hi : i < 2 ^ 31) : rdI X z h (nI i) K = K (z.2.1 h i) := by
  unfold rdI
  rw [nI_clamp hi, if_neg (fun h9 => h9.elim (nI_pos hi) (by omega))]
theorem po_wrI {K : ow_MS → Option O} (hl : i < (X.2 h).2.1) (hi : i < 2 ^ 31) : wrI X z h (nI i) x K = K (usI z h i x) := by
  unfold wrI
  rw [nI_clamp hi, if_neg (fun h9 => h9.elim (nI_pos hi) (by omega))]
theorem po_rdJ {K : Int64 → Option O} (hl : i < (X.2 h).2.1) (hi : i < 2 ^ 31) : rdJ X z h (nI i) K = K (z.2.2 h i) := by
  unfold rdJ
  rw [nI_clamp hi, if_neg (fun h9 => h9.elim (nI_pos hi) (by omega))]
theorem po_wrJ {y : Int64} {K : ow_MS → Option O} (hl : i < (X.2 h).2.1) (hi : i < 2 ^ 31) : wrJ X z h (nI i) y K = K (usJ z h i y) := by
  unfold wrJ
  rw [nI_clamp hi, if_neg (fun h9 => h9.elim (nI_pos hi) (by omega))]
theorem po_usI_at : (usI z h i x).2.1 h i = x := by
  show (if h = h then upd (z.2.1 h) i x else z.2.1 h) i = x
  rw [if_pos rfl]
  exact pk_us
theorem po_usI_ne (hj : j ≠ i) : (usI z h i x).2.1 h j = z.2.1 h j := by
  show (if h = h then upd (z.2.1 h) i x else z.2.1 h) j = z.2.1 h j
  rw [if_pos rfl]
  exact pk_un hj
theorem po_usI_ot {g : Nat} (hg : g ≠ h) : (usI z h i x).2.1 g = z.2.1 g := if_neg hg
theorem po_usI1 : (usI z h i x).1 = z.1 := rfl
theorem po_usF_at : (usF z h x).1 h = x := if_pos rfl
theorem po_usF_ot {g : Nat} (hg : g ≠ h) : (usF z h x).1 g = z.1 g := if_neg hg
end PO
/-! what comes to an end, whatever the fuel (from some fuel on) -/
def Tt {O : Type} (f : Nat → Nat → Option O) (Q : O → Prop) : Prop := ∃ r, (∃ b, ∀ K k, b ≤ K → b ≤ k → f K k = some r) ∧ Q r
def Te {O : Type} (f : Nat → Option O) (Q : O → Prop) : Prop := ∃ r, (∃ b, ∀ K, b ≤ K → f K = some r) ∧ Q r
section WP
variable {O : Type} {X : ow_Tb} {z : ow_MS} {h i len : Nat} {j x : Int32} {y : Int64} {Q : O → Prop}
theorem w_mono {f : Nat → Nat → Option O} {R : O → Prop} (H : Tt f R) (hR : ∀ r, R r → Q r) : Tt f Q := by
  obtain ⟨r, h1, h2⟩ := H
  exact ⟨r, h1, hR r h2⟩
theorem w_monoE {f : Nat → Option O} {R : O → Prop} (H : Te f R) (hR : ∀ r, R r → Q r) : Te f Q := by
  obtain ⟨r, h1, h2⟩ := H
  exact ⟨r, h1, hR r h2⟩
theorem w_some {r : O} (H : Q r) : Tt (fun _ _ => some r) Q := ⟨r, ⟨0, fun _ _ _ _ => rfl⟩, H⟩
theorem w_un {f g : Nat → Nat → Option O} (he : ∀ K k, f K (k + 1) = g K k) (H : Tt g Q) : Tt f Q := by
  obtain ⟨r, ⟨b, h1⟩, h2⟩ := H
  refine ⟨r, ⟨b + 1, fun K k hK hk => ?_⟩, h2⟩
  obtain ⟨k, rfl⟩ : ∃ k', k = k' + 1 := ⟨k - 1, by omega⟩
  rw [he]
  exact h1 K k (by omega) (by omega)
theorem w_te {f : Nat → Nat → Option O} (H : Tt f Q) : Te (fun K => f K K) Q := by
  obtain ⟨r, ⟨b, h1⟩, h2⟩ := H
  exact ⟨r, ⟨b, fun K hK => h1 K K hK hK⟩, h2⟩
theorem w_te0 {f : Nat → Option O} (H : Tt (fun K _ => f K) Q) : Te f Q := by
  obtain ⟨r, ⟨b, h1⟩, h2⟩ := H
  exact ⟨r, ⟨b, fun K hK => h1 K K hK hK⟩, h2⟩
theorem w_if {c : Prop} [Decidable c] {A B : Nat → Nat → Option O} (H1 : c → Tt A Q) (H2 : ¬ c → Tt B Q) : Tt (fun K k => if c then A K k else B K k) Q := by
  by_cases hc : c
  · simp only [if_pos hc]
    exact H1 hc
  · simp only [if_neg hc]
    exact H2 hc
theorem w_ifT {c : Prop} [Decidable c] {A B : Nat → Nat → Option O} (hc : c) (H : Tt A Q) : Tt (fun K k => if c then A K k else B K k) Q := by
  simp only [if_pos hc]
  exact H
theorem w_ifF {c : Prop} [Decidable c] {A B : Nat → Nat → Option O} (hc : ¬ c) (H : Tt B Q) : Tt (fun K k => if c then A K k else B K k) Q := by
  simp only [if_neg hc]
  exact H
theorem w_lt {a b : Nat} {A B : Nat → Nat → Option O} (ha : a < 2 ^ 31) (hb : b < 2 ^ 31) (H1 : a < b → Tt A Q) (H2 : b ≤ a → Tt B Q) : Tt (fun K k => if nI a < nI b then A K k else B K k) Q := w_if (fun h9 => H1 ((nI_ltI ha hb).mp h9)) (fun h9 => H2 (Nat.le_of_not_lt (fun h8 => h9 ((nI_ltI ha hb).mpr h8))))
theorem w_le {a b : Nat} {A B : Nat → Nat → Option O} (ha : a < 2 ^ 31) (hb : b < 2 ^ 31) (H1 : a ≤ b → Tt A Q) (H2 : b < a → Tt B Q) : Tt (fun K k => if nI a ≤ nI b then A K k else B K k) Q := w_if (fun h9 => H1 ((nI_leI ha hb).mp h9)) (fun h9 => H2 (Nat.lt_of_not_le (fun h8 => h9 ((nI_leI ha hb).mpr h8))))
theorem w_eqN {a b : Nat} {A B : Nat → Nat → Option O} (ha : a < 2 ^ 31) (hb : b < 2 ^ 31) (H1 : a = b → Tt A Q) (H2 : a ≠ b → Tt B Q) : Tt (fun K k => if nI a = nI b then A K k else B K k) Q := w_if (fun h9 => H1 ((nI_eq ha hb).mp h9)) (fun h9 => H2 (fun h8 => h9 ((nI_eq ha hb).mpr h8)))
theorem w_ltT {a b : Nat} {A B : Nat → Nat → Option O} (hb : b < 2 ^ 31) (hc : a < b) (H : Tt A Q) : Tt (fun K k => if nI a < nI b then A K k else B K k) Q := w_ifT (nI_lt hc hb) H
theorem w_ltF {a b : Nat} {A B : Nat → Nat → Option O} (ha : a < 2 ^ 31) (hc : b ≤ a) (H : Tt B Q) : Tt (fun K k => if nI a < nI b then A K k else B K k) Q := w_ifF (nI_nlt hc ha) H
theorem w_leT {a b : Nat} {A B : Nat → Nat → Option O} (hb : b < 2 ^ 31) (hc : a ≤ b) (H : Tt A Q) : Tt (fun K k => if nI a ≤ nI b then A K k else B K k) Q := w_ifT (nI_le hc hb) H
theorem w_leF {a b : Nat} {A B : Nat → Nat → Option O} (ha : a < 2 ^ 31) (hc : b < a) (H : Tt B Q) : Tt (fun K k => if nI a ≤ nI b then A K k else B K k) Q := w_ifF (nI_ge hc ha) H
theorem w_rdF {E : Int32 → Nat → Nat → Option O} (he : z.1 h = x) (H : Tt (E x) Q) : Tt (fun K k => rdF z h (fun v => E v K k)) Q := by
  subst he
  exact H
theorem w_wrF {E : ow_MS → Nat → Nat → Option O} (H : Tt (E (usF z h x)) Q) : Tt (fun K k => wrF z h x (fun v => E v K k)) Q := H
theorem w_rdI {E : Int32 → Nat → Nat → Option O} (hL : (X.2 h).2.1 = len) (hj : j = nI i) (hi : i < len) (he : z.2.1 h i = x) (H : Tt (E x) Q) (hb : len < 2 ^ 31 := by omega) : Tt (fun K k => rdI X z h j (fun v => E v K k)) Q := by
  subst he
  have e : (fun K k => rdI X z h j (fun v => E v K k)) = E (z.2.1 h i) := by
    funext K k
    rw [hj]
    exact po_rdI (K := fun v => E v K k) (by rw [hL]; exact hi) (by omega)
  rw [e]
  exact H
theorem w_wrI {E : ow_MS → Nat → Nat → Option O} (hL : (X.2 h).2.1 = len) (hj : j = nI i) (hi : i < len) (H : Tt (E (usI z h i x)) Q) (hb : len < 2 ^ 31 := by omega) : Tt (fun K k => wrI X z h j x (fun v => E v K k)) Q := by
  have e : (fun K k => wrI X z h j x (fun v => E v K k)) = E (usI z h i x) := by
    funext K k
    rw [hj]
    exact po_wrI (K := fun v => E v K k) (by rw [hL]; exact hi) (by omega)
  rw [e]
  exact H
theorem w_wrZ {E : ow_MS → Nat → Nat → Option O} (hL : (X.2 h).2.1 = len) (hj : j = nI i) (hi : i < len) (H : Tt (E (usI z h i (vp_nar .boolean x))) Q) (hb : len < 2 ^ 31 := by omega) : Tt (fun K k => wrZ X z h j x (fun v => E v K k)) Q := w_wrI (x := vp_nar .boolean x) hL hj hi H hb
theorem w_wrB {E : ow_MS → Nat → Nat → Option O} (hL : (X.2 h).2.1 = len) (hj : j = nI i) (hi : i < len) (H : Tt (E (usI z h i (vp_nar .byte x))) Q) (hb : len < 2 ^ 31 := by omega) : Tt (fun K k => wrB X z h j x (fun v => E v K k)) Q := w_wrI (x := vp_nar .byte x) hL hj hi H hb
theorem w_rdJ {E : Int64 → Nat → Nat → Option O} (hL : (X.2 h).2.1 = len) (hj : j = nI i) (hi : i < len) (he : z.2.2 h i = y) (H : Tt (E y) Q) (hb : len < 2 ^ 31 := by omega) : Tt (fun K k => rdJ X z h j (fun v => E v K k)) Q := by
  subst he
  have e : (fun K k => rdJ X z h j (fun v => E v K k)) = E (z.2.2 h i) := by
    funext K k
    rw [hj]
    exact po_rdJ (K := fun v => E v K k) (by rw [hL]; exact hi) (by omega)
  rw [e]
  exact H
theorem w_wrJ {E : ow_MS → Nat → Nat → Option O} (hL : (X.2 h).2.1 = len) (hj : j = nI i) (hi : i < len) (H : Tt (E (usJ z h i y)) Q) (hb : len < 2 ^ 31 := by omega) : Tt (fun K k => wrJ X z h j y (fun v => E v K k)) Q := by
  have e : (fun K k => wrJ X z h j y (fun v => E v K k)) = E (usJ z h i y) := by
    funext K k
    rw [hj]
    exact po_wrJ (K := fun v => E v K k) (by rw [hL]; exact hi) (by omega)
  rw [e]
  exact H
theorem w_nzI {A : Nat → Nat → Option O} (hx : x ≠ 0) (H : Tt A Q) : Tt (fun K k => nzI x (A K k)) Q := w_ifF hx H
theorem w_nzJ {A : Nat → Nat → Option O} (hx : y ≠ 0) (H : Tt A Q) : Tt (fun K k => nzJ y (A K k)) Q := w_ifF hx H
theorem w_okZ {A : Nat → Nat → Option O} (hx : x = 0 ∨ x = 1) (H : Tt A Q) : Tt (fun K k => okZ x (A K k)) Q := w_ifT hx H
theorem w_cs0 {f : Nat → Option ow_MS} {R : ow_MS → Prop} {E : ow_MS → Nat → Nat → Option O} (hc : Te f R) (H : ∀ z1, R z1 → Tt (E z1) Q) : Tt (fun K k => cs0 (f K) (fun v => E v K k)) Q := by
  obtain ⟨r, ⟨b, h1⟩, h2⟩ := hc
  obtain ⟨r2, ⟨b2, h3⟩, h4⟩ := H r h2
  refine ⟨r2, ⟨b + b2, fun K k hK hk => ?_⟩, h4⟩
  show cs0 (f K) (fun v => E v K k) = some r2
  rw [h1 K (by omega)]
  exact h3 K k (by omega) (by omega)
theorem w_cs1 {α : Type} {f : Nat → Option (α × ow_MS)} {R : α × ow_MS → Prop} {E : α → ow_MS → Nat → Nat → Option O} (hc : Te f R) (H : ∀ a z1, R (a, z1) → Tt (E a z1) Q) : Tt (fun K k => cs1 (f K) (fun a v => E a v K k)) Q := by
  obtain ⟨r, ⟨b, h1⟩, h2⟩ := hc
  obtain ⟨r2, ⟨b2, h3⟩, h4⟩ := H r.1 r.2 h2
  refine ⟨r2, ⟨b + b2, fun K k hK hk => ?_⟩, h4⟩
  show cs1 (f K) (fun a v => E a v K k) = some r2
  rw [h1 K (by omega)]
  exact h3 K k (by omega) (by omega)
end WP
/-! frames: nothing but the handles in P is changed -/
def fr (P : Nat → Prop) (z z1 : ow_MS) : Prop := ∀ g, ¬ P g → z1.1 g = z.1 g ∧ z1.2.1 g = z.2.1 g ∧ z1.2.2 g = z.2.2 g
section FR
variable {P P2 : Nat → Prop} {z z1 z2 : ow_MS} {h i g j : Nat} {x y : Int32}
theorem fr_rf : fr P z z := fun _ _ => ⟨rfl, rfl, rfl⟩
theorem fr_tr (h1 : fr P z z1) (h2 : fr P z1 z2) : fr P z z2 := fun g hg => ⟨(h2 g hg).1.trans (h1 g hg).1, (h2 g hg).2.1.trans (h1 g hg).2.1, (h2 g hg).2.2.trans (h1 g hg).2.2⟩
theorem fr_mono (hP : ∀ g, P g → P2 g) (h1 : fr P z z1) : fr P2 z z1 := fun g hg => h1 g (fun h9 => hg (hP g h9))
theorem fr_I (hh : P h) : fr P z (usI z h i x) := fun g hg => ⟨rfl, if_neg (fun e => hg (by rw [e]; exact hh)), rfl⟩
theorem fr_J {y : Int64} (hh : P h) : fr P z (usJ z h i y) := fun g hg => ⟨rfl, rfl, if_neg (fun e => hg (by rw [e]; exact hh))⟩
theorem fr_F (hh : P h) : fr P z (usF z h x) := fun g hg => ⟨if_neg (fun e => hg (by rw [e]; exact hh)), rfl, rfl⟩
theorem fr_I2 (h1 : fr P z z1) (hh : P h) : fr P z (usI z1 h i x) := fr_tr h1 (fr_I hh)
theorem fr_J2 {y : Int64} (h1 : fr P z z1) (hh : P h) : fr P z (usJ z1 h i y) := fr_tr h1 (fr_J hh)
theorem fr_F2 (h1 : fr P z z1) (hh : P h) : fr P z (usF z1 h x) := fr_tr h1 (fr_F hh)
theorem rd_ot (hg : g ≠ h) (e : z.2.1 g j = y) : (usI z h i x).2.1 g j = y := (congrFun (po_usI_ot hg) j).trans e
theorem rd_ne (hj : j ≠ i) (e : z.2.1 h j = y) : (usI z h i x).2.1 h j = y := (po_usI_ne hj).trans e
theorem rf_ot (hg : g ≠ h) (e : z.1 g = y) : (usF z h x).1 g = y := (po_usF_ot hg).trans e
theorem po_usI_row : (usI z h i x).2.1 h = upd (z.2.1 h) i x := if_pos rfl
end FR
theorem po_len {n : Nat} (hn : mw_net n) : (mX.2 (n + 3)).2.1 = 40 ∧ (mX.2 (n + 4)).2.1 = 40 ∧ (mX.2 (n + 5)).2.1 = 40 ∧ (mX.2 (n + 6)).2.1 = 40 ∧ (mX.2 (n + 7)).2.1 = 40 ∧ (mX.2 (n + 8)).2.1 = 40 ∧ (mX.2 (n + 9)).2.1 = 40 ∧ (mX.2 (n + 10)).2.1 = 40 ∧ (mX.2 (n + 11)).2.1 = 40 ∧ (mX.2 (n + 12)).2.1 = 40 ∧ (mX.2 (n + 14)).2.1 = 80 ∧ (mX.2 (n + 15)).2.1 = 80 := by
  obtain ⟨o, ho, rfl⟩ := hn
  have key : ∀ o, o < 18 → ((mX.2 (1000 * (o + 1) + 3)).2.1 = 40 ∧ (mX.2 (1000 * (o + 1) + 4)).2.1 = 40 ∧ (mX.2 (1000 * (o + 1) + 5)).2.1 = 40 ∧ (mX.2 (1000 * (o + 1) + 6)).2.1 = 40 ∧ (mX.2 (1000 * (o + 1) + 7)).2.1 = 40 ∧ (mX.2 (1000 * (o + 1) + 8)).2.1 = 40 ∧ (mX.2 (1000 * (o + 1) + 9)).2.1 = 40 ∧ (mX.2 (1000 * (o + 1) + 10)).2.1 = 40 ∧ (mX.2 (1000 * (o + 1) + 11)).2.1 = 40 ∧ (mX.2 (1000 * (o + 1) + 12)).2.1 = 40 ∧ (mX.2 (1000 * (o + 1) + 14)).2.1 = 80 ∧ (mX.2 (1000 * (o + 1) + 15)).2.1 = 80) := by decide +kernel
  exact key o ho
end
section
/-! 99zzb.net -/
theorem pl3 {n : Nat} (hn : mw_net n) : (mX.2 (n + 3)).2.1 = 40 := (po_len hn).1
theorem pl4 {n : Nat} (hn : mw_net n) : (mX.2 (n + 4)).2.1 = 40 := (po_len hn).2.1
theorem pl5 {n : Nat} (hn : mw_net n) : (mX.2 (n + 5)).2.1 = 40 := (po_len hn).2.2.1
theorem pl6 {n : Nat} (hn : mw_net n) : (mX.2 (n + 6)).2.1 = 40 := (po_len hn).2.2.2.1
theorem pl7 {n : Nat} (hn : mw_net n) : (mX.2 (n + 7)).2.1 = 40 := (po_len hn).2.2.2.2.1
theorem pl8 {n : Nat} (hn : mw_net n) : (mX.2 (n + 8)).2.1 = 40 := (po_len hn).2.2.2.2.2.1
theorem pl9 {n : Nat} (hn : mw_net n) : (mX.2 (n + 9)).2.1 = 40 := (po_len hn).2.2.2.2.2.2.1
theorem pl10 {n : Nat} (hn : mw_net n) : (mX.2 (n + 10)).2.1 = 40 := (po_len hn).2.2.2.2.2.2.2.1
theorem pl11 {n : Nat} (hn : mw_net n) : (mX.2 (n + 11)).2.1 = 40 := (po_len hn).2.2.2.2.2.2.2.2.1
theorem pl12 {n : Nat} (hn : mw_net n) : (mX.2 (n + 12)).2.1 = 40 := (po_len hn).2.2.2.2.2.2.2.2.2.1
theorem pl14 {n : Nat} (hn : mw_net n) : (mX.2 (n + 14)).2.1 = 80 := (po_len hn).2.2.2.2.2.2.2.2.2.2.1
theorem pl15 {n : Nat} (hn : mw_net n) : (mX.2 (n + 15)).2.1 = 80 := (po_len hn).2.2.2.2.2.2.2.2.2.2.2
/-! a net of the reference: closed components A, an open one B; a visit is (crossing, under) -/
abbrev rn_L := List (List (Nat × Nat))
def rn_At (z : ow_MS) (n : Nat) (A : rn_L) (B : List (Nat × Nat)) : Prop := z.1 (n + 1) = nI (A.flatten ++ B).length ∧ z.1 (n + 2) = nI A.length ∧ (∀ c, c ≤ A.length → z.2.1 (n + 3) c = nI (A.take c).flatten.length) ∧ ∀ v p, (A.flatten ++ B)[v]? = some p → z.2.1 (n + 4) v = nI p.1 ∧ z.2.1 (n + 5) v = nI p.2
theorem fr_At {P : Nat → Prop} {z z1 : ow_MS} {n : Nat} {A : rn_L} {B : List (Nat × Nat)} (hf : fr P z z1) (hP : ∀ g, P g → g < n + 1 ∨ n + 5 < g) (h : rn_At z n A B) : rn_At z1 n A B := by
  have e : ∀ g, n + 1 ≤ g → g ≤ n + 5 → z1.1 g = z.1 g ∧ z1.2.1 g = z.2.1 g := fun g h1 h2 => by
    have := hf g (fun h9 => by have := hP g h9; omega)
    exact ⟨this.1, this.2.1⟩
  obtain ⟨h1, h2, h3, h4⟩ := h
  refine ⟨?_, ?_, fun c hc => ?_, fun v p hv => ?_⟩
  · rw [(e _ (by omega) (by omega)).1]; exact h1
  · rw [(e _ (by omega) (by omega)).1]; exact h2
  · rw [(e _ (by omega) (by omega)).2]; exact h3 c hc
  · rw [(e _ (by omega) (by omega)).2, (e (n + 5) (by omega) (by omega)).2]; exact h4 v p hv
theorem net_mod {n : Nat} (hn : mw_net n) : n % 1000 = 0 ∧ 1000 ≤ n := by
  obtain ⟨o, ho, rfl⟩ := hn
  omega
theorem e_X12_clear {r0 : Nat} {z : ow_MS} {Q : ow_MS → Prop} (H : Tt (fun K _ => qm_X12_clear_0 K r0 z) Q) : Te (fun K => qe_X12_clear K r0 z) Q := w_te0 H
theorem tn_clear {n : Nat} {z : ow_MS} (hn : mw_net n) : Te (fun K => qe_X12_clear K n z) (fun z1 => rn_At z1 n [] [] ∧ fr (fun g => g = n + 1 ∨ g = n + 2 ∨ g = n + 3) z z1) := by
  refine e_X12_clear ?_; unfold qm_X12_clear_0
  refine w_wrF (w_wrF (w_wrI (pl3 hn) nI_0.symm (by omega) (w_some ⟨⟨?_, ?_, fun c hc => ?_, fun v p hv => ?_⟩, ?_⟩)))
  · show (usF (usF z (n + 1) 0) (n + 2) 0).1 (n + 1) = 0
    rw [po_usF_ot (by omega), po_usF_at]
  · show (usF (usF z (n + 1) 0) (n + 2) 0).1 (n + 2) = 0
    exact po_usF_at
  · have h0 : c = 0 := Nat.le_zero.mp hc
    subst h0
    exact po_usI_at
  · simp at hv
  · exact fr_I2 (fr_F2 (fr_F (Or.inl rfl)) (Or.inr (Or.inl rfl))) (Or.inr (Or.inr rfl))
theorem e_X12_add {r0 : Nat} {x1 : Int32} {x2 : Int32} {z : ow_MS} {Q : ow_MS → Prop} (H : Tt (fun K _ => qm_X12_add_0 K x1 x2 r0 z) Q) : Te (fun K => qe_X12_add K r0 x1 x2 z) Q := w_te0 H
theorem tn_add {n x u : Nat} {z : ow_MS} {A : rn_L} {B : List (Nat × Nat)} (hn : mw_net n) (h : rn_At z n A B) (hlen : (A.flatten ++ B).length < 40) : Te (fun K => qe_X12_add K n (nI x) (nI u) z) (fun z1 => rn_At z1 n A (B ++ [(x, u)]) ∧ fr (fun g => g = n + 1 ∨ g = n + 4 ∨ g = n + 5) z z1) := by
  obtain ⟨h1, h2, h3, h4⟩ := h
  generalize hv : (A.flatten ++ B).length = v at h1 hlen
  refine e_X12_add ?_; unfold qm_X12_add_0
  refine w_rdF h1 (w_wrI (pl4 hn) rfl hlen (w_rdF (x := nI v) h1 (w_wrI (pl5 hn) rfl hlen (w_rdF (x := nI v) h1 (w_wrF (w_some ⟨⟨?_, ?_, fun c hc => ?_, fun w p hw => ?_⟩, ?_⟩))))))
  · rw [po_usF_at, ← List.append_assoc, List.length_append, hv]
    exact nI_1 v
  · rw [po_usF_ot (by omega)]
    exact h2
  · show (usI (usI z (n + 4) v (nI x)) (n + 5) v (nI u)).2.1 (n + 3) c = _
    rw [po_usI_ot (by omega), po_usI_ot (by omega)]
    exact h3 c hc
  · show (usI (usI z (n + 4) v (nI x)) (n + 5) v (nI u)).2.1 (n + 4) w = _ ∧ (usI (usI z (n + 4) v (nI x)) (n + 5) v (nI u)).2.1 (n + 5) w = _
    rw [po_usI_ot (h := n + 5) (g := n + 4) (by omega)]
    rw [← List.append_assoc] at hw
    by_cases hwv : w = v
    · subst hwv
      rw [← hv, List.getElem?_append_right (Nat.le_refl _), Nat.sub_self] at hw
      cases hw
      exact ⟨po_usI_at, po_usI_at⟩
    · have hlt : w < v := by
        have h9 := (List.getElem?_eq_some_iff.mp hw).1
        rw [List.length_append, hv] at h9
        have : w < v + 1 := h9
        omega
      rw [List.getElem?_append_left (by rw [hv]; exact hlt)] at hw
      rw [po_usI_ne hwv, po_usI_ne hwv, po_usI_ot (by omega)]
      exact h4 w p hw
  · exact fr_F2 (fr_I2 (fr_I (Or.inr (Or.inl rfl))) (Or.inr (Or.inr rfl))) (Or.inl rfl)
theorem e_X12_end {r0 : Nat} {z : ow_MS} {Q : ow_MS → Prop} (H : Tt (fun K _ => qm_X12_end_0 K r0 z) Q) : Te (fun K => qe_X12_end K r0 z) Q := w_te0 H
theorem tn_end {n : Nat} {z : ow_MS} {A : rn_L} {B : List (Nat × Nat)} (hn : mw_net n) (h : rn_At z n A B) (hlen : A.length < 39) : Te (fun K => qe_X12_end K n z) (fun z1 => rn_At z1 n (A ++ [B]) [] ∧ fr (fun g => g = n + 2 ∨ g = n + 3) z z1) := by
  obtain ⟨h1, h2, h3, h4⟩ := h
  have hfl : (A ++ [B]).flatten = A.flatten ++ B := by rw [List.flatten_append]; simp
  refine e_X12_end ?_; unfold qm_X12_end_0
  refine w_rdF h2 (w_wrF (w_rdF (x := nI (A.length + 1)) (po_usF_at.trans (nI_1 _)) (w_rdF (x := nI (A.flatten ++ B).length) (rf_ot (by omega) h1) (w_wrI (pl3 hn) rfl (by omega) (w_some ⟨⟨?_, ?_, fun c hc => ?_, fun w p hw => ?_⟩, ?_⟩)))))
  · show (usF z (n + 2) (nI A.length + 1)).1 (n + 1) = _
    rw [po_usF_ot (by omega), h1, hfl, List.append_nil]
  · show (usF z (n + 2) (nI A.length + 1)).1 (n + 2) = _
    rw [po_usF_at, List.length_append]
    exact nI_1 _
  · by_cases hc2 : c = A.length + 1
    · subst hc2
      rw [po_usI_at, List.take_of_length_le (by rw [List.length_append]; exact Nat.le_refl _), hfl]
    · have hc3 : c ≤ A.length := by
        rw [List.length_append] at hc
        have : c ≤ A.length + 1 := hc
        omega
      rw [po_usI_ne hc2, List.take_append_of_le_length hc3]
      exact h3 c hc3
  · rw [hfl, List.append_nil] at hw
    exact ⟨rd_ot (by omega) (h4 w p hw).1, rd_ot (by omega) (h4 w p hw).2⟩
  · exact fr_I2 (fr_F (Or.inl rfl)) (Or.inr rfl)
theorem e_X12_signsOf {r0 : Nat} {r1 : Nat} {z : ow_MS} {Q : ow_MS → Prop} (H : Tt (fun K k => q_X12_signsOf K k 0 0 r0 r1 z) Q) : Te (fun K => qe_X12_signsOf K r0 r1 z) Q := w_te H
theorem u_X12_signsOf_0 {x2 : Int32} {r0 : Nat} {r1 : Nat} {z : ow_MS} {Q : ow_MS → Prop} (H : Tt (fun K k => qm_X12_signsOf_0 K (q_X12_signsOf K k) x2 r0 r1 z) Q) : Tt (fun K k => q_X12_signsOf K k 0 x2 r0 r1 z) Q := w_un (fun _ _ => rfl) H
theorem u_X12_signsOf_1 {x2 : Int32} {r0 : Nat} {r1 : Nat} {z : ow_MS} {Q : ow_MS → Prop} (H : Tt (fun K k => qm_X12_signsOf_1 K (q_X12_signsOf K k) x2 r0 r1 z) Q) : Tt (fun K k => q_X12_signsOf K k 1 x2 r0 r1 z) Q := w_un (fun _ _ => rfl) H
theorem tn_signs {n o : Nat} {z : ow_MS} (hn : mw_net n) (ho : mw_net o) (hno : n ≠ o) : Te (fun K => qe_X12_signsOf K n o z) (fun z1 => fr (fun g => g = n + 6) z z1 ∧ ∀ x, x < 40 → z1.2.1 (n + 6) x = z.2.1 (o + 6) x) := by
  refine e_X12_signsOf ?_
  refine u_X12_signsOf_0 ?_; unfold qm_X12_signsOf_0
  have hne : o + 6 ≠ n + 6 := by omega
  have key : ∀ (d i : Nat) (z1 : ow_MS), i + d = 40 → fr (fun g => g = n + 6) z z1 → (∀ x, x < i → z1.2.1 (n + 6) x = z.2.1 (o + 6) x) → Tt (fun K k => q_X12_signsOf K k 1 (nI i) n o z1) (fun z1 => fr (fun g => g = n + 6) z z1 ∧ ∀ x, x < 40 → z1.2.1 (n + 6) x = z.2.1 (o + 6) x) := by
    intro d
    induction d with
    | zero =>
      intro i z1 hi hf hx
      refine u_X12_signsOf_1 ?_; unfold qm_X12_signsOf_1
      exact w_leT (a := 40) (by omega) (by omega) (w_some ⟨hf, fun x h9 => hx x (by omega)⟩)
    | succ d ih =>
      intro i z1 hi hf hx
      refine u_X12_signsOf_1 ?_; unfold qm_X12_signsOf_1
      refine w_leF (a := 40) (by omega) (by omega) (w_rdI (pl6 ho) rfl (by omega) rfl (w_wrI (pl6 hn) rfl (by omega) ?_))
      rw [nI_1]
      refine ih (i + 1) _ (by omega) (fr_I2 hf rfl) (fun x h9 => ?_)
      by_cases hxi : x = i
      · rw [hxi, po_usI_at, (hf _ hne).2.1]
      · rw [po_usI_ne hxi]
        exact hx x (by omega)
  exact key 40 0 z (by omega) fr_rf (fun x h9 => by omega)
theorem rn_at_idx {A1 A2 : rn_L} {B1 B2 : List (Nat × Nat)} {p : Nat × Nat} : ((A1 ++ (B1 ++ p :: B2) :: A2).flatten ++ [])[A1.flatten.length + B1.length]? = some p := by
  have e : (A1 ++ (B1 ++ p :: B2) :: A2).flatten ++ [] = (A1.flatten ++ B1) ++ (p :: (B2 ++ A2.flatten)) := by simp
  rw [e, ← List.length_append, List.getElem?_append_right (Nat.le_refl _), Nat.sub_self]
  rfl
theorem rn_take1 {A1 A2 : rn_L} {B : List (Nat × Nat)} : ((A1 ++ B :: A2).take (A1.length + 1)).flatten.length = A1.flatten.length + B.length := by
  rw [List.take_append, List.take_of_length_le (by omega)]
  have : A1.length + 1 - A1.length = 1 := by omega
  rw [this]
  simp
theorem rn_take0 {A1 A2 : rn_L} : ((A1 ++ A2).take A1.length).flatten.length = A1.flatten.length := by
  rw [List.take_append_of_le_length (Nat.le_refl _), List.take_length]
/-- what copy has done at its end -/
def rn_cpQ (n o : Nat) (A : rn_L) (z z1 : ow_MS) : Prop := rn_At z1 n A [] ∧ fr (fun g => n + 1 ≤ g ∧ g ≤ n + 6) z z1 ∧ ∀ x, x < 40 → z1.2.1 (n + 6) x = z.2.1 (o + 6) x
theorem u_X12_copy_1 {x2 : Int32} {x3 : Int32} {r0 : Nat} {r1 : Nat} {z : ow_MS} {Q : ow_MS → Prop} (H : Tt (fun K k => qm_X12_copy_1 K (q_X12_copy K k) x2 x3 r0 r1 z) Q) : Tt (fun K k => q_X12_copy K k 1 x2 x3 r0 r1 z) Q := w_un (fun _ _ => rfl) H
theorem u_X12_copy_2 {x2 : Int32} {x3 : Int32} {r0 : Nat} {r1 : Nat} {z : ow_MS} {Q : ow_MS → Prop} (H : Tt (fun K k => qm_X12_copy_2 K (q_X12_copy K k) x2 x3 r0 r1 z) Q) : Tt (fun K k => q_X12_copy K k 2 x2 x3 r0 r1 z) Q := w_un (fun _ _ => rfl) H
theorem e_X12_copy {r0 : Nat} {r1 : Nat} {z : ow_MS} {Q : ow_MS → Prop} (H : Tt (fun K k => q_X12_copy K k 0 0 0 r0 r1 z) Q) : Te (fun K => qe_X12_copy K r0 r1 z) Q := w_te H
theorem u_X12_copy_0 {x2 : Int32} {x3 : Int32} {r0 : Nat} {r1 : Nat} {z : ow_MS} {Q : ow_MS → Prop} (H : Tt (fun K k => qm_X12_copy_0 K (q_X12_copy K k) x2 x3 r0 r1 z) Q) : Tt (fun K k => q_X12_copy K k 0 x2 x3 r0 r1 z) Q := w_un (fun _ _ => rfl) H
theorem tn_copy {n o : Nat} {z : ow_MS} {A : rn_L} (hn : mw_net n) (ho : mw_net o) (hno : n ≠ o) (hlen : A.flatten.length ≤ 40) (hcn : A.length ≤ 39) (hzo : rn_At z o A []) : Te (fun K => qe_X12_copy K n o z) (rn_cpQ n o A z) := by
  have hm := net_mod hn
  have hm2 := net_mod ho
  have frO : ∀ {P : Nat → Prop} {y y1 : ow_MS}, fr P y y1 → (∀ g, P g → n + 1 ≤ g ∧ g ≤ n + 6) → rn_At y o A [] → rn_At y1 o A [] := fun hf hP h => fr_At hf (fun g hg => by have := hP g hg; omega) h
  have frM : ∀ {P : Nat → Prop} {y y1 : ow_MS}, (∀ g, P g → n + 1 ≤ g ∧ g ≤ n + 6) → fr P y y1 → fr (fun g => n + 1 ≤ g ∧ g ≤ n + 6) y y1 := fun hP hf => fr_mono hP hf
  have out : ∀ (A2 A1 : rn_L) (z1 : ow_MS), A1 ++ A2 = A → fr (fun g => n + 1 ≤ g ∧ g ≤ n + 6) z z1 → rn_At z1 o A [] → rn_At z1 n A1 [] → Tt (fun K k => q_X12_copy K k 1 (nI A1.length) 0 n o z1) (rn_cpQ n o A z) := by
    intro A2
    induction A2 with
    | nil =>
      intro A1 z1 hA hf hzo hzn
      rw [List.append_nil] at hA
      subst hA
      refine u_X12_copy_1 ?_; unfold qm_X12_copy_1
      refine w_rdF hzo.2.1 (w_leT (by omega) (Nat.le_refl _) (w_cs0 (tn_signs hn ho hno) (fun z2 ⟨e1, e2⟩ => w_some ⟨fr_At e1 (fun g hg => by omega) hzn, fr_tr hf (frM (fun g hg => by omega) e1), fun x hx => ?_⟩)))
      rw [e2 x hx, (hf (o + 6) (by omega)).2.1]
    | cons B A2 ih =>
      intro A1 z1 hA hf hzo hzn
      have hC : A1.length + 1 ≤ A.length := by
        rw [← hA, List.length_append, List.length_cons]
        omega
      have hL : A1.flatten.length + B.length ≤ A.flatten.length := by
        have : (A1 ++ B :: A2).flatten.length = A1.flatten.length + (B.length + A2.flatten.length) := by simp
        rw [← hA]
        omega
      have b0 : ∀ y, rn_At y o A [] → y.2.1 (o + 3) A1.length = nI A1.flatten.length := fun y hy => by
        rw [hy.2.2.1 _ (by omega), ← hA, rn_take0]
      have b1 : ∀ y, rn_At y o A [] → y.2.1 (o + 3) (A1.length + 1) = nI (A1.flatten.length + B.length) := fun y hy => by
        rw [hy.2.2.1 _ (by omega), ← hA, rn_take1]
      have inn : ∀ (B2 B1 : List (Nat × Nat)) (z1 : ow_MS), B1 ++ B2 = B → fr (fun g => n + 1 ≤ g ∧ g ≤ n + 6) z z1 → rn_At z1 o A [] → rn_At z1 n A1 B1 → Tt (fun K k => q_X12_copy K k 2 (nI A1.length) (nI (A1.flatten.length + B1.length)) n o z1) (rn_cpQ n o A z) := by
        intro B2
        induction B2 with
        | nil =>
          intro B1 z1 hB hf hzo hzn
          rw [List.append_nil] at hB
          subst hB
          refine u_X12_copy_2 ?_; unfold qm_X12_copy_2
          refine w_rdI (pl3 ho) (nI_1 _) (by omega) (b1 _ hzo) (w_leT (by omega) (Nat.le_refl _) (w_cs0 (tn_end hn hzn (by omega)) (fun z2 ⟨e1, e2⟩ => ?_)))
          have := ih (A1 ++ [B1]) z2 (by rw [← hA]; simp) (fr_tr hf (frM (fun g hg => by omega) e2)) (frO e2 (fun g hg => by omega) hzo) e1
          rw [List.length_append] at this
          rw [nI_1]
          exact this
        | cons p B2 ihB =>
          intro B1 z1 hB hf hzo hzn
          have hBl : B1.length + (B2.length + 1) = B.length := by
            rw [← hB, List.length_append]
            rfl
          have hx := hzo.2.2.2 (A1.flatten.length + B1.length) p (by rw [← hA, ← hB]; exact rn_at_idx)
          refine u_X12_copy_2 ?_; unfold qm_X12_copy_2
          refine w_rdI (pl3 ho) (nI_1 _) (by omega) (b1 _ hzo) (w_leF (by omega) (by omega) (w_rdI (pl4 ho) rfl (by omega) hx.1 (w_rdI (pl5 ho) rfl (by omega) hx.2 (w_cs0 (tn_add hn hzn (by rw [List.length_append]; omega)) (fun z2 ⟨e1, e2⟩ => ?_)))))
          have := ihB (B1 ++ [p]) z2 (by rw [← hB]; simp) (fr_tr hf (frM (fun g hg => by omega) e2)) (frO e2 (fun g hg => by omega) hzo) e1
          rw [List.length_append] at this
          rw [nI_1]
          exact this
      refine u_X12_copy_1 ?_; unfold qm_X12_copy_1
      have hlA : A.length ≤ 39 := hcn
      exact w_rdF hzo.2.1 (w_leF (by omega) (by omega) (w_rdI (pl3 ho) rfl (by omega) (b0 _ hzo) (inn B [] z1 (List.nil_append _) hf hzo hzn)))
  refine e_X12_copy ?_
  refine u_X12_copy_0 ?_; unfold qm_X12_copy_0
  refine w_cs0 (tn_clear hn) (fun z1 ⟨e1, e2⟩ => ?_)
  exact out A [] z1 (List.nil_append _) (frM (fun g hg => by omega) e2) (frO e2 (fun g hg => by omega) hzo) e1
end
section
/-! 99zzc.link -/
/-! the reference's nets: link -/
def rn_b (A : rn_L) (c : Nat) : Nat := (A.take c).flatten.length
theorem rn_b0 (A : rn_L) : rn_b A 0 = 0 := rfl
theorem rn_bS (B : List (Nat × Nat)) (A : rn_L) (c : Nat) : rn_b (B :: A) (c + 1) = B.length + rn_b A c := by
  unfold rn_b
  rw [List.take_succ_cons, List.flatten_cons, List.length_append]
theorem rn_bN (c : Nat) : rn_b [] c = 0 := by
  unfold rn_b
  rw [List.take_nil]
  rfl
theorem rn_b_mono : ∀ (A : rn_L) (c : Nat), rn_b A c ≤ rn_b A (c + 1)
  | [], c => by rw [rn_bN, rn_bN]; exact Nat.le_refl _
  | B :: A, 0 => by rw [rn_b0]; exact Nat.zero_le _
  | B :: A, c + 1 => by
    rw [rn_bS, rn_bS]
    exact Nat.add_le_add_left (rn_b_mono A c) _
theorem rn_b_len (A : rn_L) : rn_b A A.length = A.flatten.length := by
  unfold rn_b
  rw [List.take_length]
theorem rn_b_le : ∀ (A : rn_L) (c : Nat), rn_b A c ≤ A.flatten.length
  | [], c => by rw [rn_bN]; exact Nat.zero_le _
  | B :: A, 0 => by rw [rn_b0]; exact Nat.zero_le _
  | B :: A, c + 1 => by
    rw [rn_bS, List.flatten_cons, List.length_append]
    exact Nat.add_le_add_left (rn_b_le A c) _
/-- the component of a visit -/
def rn_c : rn_L → Nat → Nat
  | [], _ => 0
  | B :: A, v => if v < B.length then 0 else rn_c A (v - B.length) + 1
theorem rn_c_of : ∀ (A : rn_L) (c v : Nat), rn_b A c ≤ v → v < rn_b A (c + 1) → rn_c A v = c
  | [], c, v, _, h => by rw [rn_bN] at h; omega
  | B :: A, 0, v, _, h => by
    rw [rn_bS, rn_b0] at h
    unfold rn_c
    rw [if_pos (by omega)]
  | B :: A, c + 1, v, h1, h2 => by
    rw [rn_bS] at h1 h2
    unfold rn_c
    rw [if_neg (by omega), rn_c_of A c (v - B.length) (by omega) (by omega)]
theorem rn_c_in : ∀ (A : rn_L) (v : Nat), v < A.flatten.length → rn_c A v < A.length ∧ rn_b A (rn_c A v) ≤ v ∧ v < rn_b A (rn_c A v + 1)
  | [], v, h => by simp at h
  | B :: A, v, h => by
    rw [List.flatten_cons, List.length_append] at h
    unfold rn_c
    by_cases hv : v < B.length
    · rw [if_pos hv, rn_b0, rn_bS, rn_b0, List.length_cons]
      omega
    · obtain ⟨h1, h2, h3⟩ := rn_c_in A (v - B.length) (by omega)
      rw [if_neg hv, rn_bS, rn_bS, List.length_cons]
      omega
def rn_nx (A : rn_L) (v : Nat) : Nat := if v + 1 < rn_b A (rn_c A v + 1) then v + 1 else rn_b A (rn_c A v)
def rn_pv (A : rn_L) (v : Nat) : Nat := if rn_b A (rn_c A v) < v then v - 1 else rn_b A (rn_c A v + 1) - 1
/-- two visits of one crossing -/
def rn_mt (F : List (Nat × Nat)) (v w : Nat) : Prop := v ≠ w ∧ ∃ p q, F[v]? = some p ∧ F[w]? = some q ∧ p.1 = q.1
theorem rn_mt.symm {F : List (Nat × Nat)} {v w : Nat} (h : rn_mt F v w) : rn_mt F w v := by
  obtain ⟨h1, p, q, h2, h3, h4⟩ := h
  exact ⟨fun e => h1 e.symm, q, p, h3, h2, h4.symm⟩
/-- no crossing has three visits, and all are below 40 -/
def rn_d2 (F : List (Nat × Nat)) : Prop := (∀ v w w', rn_mt F v w → rn_mt F v w' → w = w') ∧ ∀ (v : Nat) (p : Nat × Nat), F[v]? = some p → p.1 < 40 ∧ p.2 < 2
def rn_LI (z : ow_MS) (n : Nat) (A : rn_L) (m : Nat) : Prop := (∀ v, v < m → z.2.1 (n + 8) v = nI (rn_c A v) ∧ z.2.1 (n + 9) v = nI (rn_nx A v) ∧ z.2.1 (n + 10) v = nI (rn_pv A v)) ∧ (∀ x, x < 40 → (z.2.1 (n + 11) x = -1 ∧ ∀ v p, v < m → A.flatten[v]? = some p → p.1 ≠ x) ∨ ∃ v p, v < m ∧ A.flatten[v]? = some p ∧ p.1 = x ∧ z.2.1 (n + 11) x = nI v) ∧ ∀ v w, v < m → w < m → rn_mt A.flatten v w → z.2.1 (n + 7) v = nI w
theorem rn_neg1 {v : Nat} (hv : v < 2 ^ 31) : ¬ nI v = -1 := by
  intro e
  have h1 := congrArg Int32.toInt e
  rw [nI_toInt hv] at h1
  have h2 : (-1 : Int32).toInt = -1 := by decide
  rw [h2] at h1
  omega
/-- the first three rows of an inner turn -/
def rn_z3 (z : ow_MS) (n : Nat) (A : rn_L) (v : Nat) : ow_MS := usI (usI (usI z (n + 8) v (nI (rn_c A v))) (n + 9) v (nI (rn_nx A v))) (n + 10) v (nI (rn_pv A v))
theorem rn_z3_rows {z : ow_MS} {n v : Nat} {A : rn_L} : (rn_z3 z n A v).2.1 (n + 7) = z.2.1 (n + 7) ∧ (rn_z3 z n A v).2.1 (n + 11) = z.2.1 (n + 11) ∧ ∀ m, (∀ w, w < m → z.2.1 (n + 8) w = nI (rn_c A w) ∧ z.2.1 (n + 9) w = nI (rn_nx A w) ∧ z.2.1 (n + 10) w = nI (rn_pv A w)) → m ≤ v → ∀ w, w < m ∨ w = v → (rn_z3 z n A v).2.1 (n + 8) w = nI (rn_c A w) ∧ (rn_z3 z n A v).2.1 (n + 9) w = nI (rn_nx A w) ∧ (rn_z3 z n A v).2.1 (n + 10) w = nI (rn_pv A w) := by
  unfold rn_z3
  refine ⟨by rw [po_usI_ot (by omega), po_usI_ot (by omega), po_usI_ot (by omega)], by rw [po_usI_ot (by omega), po_usI_ot (by omega), po_usI_ot (by omega)], fun m hm hv w hw => ?_⟩
  rw [po_usI_ot (h := n + 10) (g := n + 8) (by omega), po_usI_ot (h := n + 9) (g := n + 8) (by omega), po_usI_ot (h := n + 10) (g := n + 9) (by omega)]
  by_cases hwv : w = v
  · subst hwv
    exact ⟨po_usI_at, po_usI_at, po_usI_at⟩
  · have hwm : w < m := hw.resolve_right hwv
    rw [po_usI_ne hwv, po_usI_ne hwv, po_usI_ne hwv, po_usI_ot (by omega), po_usI_ot (by omega), po_usI_ot (by omega)]
    exact hm w hwm
theorem rn_LI_a {n v : Nat} {z : ow_MS} {A : rn_L} {p : Nat × Nat} (hI : rn_LI z n A v) (hp : A.flatten[v]? = some p) (hx : p.1 < 40) (j1 : z.2.1 (n + 11) p.1 = -1) (j2 : ∀ w p9, w < v → A.flatten[w]? = some p9 → p9.1 ≠ p.1) : rn_LI (usI (rn_z3 z n A v) (n + 11) p.1 (nI v)) n A (v + 1) := by
  obtain ⟨i1, i2, i3⟩ := hI
  obtain ⟨r7, r11, r8⟩ := rn_z3_rows (z := z) (n := n) (v := v) (A := A)
  have rows : ∀ z1 : ow_MS, z1.2.1 (n + 8) = (rn_z3 z n A v).2.1 (n + 8) → z1.2.1 (n + 9) = (rn_z3 z n A v).2.1 (n + 9) → z1.2.1 (n + 10) = (rn_z3 z n A v).2.1 (n + 10) → ∀ w, w < v + 1 → z1.2.1 (n + 8) w = nI (rn_c A w) ∧ z1.2.1 (n + 9) w = nI (rn_nx A w) ∧ z1.2.1 (n + 10) w = nI (rn_pv A w) := by
    intro z1 e8 e9 e10 w hw
    rw [e8, e9, e10]
    exact r8 v i1 (Nat.le_refl _) w (by omega)
  refine ⟨rows _ (po_usI_ot (by omega)) (po_usI_ot (by omega)) (po_usI_ot (by omega)), fun x hx2 => ?_, fun a b ha hb hm => ?_⟩
  · by_cases hxe : x = p.1
    · subst hxe
      exact Or.inr ⟨v, p, by omega, hp, rfl, po_usI_at⟩
    · rw [po_usI_ne hxe, r11]
      rcases i2 x hx2 with ⟨a1, a2⟩ | ⟨a, b, a1, a2, a3, a4⟩
      · refine Or.inl ⟨a1, fun w p9 hw hp9 => ?_⟩
        by_cases hwv : w = v
        · subst hwv
          rw [hp] at hp9
          cases hp9
          exact fun e => hxe e.symm
        · exact a2 w p9 (by omega) hp9
      · exact Or.inr ⟨a, b, by omega, a2, a3, a4⟩
  · rw [po_usI_ot (by omega), r7]
    have no : ∀ w, w < v → ¬ rn_mt A.flatten v w := by
      intro w hw hm9
      obtain ⟨-, p9, q9, e1, e2, e3⟩ := hm9
      rw [hp] at e1
      cases e1
      exact j2 w q9 hw e2 e3.symm
    have hav : a ≠ v := fun e => by
      subst e
      exact no b (by have := hm.1; omega) hm
    have hbv : b ≠ v := fun e => by
      subst e
      exact no a (by omega) hm.symm
    exact i3 a b (by omega) (by omega) hm
theorem rn_LI_b {n v w : Nat} {z : ow_MS} {A : rn_L} {p p2 : Nat × Nat} (hd : rn_d2 A.flatten) (hI : rn_LI z n A v) (hp : A.flatten[v]? = some p) (hx : p.1 < 40) (j1 : w < v) (j2 : A.flatten[w]? = some p2) (j3 : p2.1 = p.1) : rn_LI (usI (usI (rn_z3 z n A v) (n + 7) v (nI w)) (n + 7) w (nI v)) n A (v + 1) := by
  obtain ⟨i1, i2, i3⟩ := hI
  obtain ⟨r7, r11, r8⟩ := rn_z3_rows (z := z) (n := n) (v := v) (A := A)
  have rows : ∀ z1 : ow_MS, z1.2.1 (n + 8) = (rn_z3 z n A v).2.1 (n + 8) → z1.2.1 (n + 9) = (rn_z3 z n A v).2.1 (n + 9) → z1.2.1 (n + 10) = (rn_z3 z n A v).2.1 (n + 10) → ∀ w, w < v + 1 → z1.2.1 (n + 8) w = nI (rn_c A w) ∧ z1.2.1 (n + 9) w = nI (rn_nx A w) ∧ z1.2.1 (n + 10) w = nI (rn_pv A w) := by
    intro z1 e8 e9 e10 w hw
    rw [e8, e9, e10]
    exact r8 v i1 (Nat.le_refl _) w (by omega)
  have hvw : rn_mt A.flatten v w := ⟨by omega, p, p2, hp, j2, j3.symm⟩
  refine ⟨rows _ (by rw [po_usI_ot (by omega), po_usI_ot (by omega)]) (by rw [po_usI_ot (by omega), po_usI_ot (by omega)]) (by rw [po_usI_ot (by omega), po_usI_ot (by omega)]), fun x hx2 => ?_, fun a b ha hb hm => ?_⟩
  · rw [po_usI_ot (by omega), po_usI_ot (by omega), r11]
    rcases i2 x hx2 with ⟨a1, a2⟩ | ⟨a, b, a1, a2, a3, a4⟩
    · refine Or.inl ⟨a1, fun w9 p9 hw hp9 => ?_⟩
      by_cases hwv : w9 = v
      · subst hwv
        rw [hp] at hp9
        cases hp9
        rw [← j3]
        exact a2 w p2 j1 j2
      · exact a2 w9 p9 (by omega) hp9
    · exact Or.inr ⟨a, b, by omega, a2, a3, a4⟩
  · by_cases haw : a = w
    · subst haw
      rw [po_usI_at, hd.1 a b v hm hvw.symm]
    · rw [po_usI_ne haw]
      by_cases hav : a = v
      · subst hav
        rw [po_usI_at, hd.1 a b w hm hvw]
      · rw [po_usI_ne hav, r7]
        have hbv : b ≠ v := fun e => by
          subst e
          exact haw (hd.1 b a w hm.symm hvw)
        exact i3 a b (by omega) (by omega) hm
abbrev frL (n g : Nat) : Prop := n + 7 ≤ g ∧ g ≤ n + 11
theorem rn_z3_fr {z : ow_MS} {n v : Nat} {A : rn_L} : fr (frL n) z (rn_z3 z n A v) := fr_I2 (fr_I2 (fr_I ⟨by omega, by omega⟩) ⟨by omega, by omega⟩) ⟨by omega, by omega⟩
theorem u_X12_link_3 {x1 : Int32} {x2 : Int32} {x3 : Int32} {r0 : Nat} {t0 : Int32} {t1 : Int32} {z : ow_MS} {Q : ow_MS → Prop} (H : Tt (fun K k => qm_X12_link_3 K (q_X12_link K k) x1 x2 x3 r0 t0 t1 z) Q) : Tt (fun K k => q_X12_link K k 3 x1 x2 x3 r0 t0 t1 z) Q := w_un (fun _ _ => rfl) H
theorem u_X12_link_6 {x1 : Int32} {x2 : Int32} {x3 : Int32} {r0 : Nat} {t0 : Int32} {t1 : Int32} {z : ow_MS} {Q : ow_MS → Prop} (H : Tt (fun K k => qm_X12_link_6 K (q_X12_link K k) x1 x2 x3 r0 t0 t1 z) Q) : Tt (fun K k => q_X12_link K k 6 x1 x2 x3 r0 t0 t1 z) Q := w_un (fun _ _ => rfl) H
theorem u_X12_link_5 {x1 : Int32} {x2 : Int32} {x3 : Int32} {r0 : Nat} {t0 : Int32} {t1 : Int32} {z : ow_MS} {Q : ow_MS → Prop} (H : Tt (fun K k => qm_X12_link_5 K (q_X12_link K k) x1 x2 x3 r0 t0 t1 z) Q) : Tt (fun K k => q_X12_link K k 5 x1 x2 x3 r0 t0 t1 z) Q := w_un (fun _ _ => rfl) H
theorem u_X12_link_4 {x1 : Int32} {x2 : Int32} {x3 : Int32} {r0 : Nat} {t0 : Int32} {t1 : Int32} {z : ow_MS} {Q : ow_MS → Prop} (H : Tt (fun K k => qm_X12_link_4 K (q_X12_link K k) x1 x2 x3 r0 t0 t1 z) Q) : Tt (fun K k => q_X12_link K k 4 x1 x2 x3 r0 t0 t1 z) Q := w_un (fun _ _ => rfl) H
theorem u_X12_link_2 {x1 : Int32} {x2 : Int32} {x3 : Int32} {r0 : Nat} {t0 : Int32} {t1 : Int32} {z : ow_MS} {Q : ow_MS → Prop} (H : Tt (fun K k => qm_X12_link_2 K (q_X12_link K k) x1 x2 x3 r0 t0 t1 z) Q) : Tt (fun K k => q_X12_link K k 2 x1 x2 x3 r0 t0 t1 z) Q := w_un (fun _ _ => rfl) H
theorem u_X12_link_1 {x1 : Int32} {x2 : Int32} {x3 : Int32} {r0 : Nat} {t0 : Int32} {t1 : Int32} {z : ow_MS} {Q : ow_MS → Prop} (H : Tt (fun K k => qm_X12_link_1 K (q_X12_link K k) x1 x2 x3 r0 t0 t1 z) Q) : Tt (fun K k => q_X12_link K k 1 x1 x2 x3 r0 t0 t1 z) Q := w_un (fun _ _ => rfl) H
theorem e_X12_link {r0 : Nat} {z : ow_MS} {Q : ow_MS → Prop} (H : Tt (fun K k => q_X12_link K k 0 0 0 0 r0 0 0 z) Q) : Te (fun K => qe_X12_link K r0 z) Q := w_te H
theorem u_X12_link_0 {x1 : Int32} {x2 : Int32} {x3 : Int32} {r0 : Nat} {t0 : Int32} {t1 : Int32} {z : ow_MS} {Q : ow_MS → Prop} (H : Tt (fun K k => qm_X12_link_0 K (q_X12_link K k) x1 x2 x3 r0 t0 t1 z) Q) : Tt (fun K k => q_X12_link K k 0 x1 x2 x3 r0 t0 t1 z) Q := w_un (fun _ _ => rfl) H
/-- link: components, neighbours, mates -/
theorem tn_link {n : Nat} {z : ow_MS} {A : rn_L} (hn : mw_net n) (hlen : A.flatten.length ≤ 40) (hcn : A.length ≤ 39) (hd : rn_d2 A.flatten) (hA : rn_At z n A []) : Te (fun K => qe_X12_link K n z) (fun z1 => fr (frL n) z z1 ∧ rn_At z1 n A [] ∧ rn_LI z1 n A A.flatten.length) := by
  have frA : ∀ {y y1 : ow_MS}, fr (frL n) y y1 → rn_At y n A [] → rn_At y1 n A [] := fun hf h => fr_At hf (fun g hg => by have := hg.1; omega) h
  let Q : ow_MS → Prop := fun z1 => fr (frL n) z z1 ∧ rn_At z1 n A [] ∧ rn_LI z1 n A A.flatten.length
  have inn : ∀ (c : Nat), c < A.length → (∀ z1, fr (frL n) z z1 → rn_At z1 n A [] → rn_LI z1 n A (rn_b A (c + 1)) → Tt (fun K k => q_X12_link K k 2 (nI (c + 1)) 0 0 n 0 0 z1) Q) → ∀ (d v : Nat) (z1 : ow_MS), v + d = rn_b A (c + 1) → rn_b A c ≤ v → fr (frL n) z z1 → rn_At z1 n A [] → rn_LI z1 n A v → Tt (fun K k => q_X12_link K k 3 (nI c) (nI v) 0 n 0 0 z1) Q := by
    intro c hc hout d
    have hbl := rn_b_le A (c + 1)
    induction d with
    | zero =>
      intro v z1 hv h1 hf hA hI
      have hv2 : v = rn_b A (c + 1) := by omega
      subst hv2
      have b1 : z1.2.1 (n + 3) (c + 1) = nI (rn_b A (c + 1)) := hA.2.2.1 (c + 1) (by omega)
      refine u_X12_link_3 ?_; unfold qm_X12_link_3
      refine w_rdI (pl3 hn) (nI_1 _) (by omega) b1 (w_leT (by omega) (Nat.le_refl _) ?_)
      rw [nI_1]
      exact hout z1 hf hA hI
    | succ d ih =>
      intro v z1 hv h1 hf hA hI
      have b0 : z1.2.1 (n + 3) c = nI (rn_b A c) := hA.2.2.1 c (by omega)
      have b1 : z1.2.1 (n + 3) (c + 1) = nI (rn_b A (c + 1)) := hA.2.2.1 (c + 1) (by omega)
      have h2 : v < rn_b A (c + 1) := by omega
      have hco := rn_c_of A c v h1 h2
      obtain ⟨p, hp⟩ : ∃ p, A.flatten[v]? = some p := ⟨_, List.getElem?_eq_getElem (by omega)⟩
      have hx := (hd.2 v p hp).1
      have hcr : z1.2.1 (n + 4) v = nI p.1 := (hA.2.2.2 v p (by rw [List.append_nil]; exact hp)).1
      have hz : usI (usI (usI z1 (n + 8) v (nI c)) (n + 9) v (nI (rn_nx A v))) (n + 10) v (nI (rn_pv A v)) = rn_z3 z1 n A v := by
        unfold rn_z3
        rw [hco]
      have r11 := (rn_z3_rows (z := z1) (n := n) (v := v) (A := A)).2.1
      have hnx : rn_nx A v = if v + 1 < rn_b A (c + 1) then v + 1 else rn_b A c := by
        unfold rn_nx
        rw [hco]
      have hpv : rn_pv A v = if rn_b A c < v then v - 1 else rn_b A (c + 1) - 1 := by
        unfold rn_pv
        rw [hco]
      have c6 : ∀ (x3 : Int32) (z2 : ow_MS), fr (frL n) z1 z2 → rn_LI z2 n A (v + 1) → Tt (fun K k => q_X12_link K k 6 (nI c) (nI v) x3 n 0 0 z2) Q := by
        intro x3 z2 hf2 hI2
        refine u_X12_link_6 ?_; unfold qm_X12_link_6
        rw [nI_1]
        exact ih (v + 1) z2 (by omega) (by omega) (fr_tr hf hf2) (frA hf2 hA) hI2
      have c5 : Tt (fun K k => q_X12_link K k 5 (nI c) (nI v) 0 n (nI (rn_pv A v)) (nI v) (usI (usI z1 (n + 8) v (nI c)) (n + 9) v (nI (rn_nx A v)))) Q := by
        refine u_X12_link_5 ?_; unfold qm_X12_link_5
        refine w_wrI (pl10 hn) rfl (by omega) ?_
        rw [hz]
        refine w_rdI (pl4 hn) rfl (by omega) (x := nI p.1) ?_ ?_
        · rw [(rn_z3_fr (n + 4) (by omega)).2.1]
          exact hcr
        · rcases hI.2.1 p.1 hx with ⟨j1, j2⟩ | ⟨w, p2, j1, j2, j3, j4⟩
          · refine w_rdI (pl11 hn) rfl hx (x := -1) (by rw [r11]; exact j1) (w_ifT rfl (w_wrI (pl11 hn) rfl hx ?_))
            exact c6 _ _ (fr_I2 rn_z3_fr ⟨by omega, by omega⟩) (rn_LI_a hI hp hx j1 (fun w p9 hw hp9 => j2 w p9 hw hp9))
          · refine w_rdI (pl11 hn) rfl hx (x := nI w) (by rw [r11]; exact j4) (w_ifF (rn_neg1 (by omega)) (w_rdI (pl11 hn) rfl hx (x := nI w) (by rw [r11]; exact j4) (w_wrI (pl7 hn) rfl (by omega) (w_rdI (pl11 hn) rfl hx (x := nI w) (rd_ot (by omega) (by rw [r11]; exact j4)) (w_wrI (pl7 hn) rfl (by omega) ?_)))))
            exact c6 _ _ (fr_I2 (fr_I2 rn_z3_fr ⟨by omega, by omega⟩) ⟨by omega, by omega⟩) (rn_LI_b hd hI hp hx j1 j2 j3)
      have c4 : Tt (fun K k => q_X12_link K k 4 (nI c) (nI v) 0 n (nI (rn_nx A v)) (nI v) (usI z1 (n + 8) v (nI c))) Q := by
        refine u_X12_link_4 ?_; unfold qm_X12_link_4
        refine w_wrI (pl9 hn) rfl (by omega) (w_rdI (pl3 hn) rfl (by omega) (rd_ot (by omega) (rd_ot (by omega) b0)) (w_le (by omega) (by omega) (fun hb => w_rdI (pl3 hn) (nI_1 _) (by omega) (rd_ot (by omega) (rd_ot (by omega) b1)) ?_) (fun hb => ?_)))
        · have e9 : nI (rn_b A (c + 1)) - 1 = nI (rn_pv A v) := by
            rw [hpv, if_neg (by omega)]
            exact pk_sub (b := 1) (by omega)
          rw [e9]
          exact c5
        · have e9 : nI v - 1 = nI (rn_pv A v) := by
            rw [hpv, if_pos hb]
            exact pk_sub (b := 1) (by omega)
          rw [e9]
          exact c5
      refine u_X12_link_3 ?_; unfold qm_X12_link_3
      refine w_rdI (pl3 hn) (nI_1 _) (by omega) b1 (w_leF (by omega) h2 (w_wrI (pl8 hn) rfl (by omega) (w_rdI (pl3 hn) (nI_1 _) (by omega) (rd_ot (by omega) b1) ?_)))
      rw [nI_1]
      refine w_le (by omega) (by omega) (fun hb => w_rdI (pl3 hn) rfl (by omega) (rd_ot (by omega) b0) ?_) (fun hb => ?_)
      · rw [hnx, if_neg (by omega)] at c4
        exact c4
      · rw [hnx, if_pos hb] at c4
        exact c4
  have out : ∀ (d c : Nat) (z1 : ow_MS), c + d = A.length → fr (frL n) z z1 → rn_At z1 n A [] → rn_LI z1 n A (rn_b A c) → Tt (fun K k => q_X12_link K k 2 (nI c) 0 0 n 0 0 z1) Q := by
    intro d
    induction d with
    | zero =>
      intro c z1 hc hf hA hI
      have hc2 : c = A.length := by omega
      subst hc2
      refine u_X12_link_2 ?_; unfold qm_X12_link_2
      rw [rn_b_len] at hI
      exact w_rdF hA.2.1 (w_leT (by omega) (Nat.le_refl _) (w_some ⟨hf, hA, hI⟩))
    | succ d ih =>
      intro c z1 hc hf hA hI
      have hm := rn_b_mono A c
      refine u_X12_link_2 ?_; unfold qm_X12_link_2
      exact w_rdF hA.2.1 (w_leF (by omega) (by omega) (w_rdI (pl3 hn) rfl (by omega) (hA.2.2.1 c (by omega)) (inn c (by omega) (fun z2 h1 h2 h3 => ih (c + 1) z2 (by omega) h1 h2 h3) (rn_b A (c + 1) - rn_b A c) (rn_b A c) z1 (by omega) (Nat.le_refl _) hf hA hI)))
  have zer : ∀ (d i : Nat) (z1 : ow_MS), i + d = 40 → fr (frL n) z z1 → (∀ x, x < i → z1.2.1 (n + 11) x = -1) → Tt (fun K k => q_X12_link K k 1 (nI i) 0 0 n 0 0 z1) Q := by
    intro d
    induction d with
    | zero =>
      intro i z1 hi hf hx
      refine u_X12_link_1 ?_; unfold qm_X12_link_1
      refine w_leT (a := 40) (by omega) (by omega) (out A.length 0 z1 (by omega) hf (frA hf hA) ⟨fun v hv => by rw [rn_b0] at hv; omega, fun x hx2 => Or.inl ⟨hx x (by omega), fun v p hv => by rw [rn_b0] at hv; omega⟩, fun v w hv => by rw [rn_b0] at hv; omega⟩)
    | succ d ih =>
      intro i z1 hi hf hx
      refine u_X12_link_1 ?_; unfold qm_X12_link_1
      refine w_leF (a := 40) (by omega) (by omega) (w_wrI (pl11 hn) rfl (by omega) ?_)
      rw [nI_1]
      refine ih (i + 1) _ (by omega) (fr_I2 hf ⟨by omega, by omega⟩) (fun x hx2 => ?_)
      by_cases hxi : x = i
      · rw [hxi]
        exact po_usI_at
      · exact rd_ne hxi (hx x (by omega))
  refine e_X12_link ?_
  refine u_X12_link_0 ?_; unfold qm_X12_link_0
  exact zer 40 0 z (by omega) fr_rf (fun x hx => by omega)
end
section
/-! 99zzd.split -/
def rn_cU (M : Nat → Int32) : Nat → Nat
  | 0 => 0
  | n + 1 => rn_cU M n + if M n = -1 then 1 else 0
theorem rn_cU_ge {M : Nat → Int32} {b : Nat} {x : Int32} : ∀ n, n ≤ b → rn_cU (upd M b x) n = rn_cU M n
  | 0, _ => rfl
  | n + 1, h => by
    unfold rn_cU
    rw [rn_cU_ge n (by omega), pk_un (by omega)]
theorem rn_cU_upd {M : Nat → Int32} {b : Nat} {x : Int32} (hM : M b = -1) (hx : x ≠ -1) : ∀ n, b < n → rn_cU (upd M b x) n + 1 = rn_cU M n
  | 0, h => by omega
  | n + 1, h => by
    unfold rn_cU
    by_cases hb : b = n
    · subst hb
      rw [rn_cU_ge b (Nat.le_refl _), pk_us, if_neg hx, hM, if_pos rfl]
    · have := rn_cU_upd hM hx n (by omega)
      rw [pk_un (fun e => hb e.symm)]
      omega
/-- every visit has a mate, and only one -/
def rn_ok (F : List (Nat × Nat)) : Prop := rn_d2 F ∧ ∀ v, v < F.length → ∃ w, rn_mt F v w
theorem rn_mt_lt {F : List (Nat × Nat)} {v w : Nat} (h : rn_mt F v w) : v < F.length ∧ w < F.length := by
  obtain ⟨-, p, q, h1, h2, -⟩ := h
  exact ⟨(List.getElem?_eq_some_iff.mp h1).1, (List.getElem?_eq_some_iff.mp h2).1⟩
/-- components that share a crossing -/
def rn_adj (A : rn_L) (a b : Nat) : Prop := ∃ v w, rn_mt A.flatten v w ∧ rn_c A v = a ∧ rn_c A w = b
theorem rn_adj.symm {A : rn_L} {a b : Nat} (h : rn_adj A a b) : rn_adj A b a := by
  obtain ⟨v, w, h1, h2, h3⟩ := h
  exact ⟨w, v, h1.symm, h3, h2⟩
def rn_con (A : rn_L) (a b : Nat) : Prop := ∀ S : Nat → Prop, S a → (∀ x y, S x → rn_adj A x y → S y) → S b
theorem rn_con.rf {A : rn_L} {a : Nat} : rn_con A a a := fun _ h _ => h
theorem rn_con.tr {A : rn_L} {a b c : Nat} (h1 : rn_con A a b) (h2 : rn_con A b c) : rn_con A a c := fun S hs hc => h2 S (h1 S hs hc) hc
theorem rn_con.st {A : rn_L} {a b c : Nat} (h1 : rn_con A a b) (h2 : rn_adj A b c) : rn_con A a c := fun S hs hc => hc b c (h1 S hs hc) h2
theorem rn_con.symm {A : rn_L} {a b : Nat} (h : rn_con A a b) : rn_con A b a := h (fun x => rn_con A x a) rn_con.rf (fun x y hx hxy => fun S hs hc => hx S (hc y x hs hxy.symm) hc)
/-- what split reads: a linked net -/
def rn_lk (z : ow_MS) (n : Nat) (A : rn_L) : Prop := rn_At z n A [] ∧ rn_LI z n A A.flatten.length
theorem fr_lk {P : Nat → Prop} {z z1 : ow_MS} {n : Nat} {A : rn_L} (hf : fr P z z1) (hP : ∀ g, P g → g < n + 1 ∨ n + 5 < g ∧ g < n + 7 ∨ n + 11 < g) (h : rn_lk z n A) : rn_lk z1 n A := by
  obtain ⟨h0, i1, i2, i3⟩ := h
  have e : ∀ g, n + 7 ≤ g → g ≤ n + 11 → z1.2.1 g = z.2.1 g := fun g h1 h2 => (hf g (fun h9 => by have := hP g h9; omega)).2.1
  refine ⟨fr_At hf (fun g hg => by have := hP g hg; omega) h0, fun v hv => ?_, fun x hx => ?_, fun v w hv hw hm => ?_⟩
  · rw [e _ (by omega) (by omega), e (n + 9) (by omega) (by omega), e (n + 10) (by omega) (by omega)]; exact i1 v hv
  · rw [e _ (by omega) (by omega)]; exact i2 x hx
  · rw [e _ (by omega) (by omega)]; exact i3 v w hv hw hm
theorem rn_lk.V {z : ow_MS} {n : Nat} {A : rn_L} (h : rn_lk z n A) : z.1 (n + 1) = nI A.flatten.length := by
  rw [h.1.1, List.append_nil]
/-- the marks while part P grows from component c0 -/
def rn_SI (A : rn_L) (M : Nat → Int32) (P c0 : Nat) : Prop := (∀ c, c < A.length → M c = -1 ∨ ∃ p, p ≤ P ∧ M c = nI p) ∧ (∀ a b p, p < P → rn_adj A a b → M a = nI p → M b = nI p) ∧ (∀ a b p, p < P → a < A.length → b < A.length → M a = nI p → M b = nI p → rn_con A a b) ∧ M c0 = nI P ∧ (∀ b, b < A.length → M b = nI P → rn_con A c0 b) ∧ ∀ p, p < P → ∃ a, a < A.length ∧ M a = nI p
theorem rn_SI_st {A : rn_L} {M : Nat → Int32} {P c0 v w : Nat} (hP : P < 39) (hm : rn_mt A.flatten v w) (ca : rn_c A v < A.length) (c1 : M (rn_c A v) = nI P) (c2 : M (rn_c A w) = -1) (hS : rn_SI A M P c0) : rn_SI A (upd M (rn_c A w) (nI P)) P c0 := by
  have hne : nI P ≠ -1 := rn_neg1 (by omega)
  have hadj : rn_adj A (rn_c A v) (rn_c A w) := ⟨v, w, hm, rfl, rfl⟩
  obtain ⟨a1, a2, a3, a4, a5, a6⟩ := hS
  refine ⟨fun c hc => ?_, fun a b p hp hab ha => ?_, fun a b p hp ha hb hma hmb => ?_, ?_, fun b hb hmb => ?_, fun p hp => ?_⟩
  · by_cases hcw : c = rn_c A w
    · rw [hcw]
      exact Or.inr ⟨P, Nat.le_refl _, pk_us⟩
    · rw [pk_un hcw]
      exact a1 c hc
  · by_cases haw : a = rn_c A w
    · rw [haw, pk_us] at ha
      have := (nI_eq (a := P) (b := p) (by omega) (by omega)).mp ha
      omega
    · rw [pk_un haw] at ha
      have hb := a2 a b p hp hab ha
      by_cases hbw : b = rn_c A w
      · rw [hbw, c2] at hb
        exact absurd hb.symm (rn_neg1 (by omega))
      · rw [pk_un hbw]
        exact hb
  · have haw : a ≠ rn_c A w := fun e => by
      rw [e, pk_us] at hma
      have := (nI_eq (a := P) (b := p) (by omega) (by omega)).mp hma
      omega
    have hbw : b ≠ rn_c A w := fun e => by
      rw [e, pk_us] at hmb
      have := (nI_eq (a := P) (b := p) (by omega) (by omega)).mp hmb
      omega
    rw [pk_un haw] at hma
    rw [pk_un hbw] at hmb
    exact a3 a b p hp ha hb hma hmb
  · rw [pk_un (fun e => by rw [← e, a4] at c2; exact hne c2)]
    exact a4
  · by_cases hbw : b = rn_c A w
    · rw [hbw]
      exact (a5 _ ca c1).st hadj
    · rw [pk_un hbw] at hmb
      exact a5 b hb hmb
  · obtain ⟨a, ha, hma⟩ := a6 p hp
    refine ⟨a, ha, ?_⟩
    rw [pk_un (fun e => by rw [e, c2] at hma; exact rn_neg1 (v := p) (by omega) hma.symm)]
    exact hma
/-- the marks when parts below P are done -/
def rn_SD (A : rn_L) (M : Nat → Int32) (P : Nat) : Prop := (∀ c, c < A.length → M c = -1 ∨ ∃ p, p < P ∧ M c = nI p) ∧ (∀ a b p, p < P → rn_adj A a b → M a = nI p → M b = nI p) ∧ (∀ a b p, p < P → a < A.length → b < A.length → M a = nI p → M b = nI p → rn_con A a b) ∧ ∀ p, p < P → ∃ a, a < A.length ∧ M a = nI p
theorem rn_SI_SD {A : rn_L} {M : Nat → Int32} {P c0 : Nat} (hP : P < 39) (hc0 : c0 < A.length) (hS : rn_SI A M P c0) (hcl : ∀ v w, v < A.flatten.length → rn_mt A.flatten v w → M (rn_c A v) = nI P → M (rn_c A w) ≠ -1) : rn_SD A M (P + 1) := by
  obtain ⟨a1, a2, a3, a4, a5, a6⟩ := hS
  refine ⟨fun c hc => (a1 c hc).imp id (fun ⟨p, hp, e⟩ => ⟨p, by omega, e⟩), fun a b p hp hab ha => ?_, fun a b p hp ha hb hma hmb => ?_, fun p hp => ?_⟩
  · by_cases hpP : p < P
    · exact a2 a b p hpP hab ha
    · have hpe : P = p := by omega
      subst hpe
      obtain ⟨v, w, hm, rfl, rfl⟩ := hab
      have hnb := hcl v w (rn_mt_lt hm).1 hm ha
      rcases a1 (rn_c A w) (rn_c_in A w (rn_mt_lt hm).2).1 with e | ⟨p, hp2, e⟩
      · exact absurd e hnb
      · by_cases hpp : p = P
        · rw [← hpp]
          exact e
        · have h9 := a2 _ _ p (by omega) (rn_adj.symm ⟨v, w, hm, rfl, rfl⟩) e
          rw [ha] at h9
          have := (nI_eq (a := P) (b := p) (by omega) (by omega)).mp h9
          omega
  · by_cases hpP : p < P
    · exact a3 a b p hpP ha hb hma hmb
    · have hpe : P = p := by omega
      subst hpe
      exact (a5 a ha hma).symm.tr (a5 b hb hmb)
  · by_cases hpP : p < P
    · exact a6 p hpP
    · have hpe : P = p := by omega
      subst hpe
      exact ⟨c0, hc0, a4⟩
theorem rn_SI_0 {A : rn_L} {M : Nat → Int32} {P c : Nat} (hP : P < 39) (c1 : M c = -1) (hS : rn_SD A M P) : rn_SI A (upd M c (nI P)) P c := by
  have hne : nI P ≠ -1 := rn_neg1 (by omega)
  obtain ⟨a1, a2, a3, a4⟩ := hS
  have nc : ∀ a p, p < P → upd (M) c (nI P) a = nI p → a ≠ c ∧ M a = nI p := by
    intro a p hp ha
    have hac : a ≠ c := fun e => by
      rw [e, pk_us] at ha
      have := (nI_eq (a := P) (b := p) (by omega) (by omega)).mp ha
      omega
    rw [pk_un hac] at ha
    exact ⟨hac, ha⟩
  refine ⟨fun b hb => ?_, fun a b p hp hab ha => ?_, fun a b p hp ha hb hma hmb => ?_, pk_us, fun b hb hmb => ?_, fun p hp => ?_⟩
  · by_cases hbc : b = c
    · rw [hbc]
      exact Or.inr ⟨P, Nat.le_refl _, pk_us⟩
    · rw [pk_un hbc]
      exact (a1 b hb).imp id (fun ⟨p, hp, e⟩ => ⟨p, by omega, e⟩)
  · have hb := a2 a b p hp hab (nc a p hp ha).2
    have hbc : b ≠ c := fun e => by
      rw [e, c1] at hb
      exact rn_neg1 (v := p) (by omega) hb.symm
    rw [pk_un hbc]
    exact hb
  · exact a3 a b p hp ha hb (nc a p hp hma).2 (nc b p hp hmb).2
  · by_cases hbc : b = c
    · rw [hbc]
      exact rn_con.rf
    · rw [pk_un hbc] at hmb
      rcases a1 b hb with e | ⟨p, hp, e⟩
      · rw [e] at hmb
        exact absurd hmb.symm hne
      · rw [e] at hmb
        have := (nI_eq (a := p) (b := P) (by omega) (by omega)).mp hmb
        omega
  · obtain ⟨a, ha, hma⟩ := a4 p hp
    refine ⟨a, ha, ?_⟩
    rw [pk_un (fun e => by rw [e, c1] at hma; exact rn_neg1 (v := p) (by omega) hma.symm)]
    exact hma
/-- the parts of a linked net -/
def rn_pt (z : ow_MS) (n : Nat) (A : rn_L) (P : Nat) : Prop := z.1 (n + 13) = nI P ∧ P ≤ A.length ∧ rn_SD A (z.2.1 (n + 12)) P ∧ ∀ c, c < A.length → z.2.1 (n + 12) c ≠ -1
abbrev frP (n g : Nat) : Prop := g = n + 12 ∨ g = n + 13
theorem u_X12_split_4 {x1 : Int32} {x2 : Int32} {x3 : Int32} {r0 : Nat} {z : ow_MS} {Q : ow_MS → Prop} (H : Tt (fun K k => qm_X12_split_4 K (q_X12_split K k) x1 x2 x3 r0 z) Q) : Tt (fun K k => q_X12_split K k 4 x1 x2 x3 r0 z) Q := w_un (fun _ _ => rfl) H
theorem u_X12_split_5 {x1 : Int32} {x2 : Int32} {x3 : Int32} {r0 : Nat} {z : ow_MS} {Q : ow_MS → Prop} (H : Tt (fun K k => qm_X12_split_5 K (q_X12_split K k) x1 x2 x3 r0 z) Q) : Tt (fun K k => q_X12_split K k 5 x1 x2 x3 r0 z) Q := w_un (fun _ _ => rfl) H
theorem u_X12_split_3 {x1 : Int32} {x2 : Int32} {x3 : Int32} {r0 : Nat} {z : ow_MS} {Q : ow_MS → Prop} (H : Tt (fun K k => qm_X12_split_3 K (q_X12_split K k) x1 x2 x3 r0 z) Q) : Tt (fun K k => q_X12_split K k 3 x1 x2 x3 r0 z) Q := w_un (fun _ _ => rfl) H
theorem u_X12_split_2 {x1 : Int32} {x2 : Int32} {x3 : Int32} {r0 : Nat} {z : ow_MS} {Q : ow_MS → Prop} (H : Tt (fun K k => qm_X12_split_2 K (q_X12_split K k) x1 x2 x3 r0 z) Q) : Tt (fun K k => q_X12_split K k 2 x1 x2 x3 r0 z) Q := w_un (fun _ _ => rfl) H
theorem u_X12_split_6 {x1 : Int32} {x2 : Int32} {x3 : Int32} {r0 : Nat} {z : ow_MS} {Q : ow_MS → Prop} (H : Tt (fun K k => qm_X12_split_6 K (q_X12_split K k) x1 x2 x3 r0 z) Q) : Tt (fun K k => q_X12_split K k 6 x1 x2 x3 r0 z) Q := w_un (fun _ _ => rfl) H
theorem u_X12_split_1 {x1 : Int32} {x2 : Int32} {x3 : Int32} {r0 : Nat} {z : ow_MS} {Q : ow_MS → Prop} (H : Tt (fun K k => qm_X12_split_1 K (q_X12_split K k) x1 x2 x3 r0 z) Q) : Tt (fun K k => q_X12_split K k 1 x1 x2 x3 r0 z) Q := w_un (fun _ _ => rfl) H
theorem e_X12_split {r0 : Nat} {z : ow_MS} {Q : ow_MS → Prop} (H : Tt (fun K k => q_X12_split K k 0 0 0 0 r0 z) Q) : Te (fun K => qe_X12_split K r0 z) Q := w_te H
theorem u_X12_split_0 {x1 : Int32} {x2 : Int32} {x3 : Int32} {r0 : Nat} {z : ow_MS} {Q : ow_MS → Prop} (H : Tt (fun K k => qm_X12_split_0 K (q_X12_split K k) x1 x2 x3 r0 z) Q) : Tt (fun K k => q_X12_split K k 0 x1 x2 x3 r0 z) Q := w_un (fun _ _ => rfl) H
/-- split: the parts -/
theorem tn_split {n : Nat} {z : ow_MS} {A : rn_L} (hn : mw_net n) (hlen : A.flatten.length ≤ 40) (hcn : A.length ≤ 39) (hd : rn_ok A.flatten) (hL : rn_lk z n A) : Te (fun K => qe_X12_split K n z) (fun z1 => fr (frP n) z z1 ∧ ∃ P, rn_pt z1 n A P) := by
  have frK : ∀ {y y1 : ow_MS}, fr (frP n) y y1 → rn_lk y n A → rn_lk y1 n A := fun hf h => fr_lk hf (fun g hg => by rcases hg with hg | hg <;> omega) h
  let Q : ow_MS → Prop := fun z1 => fr (frP n) z z1 ∧ ∃ P, rn_pt z1 n A P
  have pass : ∀ (c0 P : Nat), P < 39 → c0 < A.length → ∀ (M0 : Nat → Int32), ∀ (d v : Nat) (g : Int32) (z1 : ow_MS), v + d = A.flatten.length → fr (frP n) z z1 → z1.1 (n + 13) = nI P → rn_SI A (z1.2.1 (n + 12)) P c0 → (g = 0 → ∀ v' w, v' < v → rn_mt A.flatten v' w → z1.2.1 (n + 12) (rn_c A v') = nI P → z1.2.1 (n + 12) (rn_c A w) ≠ -1) → (g = 0 ∧ rn_cU (z1.2.1 (n + 12)) A.length ≤ rn_cU M0 A.length ∨ g = 1 ∧ rn_cU (z1.2.1 (n + 12)) A.length < rn_cU M0 A.length) → (∀ c, M0 c ≠ -1 → z1.2.1 (n + 12) c = M0 c) →
      (∀ (g1 : Int32) (z2 : ow_MS), fr (frP n) z z2 → z2.1 (n + 13) = nI P → rn_SI A (z2.2.1 (n + 12)) P c0 → (g1 = 0 → ∀ v' w, v' < A.flatten.length → rn_mt A.flatten v' w → z2.2.1 (n + 12) (rn_c A v') = nI P → z2.2.1 (n + 12) (rn_c A w) ≠ -1) → (g1 = 0 ∧ rn_cU (z2.2.1 (n + 12)) A.length ≤ rn_cU M0 A.length ∨ g1 = 1 ∧ rn_cU (z2.2.1 (n + 12)) A.length < rn_cU M0 A.length) → (∀ c, M0 c ≠ -1 → z2.2.1 (n + 12) c = M0 c) → Tt (fun K k => q_X12_split K k 3 (nI c0) g1 0 n z2) Q) → Tt (fun K k => q_X12_split K k 4 (nI c0) g (nI v) n z1) Q := by
    intro c0 P hP hc0 M0 d
    induction d with
    | zero =>
      intro v g z1 hv hf h13 hS hq hcu hmo hout
      have hv2 : v = A.flatten.length := by omega
      subst hv2
      refine u_X12_split_4 ?_; unfold qm_X12_split_4
      exact w_rdF (frK hf hL).V (w_leT (by omega) (Nat.le_refl _) (hout g z1 hf h13 hS hq hcu hmo))
    | succ d ih =>
      intro v g z1 hv hf h13 hS hq hcu hmo hout
      have hL1 := frK hf hL
      have hvl : v < A.flatten.length := by omega
      obtain ⟨w, hm⟩ := hd.2 v hvl
      have hwl := (rn_mt_lt hm).2
      obtain ⟨ca, -, -⟩ := rn_c_in A v hvl
      obtain ⟨cb, -, -⟩ := rn_c_in A w hwl
      have e8 := (hL1.2.1 v hvl).1
      have e8w := (hL1.2.1 w hwl).1
      have e7 := hL1.2.2.2 v w hvl hwl hm
      have uniq : ∀ w', rn_mt A.flatten v w' → w' = w := fun w' h9 => hd.1.1 v w' w h9 hm
      have hne : nI P ≠ -1 := rn_neg1 (by omega)
      refine u_X12_split_4 ?_; unfold qm_X12_split_4
      refine w_rdF hL1.V (w_leF (by omega) hvl (w_rdI (pl8 hn) rfl (by omega) e8 (w_rdI (pl12 hn) rfl (by omega) rfl (w_rdF h13 (w_if (fun c1 => w_rdI (pl7 hn) rfl (by omega) e7 (w_rdI (pl8 hn) rfl (by omega) e8w (w_rdI (pl12 hn) rfl (by omega) rfl (w_if (fun c2 => w_rdI (pl7 hn) rfl (by omega) e7 (w_rdI (pl8 hn) rfl (by omega) e8w (w_rdF h13 (w_wrI (pl12 hn) rfl (by omega) ?_)))) (fun c2 => ?_))))) (fun c1 => ?_))))))
      · refine u_X12_split_5 ?_; unfold qm_X12_split_5
        rw [nI_1]
        have cu := rn_cU_upd (M := z1.2.1 (n + 12)) (x := nI P) c2 hne A.length cb
        refine ih (v + 1) 1 _ (by omega) (fr_I2 hf (Or.inl rfl)) h13 (by rw [po_usI_row]; exact rn_SI_st hP hm ca c1 c2 hS) (fun h9 => absurd h9 (by decide)) (Or.inr ⟨rfl, by rw [po_usI_row]; omega⟩) (fun c hc => ?_) hout
        have hcw : c ≠ rn_c A w := fun e => hc (by rw [← hmo c hc, e]; exact c2)
        exact rd_ne hcw (hmo c hc)
      · refine u_X12_split_5 ?_; unfold qm_X12_split_5
        rw [nI_1]
        refine ih (v + 1) g z1 (by omega) hf h13 hS (fun h9 v' w' hv' hm' hM => ?_) hcu hmo hout
        by_cases hvv : v' = v
        · rw [hvv] at hm'
          rw [uniq w' hm']
          exact c2
        · exact hq h9 v' w' (by omega) hm' hM
      · refine u_X12_split_5 ?_; unfold qm_X12_split_5
        rw [nI_1]
        refine ih (v + 1) g z1 (by omega) hf h13 hS (fun h9 v' w' hv' hm' hM => ?_) hcu hmo hout
        by_cases hvv : v' = v
        · rw [hvv] at hM
          exact absurd hM c1
        · exact hq h9 v' w' (by omega) hm' hM
  have wh : ∀ (c0 P : Nat), P < 39 → c0 < A.length → ∀ (u : Nat) (z1 : ow_MS), rn_cU (z1.2.1 (n + 12)) A.length ≤ u → fr (frP n) z z1 → z1.1 (n + 13) = nI P → rn_SI A (z1.2.1 (n + 12)) P c0 →
      (∀ (z2 : ow_MS), fr (frP n) z z2 → z2.1 (n + 13) = nI (P + 1) → rn_SD A (z2.2.1 (n + 12)) (P + 1) → (∀ c, z1.2.1 (n + 12) c ≠ -1 → z2.2.1 (n + 12) c = z1.2.1 (n + 12) c) → Tt (fun K k => q_X12_split K k 6 (nI c0) 0 0 n z2) Q) → Tt (fun K k => q_X12_split K k 3 (nI c0) 1 0 n z1) Q := by
    intro c0 P hP hc0 u
    induction u with
    | zero =>
      intro z1 hu hf h13 hS hout
      refine u_X12_split_3 ?_; unfold qm_X12_split_3
      refine w_ifF (by decide) (pass c0 P hP hc0 (z1.2.1 (n + 12)) A.flatten.length 0 0 z1 (by omega) hf h13 hS (fun _ v' w hv => by omega) (Or.inl ⟨rfl, Nat.le_refl _⟩) (fun _ _ => rfl) (fun g1 z2 hf2 h132 hS2 hq2 hcu2 hmo2 => ?_))
      rcases hcu2 with ⟨e, hcu⟩ | ⟨e, hcu⟩
      · subst e
        refine u_X12_split_3 ?_; unfold qm_X12_split_3
        refine w_ifT rfl (w_rdF h132 (w_wrF ?_))
        rw [nI_1]
        exact hout _ (fr_F2 hf2 (Or.inr rfl)) po_usF_at (rn_SI_SD hP hc0 hS2 (hq2 rfl)) hmo2
      · omega
    | succ u ih =>
      intro z1 hu hf h13 hS hout
      refine u_X12_split_3 ?_; unfold qm_X12_split_3
      refine w_ifF (by decide) (pass c0 P hP hc0 (z1.2.1 (n + 12)) A.flatten.length 0 0 z1 (by omega) hf h13 hS (fun _ v' w hv => by omega) (Or.inl ⟨rfl, Nat.le_refl _⟩) (fun _ _ => rfl) (fun g1 z2 hf2 h132 hS2 hq2 hcu2 hmo2 => ?_))
      rcases hcu2 with ⟨e, hcu⟩ | ⟨e, hcu⟩
      · subst e
        refine u_X12_split_3 ?_; unfold qm_X12_split_3
        refine w_ifT rfl (w_rdF h132 (w_wrF ?_))
        rw [nI_1]
        exact hout _ (fr_F2 hf2 (Or.inr rfl)) po_usF_at (rn_SI_SD hP hc0 hS2 (hq2 rfl)) hmo2
      · subst e
        exact ih z2 (by omega) hf2 h132 hS2 (fun z3 a1 a2 a3 a4 => hout z3 a1 a2 a3 (fun c hc => by
          have e9 := hmo2 c hc
          rw [a4 c (by rw [e9]; exact hc), e9]))
  have out : ∀ (d c P : Nat) (z1 : ow_MS), c + d = A.length → P ≤ c → fr (frP n) z z1 → z1.1 (n + 13) = nI P → rn_SD A (z1.2.1 (n + 12)) P → (∀ c', c' < c → z1.2.1 (n + 12) c' ≠ -1) → Tt (fun K k => q_X12_split K k 2 (nI c) 0 0 n z1) Q := by
    intro d
    induction d with
    | zero =>
      intro c P z1 hc hP hf h13 hS hm
      refine u_X12_split_2 ?_; unfold qm_X12_split_2
      exact w_rdF (frK hf hL).1.2.1 (w_leT (by omega) (by omega) (w_some ⟨hf, P, h13, by omega, hS, fun c' hc' => hm c' (by omega)⟩))
    | succ d ih =>
      intro c P z1 hc hP hf h13 hS hm
      have hcl : c < A.length := by omega
      have hne : nI P ≠ -1 := rn_neg1 (by omega)
      refine u_X12_split_2 ?_; unfold qm_X12_split_2
      refine w_rdF (frK hf hL).1.2.1 (w_leF (by omega) (by omega) (w_rdI (pl12 hn) rfl (by omega) rfl (w_if (fun c1 => w_rdF h13 (w_wrI (pl12 hn) rfl (by omega) (wh c P (by omega) hcl _ _ (Nat.le_refl _) (fr_I2 hf (Or.inl rfl)) h13 (by rw [po_usI_row]; exact rn_SI_0 (by omega) c1 hS) (fun z2 hf2 h132 hS2 hmo => ?_)))) (fun c1 => ?_))))
      · refine u_X12_split_6 ?_; unfold qm_X12_split_6
        rw [nI_1]
        rw [po_usI_row] at hmo
        refine ih (c + 1) (P + 1) z2 (by omega) (by omega) hf2 h132 hS2 (fun c' hc' => ?_)
        by_cases hce : c' = c
        · rw [hce, hmo c (by rw [pk_us]; exact hne), pk_us]
          exact hne
        · have e9 := pk_un (f := z1.2.1 (n + 12)) (x := nI P) hce
          have h9 := hm c' (by omega)
          rw [hmo c' (by rw [e9]; exact h9), e9]
          exact h9
      · refine u_X12_split_6 ?_; unfold qm_X12_split_6
        rw [nI_1]
        refine ih (c + 1) P z1 (by omega) (by omega) hf h13 hS (fun c' hc' => ?_)
        by_cases hce : c' = c
        · rw [hce]
          exact c1
        · exact hm c' (by omega)
  have zer : ∀ (d c : Nat) (z1 : ow_MS), c + d = A.length → fr (frP n) z z1 → (∀ c', c' < c → z1.2.1 (n + 12) c' = -1) → Tt (fun K k => q_X12_split K k 1 (nI c) 0 0 n z1) Q := by
    intro d
    induction d with
    | zero =>
      intro c z1 hc hf hm
      refine u_X12_split_1 ?_; unfold qm_X12_split_1
      refine w_rdF (frK hf hL).1.2.1 (w_leT (by omega) (by omega) (w_wrF (out A.length 0 0 _ (by omega) (Nat.le_refl _) (fr_F2 hf (Or.inr rfl)) po_usF_at ⟨fun c hc => Or.inl (hm c (by omega)), fun a b p hp => by omega, fun a b p hp => by omega, fun p hp => by omega⟩ (fun c hc => by omega))))
    | succ d ih =>
      intro c z1 hc hf hm
      refine u_X12_split_1 ?_; unfold qm_X12_split_1
      refine w_rdF (frK hf hL).1.2.1 (w_leF (by omega) (by omega) (w_wrI (pl12 hn) rfl (by omega) ?_))
      rw [nI_1]
      refine ih (c + 1) _ (by omega) (fr_I2 hf (Or.inl rfl)) (fun c' hc' => ?_)
      by_cases hce : c' = c
      · rw [hce]
        exact po_usI_at
      · exact rd_ne hce (hm c' (by omega))
  refine e_X12_split ?_
  refine u_X12_split_0 ?_; unfold qm_X12_split_0
  exact zer A.length 0 z (by omega) fr_rf (fun c hc => by omega)
end
section
/-! 99zze.walk -/
/-! the reference's nets: walk (its faces are counted), isCircle, isPlane -/
theorem rn_nx_lt {A : rn_L} {v : Nat} (hv : v < A.flatten.length) : rn_nx A v < A.flatten.length := by
  obtain ⟨h1, h2, h3⟩ := rn_c_in A v hv
  have h4 := rn_b_le A (rn_c A v + 1)
  unfold rn_nx
  by_cases h : v + 1 < rn_b A (rn_c A v + 1)
  · rw [if_pos h]; omega
  · rw [if_neg h]; omega
theorem rn_pv_lt {A : rn_L} {v : Nat} (hv : v < A.flatten.length) : rn_pv A v < A.flatten.length := by
  obtain ⟨h1, h2, h3⟩ := rn_c_in A v hv
  have h4 := rn_b_le A (rn_c A v + 1)
  unfold rn_pv
  by_cases h : rn_b A (rn_c A v) < v
  · rw [if_pos h]; omega
  · rw [if_neg h]; omega
theorem rn_and1 {a : Nat} (ha : a < 2 ^ 31) : nI a &&& 1 = nI (a % 2) := pk_andN (n := a) (by omega) (m := 1) 1 (by decide)
theorem rn_shr1 {a : Nat} (ha : a < 2 ^ 31) : nI a >>> ((1 : Int32) &&& 31) = nI (a / 2) := pk_shrN (n := a) ha ((1 : Int32) &&& 31) 1 (by decide)
theorem rn_mul2 {a : Nat} : 2 * nI a = nI (2 * a) := pk_mul 2 a
def cE (M : Nat → Int32) (x : Int32) : Nat → Nat
  | 0 => 0
  | n + 1 => cE M x n + if M n = x then 1 else 0
theorem cE_ge {M : Nat → Int32} {b : Nat} {x y : Int32} : ∀ n, n ≤ b → cE (upd M b y) x n = cE M x n
  | 0, _ => rfl
  | n + 1, h => by
    unfold cE
    rw [cE_ge n (by omega), pk_un (by omega)]
theorem cE_up {M : Nat → Int32} {b : Nat} {x : Int32} (hM : M b ≠ x) : ∀ n, b < n → cE (upd M b x) x n = cE M x n + 1
  | 0, h => by omega
  | n + 1, h => by
    unfold cE
    by_cases hb : b = n
    · subst hb
      rw [cE_ge b (Nat.le_refl _), pk_us, if_pos rfl, if_neg hM]
    · have := cE_up hM n (by omega)
      rw [pk_un (fun e => hb e.symm)]
      omega
theorem cE_ne {M : Nat → Int32} {b : Nat} {x y : Int32} (hM : M b ≠ x) (hy : y ≠ x) : ∀ n, cE (upd M b y) x n = cE M x n
  | 0 => rfl
  | n + 1 => by
    unfold cE
    rw [cE_ne hM hy n]
    by_cases hb : n = b
    · rw [hb, pk_us, if_neg hy, if_neg hM]
    · rw [pk_un hb]
theorem cE_zero {M : Nat → Int32} {x : Int32} : ∀ n, (∀ s, s < n → M s ≠ x) → cE M x n = 0
  | 0, _ => rfl
  | n + 1, h => by
    unfold cE
    rw [cE_zero n (fun s hs => h s (by omega)), if_neg (h n (by omega))]
theorem cE_le {M : Nat → Int32} {x : Int32} : ∀ n, cE M x n ≤ n
  | 0 => Nat.le_refl _
  | n + 1 => by
    have := cE_le (M := M) (x := x) n
    unfold cE
    by_cases h : M n = x
    · rw [if_pos h]; omega
    · rw [if_neg h]; omega
/-- the faces of a net with V visits -/
def rn_fc (z : ow_MS) (n V F : Nat) : Prop := z.1 (n + 16) = nI F ∧ F ≤ 2 * V ∧ (∀ s, s < 2 * V → ∃ f, f < F ∧ z.2.1 (n + 14) s = nI f) ∧ ∀ f, f < F → z.2.1 (n + 15) f = nI (cE (z.2.1 (n + 14)) (nI f) (2 * V))
abbrev frW (n g : Nat) : Prop := g = n + 14 ∨ g = n + 15 ∨ g = n + 16
def wkI (V f : Nat) (M S : Nat → Int32) : Prop := (∀ s, s < 2 * V → M s = -1 ∨ ∃ f', f' < f + 1 ∧ M s = nI f') ∧ ∀ f', f' < f + 1 → S f' = nI (cE M (nI f') (2 * V))
def wkO (V f : Nat) (M S : Nat → Int32) : Prop := (∀ s, s < 2 * V → M s = -1 ∨ ∃ f', f' < f ∧ M s = nI f') ∧ ∀ f', f' < f → S f' = nI (cE M (nI f') (2 * V))
theorem wkI_0 {V f : Nat} {M S : Nat → Int32} (hf : f < 2 ^ 30) (h : wkO V f M S) : wkI V f M (upd S f 0) := by
  refine ⟨fun s hs => (h.1 s hs).imp id (fun ⟨f', h1, h2⟩ => ⟨f', by omega, h2⟩), fun f' hf' => ?_⟩
  by_cases he : f' = f
  · rw [he, pk_us, cE_zero]
    · rfl
    · intro s hs e
      rcases h.1 s hs with h1 | ⟨f9, h1, h2⟩
      · rw [e] at h1
        exact rn_neg1 (by omega) h1
      · rw [e] at h2
        have := (nI_eq (by omega) (by omega)).mp h2
        omega
  · rw [pk_un he]
    exact h.2 f' (by omega)
theorem wkI_st {V f a : Nat} {M S : Nat → Int32} (hf : f < 2 ^ 30) (ha : a < 2 * V) (hM : M a = -1) (h : wkI V f M S) : wkI V f (upd M a (nI f)) (upd S f (S f + 1)) := by
  refine ⟨fun s hs => ?_, fun f' hf' => ?_⟩
  · by_cases he : s = a
    · rw [he, pk_us]
      exact Or.inr ⟨f, by omega, rfl⟩
    · rw [pk_un he]
      exact h.1 s hs
  · have hne : ∀ f9, f9 < f + 1 → M a ≠ nI f9 := fun f9 h9 e => rn_neg1 (v := f9) (by omega) (e.symm.trans hM)
    by_cases he : f' = f
    · rw [he, pk_us, cE_up (hne f (by omega)) _ ha, h.2 f (by omega)]
      exact nI_1 _
    · rw [pk_un he, cE_ne (hne f' hf') (fun e => he ((nI_eq (by omega) (by omega)).mp e).symm)]
      exact h.2 f' hf'
theorem u_X12_walk_9 {x1 : Int32} {x2 : Int32} {x3 : Int32} {x4 : Int32} {x5 : Int32} {x6 : Int32} {r0 : Nat} {t0 : Int32} {z : ow_MS} {Q : ow_MS → Prop} (H : Tt (fun K k => qm_X12_walk_9 K (q_X12_walk K k) x1 x2 x3 x4 x5 x6 r0 t0 z) Q) : Tt (fun K k => q_X12_walk K k 9 x1 x2 x3 x4 x5 x6 r0 t0 z) Q := w_un (fun _ _ => rfl) H
theorem u_X12_walk_10 {x1 : Int32} {x2 : Int32} {x3 : Int32} {x4 : Int32} {x5 : Int32} {x6 : Int32} {r0 : Nat} {t0 : Int32} {z : ow_MS} {Q : ow_MS → Prop} (H : Tt (fun K k => qm_X12_walk_10 K (q_X12_walk K k) x1 x2 x3 x4 x5 x6 r0 t0 z) Q) : Tt (fun K k => q_X12_walk K k 10 x1 x2 x3 x4 x5 x6 r0 t0 z) Q := w_un (fun _ _ => rfl) H
theorem u_X12_walk_8 {x1 : Int32} {x2 : Int32} {x3 : Int32} {x4 : Int32} {x5 : Int32} {x6 : Int32} {r0 : Nat} {t0 : Int32} {z : ow_MS} {Q : ow_MS → Prop} (H : Tt (fun K k => qm_X12_walk_8 K (q_X12_walk K k) x1 x2 x3 x4 x5 x6 r0 t0 z) Q) : Tt (fun K k => q_X12_walk K k 8 x1 x2 x3 x4 x5 x6 r0 t0 z) Q := w_un (fun _ _ => rfl) H
theorem u_X12_walk_6 {x1 : Int32} {x2 : Int32} {x3 : Int32} {x4 : Int32} {x5 : Int32} {x6 : Int32} {r0 : Nat} {t0 : Int32} {z : ow_MS} {Q : ow_MS → Prop} (H : Tt (fun K k => qm_X12_walk_6 K (q_X12_walk K k) x1 x2 x3 x4 x5 x6 r0 t0 z) Q) : Tt (fun K k => q_X12_walk K k 6 x1 x2 x3 x4 x5 x6 r0 t0 z) Q := w_un (fun _ _ => rfl) H
theorem u_X12_walk_7 {x1 : Int32} {x2 : Int32} {x3 : Int32} {x4 : Int32} {x5 : Int32} {x6 : Int32} {r0 : Nat} {t0 : Int32} {z : ow_MS} {Q : ow_MS → Prop} (H : Tt (fun K k => qm_X12_walk_7 K (q_X12_walk K k) x1 x2 x3 x4 x5 x6 r0 t0 z) Q) : Tt (fun K k => q_X12_walk K k 7 x1 x2 x3 x4 x5 x6 r0 t0 z) Q := w_un (fun _ _ => rfl) H
theorem u_X12_walk_5 {x1 : Int32} {x2 : Int32} {x3 : Int32} {x4 : Int32} {x5 : Int32} {x6 : Int32} {r0 : Nat} {t0 : Int32} {z : ow_MS} {Q : ow_MS → Prop} (H : Tt (fun K k => qm_X12_walk_5 K (q_X12_walk K k) x1 x2 x3 x4 x5 x6 r0 t0 z) Q) : Tt (fun K k => q_X12_walk K k 5 x1 x2 x3 x4 x5 x6 r0 t0 z) Q := w_un (fun _ _ => rfl) H
theorem u_X12_walk_4 {x1 : Int32} {x2 : Int32} {x3 : Int32} {x4 : Int32} {x5 : Int32} {x6 : Int32} {r0 : Nat} {t0 : Int32} {z : ow_MS} {Q : ow_MS → Prop} (H : Tt (fun K k => qm_X12_walk_4 K (q_X12_walk K k) x1 x2 x3 x4 x5 x6 r0 t0 z) Q) : Tt (fun K k => q_X12_walk K k 4 x1 x2 x3 x4 x5 x6 r0 t0 z) Q := w_un (fun _ _ => rfl) H
theorem u_X12_walk_3 {x1 : Int32} {x2 : Int32} {x3 : Int32} {x4 : Int32} {x5 : Int32} {x6 : Int32} {r0 : Nat} {t0 : Int32} {z : ow_MS} {Q : ow_MS → Prop} (H : Tt (fun K k => qm_X12_walk_3 K (q_X12_walk K k) x1 x2 x3 x4 x5 x6 r0 t0 z) Q) : Tt (fun K k => q_X12_walk K k 3 x1 x2 x3 x4 x5 x6 r0 t0 z) Q := w_un (fun _ _ => rfl) H
theorem u_X12_walk_2 {x1 : Int32} {x2 : Int32} {x3 : Int32} {x4 : Int32} {x5 : Int32} {x6 : Int32} {r0 : Nat} {t0 : Int32} {z : ow_MS} {Q : ow_MS → Prop} (H : Tt (fun K k => qm_X12_walk_2 K (q_X12_walk K k) x1 x2 x3 x4 x5 x6 r0 t0 z) Q) : Tt (fun K k => q_X12_walk K k 2 x1 x2 x3 x4 x5 x6 r0 t0 z) Q := w_un (fun _ _ => rfl) H
theorem u_X12_walk_11 {x1 : Int32} {x2 : Int32} {x3 : Int32} {x4 : Int32} {x5 : Int32} {x6 : Int32} {r0 : Nat} {t0 : Int32} {z : ow_MS} {Q : ow_MS → Prop} (H : Tt (fun K k => qm_X12_walk_11 K (q_X12_walk K k) x1 x2 x3 x4 x5 x6 r0 t0 z) Q) : Tt (fun K k => q_X12_walk K k 11 x1 x2 x3 x4 x5 x6 r0 t0 z) Q := w_un (fun _ _ => rfl) H
theorem u_X12_walk_1 {x1 : Int32} {x2 : Int32} {x3 : Int32} {x4 : Int32} {x5 : Int32} {x6 : Int32} {r0 : Nat} {t0 : Int32} {z : ow_MS} {Q : ow_MS → Prop} (H : Tt (fun K k => qm_X12_walk_1 K (q_X12_walk K k) x1 x2 x3 x4 x5 x6 r0 t0 z) Q) : Tt (fun K k => q_X12_walk K k 1 x1 x2 x3 x4 x5 x6 r0 t0 z) Q := w_un (fun _ _ => rfl) H
theorem e_X12_walk {r0 : Nat} {z : ow_MS} {Q : ow_MS → Prop} (H : Tt (fun K k => q_X12_walk K k 0 0 0 0 0 0 0 r0 0 z) Q) : Te (fun K => qe_X12_walk K r0 z) Q := w_te H
theorem u_X12_walk_0 {x1 : Int32} {x2 : Int32} {x3 : Int32} {x4 : Int32} {x5 : Int32} {x6 : Int32} {r0 : Nat} {t0 : Int32} {z : ow_MS} {Q : ow_MS → Prop} (H : Tt (fun K k => qm_X12_walk_0 K (q_X12_walk K k) x1 x2 x3 x4 x5 x6 r0 t0 z) Q) : Tt (fun K k => q_X12_walk K k 0 x1 x2 x3 x4 x5 x6 r0 t0 z) Q := w_un (fun _ _ => rfl) H
theorem tn_walk {n : Nat} {z : ow_MS} {A : rn_L} (hn : mw_net n) (hlen : A.flatten.length ≤ 40) (hd : rn_ok A.flatten) (hL : rn_lk z n A) : Te (fun K => qe_X12_walk K n z) (fun z1 => fr (frW n) z z1 ∧ ∃ F, rn_fc z1 n A.flatten.length F) := by
  have frK : ∀ {y y1 : ow_MS}, fr (frW n) y y1 → rn_lk y n A → rn_lk y1 n A := fun hf h => fr_lk hf (fun g hg => by rcases hg with hg | hg | hg <;> omega) h
  let Q : ow_MS → Prop := fun z1 => fr (frW n) z z1 ∧ ∃ F, rn_fc z1 n A.flatten.length F
  obtain ⟨V, hV⟩ : ∃ V, A.flatten.length = V := ⟨_, rfl⟩
  have V40 : V ≤ 40 := by omega
  have turn : ∀ (k0 a v : Nat) (z1 : ow_MS), fr (frW n) z z1 → a < 2 * V → v < V → (∀ a1, a1 < 2 * V → Tt (fun K k => q_X12_walk K k 3 (nI k0) (nI a1) 0 0 0 0 n 0 z1) Q) → Tt (fun K k => q_X12_walk K k 4 (nI k0) (nI a) 0 0 0 0 n (nI v) z1) Q := by
    intro k0 a v z1 hf ha hv hout
    have hL1 := frK hf hL
    have hv2 : v < A.flatten.length := by omega
    obtain ⟨p, hp⟩ : ∃ p, A.flatten[v]? = some p := ⟨_, List.getElem?_eq_getElem hv2⟩
    obtain ⟨hx, hu⟩ := hd.1.2 v p hp
    obtain ⟨e4, e5⟩ := hL1.1.2.2.2 v p (by rw [List.append_nil]; exact hp)
    obtain ⟨w, hm⟩ := hd.2 v hv2
    have hwl := (rn_mt_lt hm).2
    have e7 := hL1.2.2.2 v w hv2 hwl hm
    have e10 := (hL1.2.1 w hwl).2.2
    have hpv := rn_pv_lt (A := A) hwl
    have c9 : ∀ (x4 t : Int32), Tt (fun K k => q_X12_walk K k 9 (nI k0) (nI a) (nI v) x4 0 0 n t z1) Q := by
      intro x4 t
      refine u_X12_walk_9 ?_; unfold qm_X12_walk_9
      refine w_rdI (pl7 hn) rfl (by omega) e7 (w_if (fun _ => ?_) (fun _ => w_rdI (pl10 hn) rfl (by omega) e10 ?_))
      · refine u_X12_walk_10 ?_; unfold qm_X12_walk_10
        rw [rn_mul2]
        exact hout _ (by omega)
      · refine u_X12_walk_10 ?_; unfold qm_X12_walk_10
        rw [rn_mul2, nI_1]
        exact hout _ (by omega)
    have c8 : ∀ (t : Int32), Tt (fun K k => q_X12_walk K k 8 (nI k0) (nI a) (nI v) 0 0 0 n t z1) Q := by
      intro t
      refine u_X12_walk_8 ?_; unfold qm_X12_walk_8
      exact w_if (fun _ => c9 _ _) (fun _ => c9 _ _)
    have c6 : Tt (fun K k => q_X12_walk K k 6 (nI k0) (nI a) (nI v) 0 0 0 n 0 z1) Q := by
      refine u_X12_walk_6 ?_; unfold qm_X12_walk_6
      exact c8 _
    have c7 : Tt (fun K k => q_X12_walk K k 7 (nI k0) (nI a) (nI v) 0 0 0 n 0 z1) Q := by
      refine u_X12_walk_7 ?_; unfold qm_X12_walk_7
      exact c8 _
    have c5 : Tt (fun K k => q_X12_walk K k 5 (nI k0) (nI a) (nI v) 0 0 0 n 0 z1) Q := by
      refine u_X12_walk_5 ?_; unfold qm_X12_walk_5
      exact w_rdI (pl5 hn) rfl (by omega) e5 (w_if (fun _ => w_rdI (pl4 hn) rfl (by omega) e4 (w_rdI (pl6 hn) rfl hx rfl (w_if (fun _ => c7) (fun _ => c6)))) (fun _ => c7))
    refine u_X12_walk_4 ?_; unfold qm_X12_walk_4
    exact w_rdI (pl5 hn) rfl (by omega) e5 (w_if (fun _ => w_rdI (pl4 hn) rfl (by omega) e4 (w_rdI (pl6 hn) rfl hx rfl (w_if (fun _ => c6) (fun _ => c5)))) (fun _ => c5))
  have inn : ∀ (k0 f : Nat), f < 80 → ∀ (u a : Nat) (z1 : ow_MS), rn_cU (z1.2.1 (n + 14)) (2 * V) ≤ u → a < 2 * V → fr (frW n) z z1 → z1.1 (n + 16) = nI f → wkI V f (z1.2.1 (n + 14)) (z1.2.1 (n + 15)) → (∀ z2, fr (frW n) z z2 → z2.1 (n + 16) = nI (f + 1) → wkI V f (z2.2.1 (n + 14)) (z2.2.1 (n + 15)) → z2.2.1 (n + 14) a ≠ -1 → (∀ s, z1.2.1 (n + 14) s ≠ -1 → z2.2.1 (n + 14) s ≠ -1) → Tt (fun K k => q_X12_walk K k 11 (nI k0) 0 0 0 0 0 n 0 z2) Q) → Tt (fun K k => q_X12_walk K k 3 (nI k0) (nI a) 0 0 0 0 n 0 z1) Q := by
    intro k0 f hf80 u
    induction u with
    | zero =>
      intro a z1 hu ha hf h16 hI hout
      refine u_X12_walk_3 ?_; unfold qm_X12_walk_3
      refine w_rdI (pl14 hn) rfl (by omega) rfl (w_if (fun hM => ?_) (fun hM => w_rdF h16 (w_wrF ?_)))
      · have := rn_cU_upd (M := z1.2.1 (n + 14)) (x := 0) hM (by decide) (2 * V) ha
        omega
      · rw [nI_1]
        exact hout _ (fr_F2 hf (Or.inr (Or.inr rfl))) po_usF_at hI hM (fun s hs => hs)
    | succ u ih =>
      intro a z1 hu ha hf h16 hI hout
      refine u_X12_walk_3 ?_; unfold qm_X12_walk_3
      refine w_rdI (pl14 hn) rfl (by omega) rfl (w_if (fun hM => ?_) (fun hM => w_rdF h16 (w_wrF ?_)))
      · have hne : nI f ≠ -1 := rn_neg1 (by omega)
        have cu := rn_cU_upd (M := z1.2.1 (n + 14)) (x := nI f) hM hne (2 * V) ha
        have hf2 : fr (frW n) z (usI (usI z1 (n + 14) a (nI f)) (n + 15) f (z1.2.1 (n + 15) f + 1)) := fr_I2 (fr_I2 hf (Or.inl rfl)) (Or.inr (Or.inl rfl))
        have r14 : (usI (usI z1 (n + 14) a (nI f)) (n + 15) f (z1.2.1 (n + 15) f + 1)).2.1 (n + 14) = upd (z1.2.1 (n + 14)) a (nI f) := by
          rw [po_usI_ot (by omega), po_usI_row]
        have r15 : (usI (usI z1 (n + 14) a (nI f)) (n + 15) f (z1.2.1 (n + 15) f + 1)).2.1 (n + 15) = upd (z1.2.1 (n + 15)) f (z1.2.1 (n + 15) f + 1) := by
          rw [po_usI_row, po_usI_ot (by omega)]
        have go4 : ∀ v, v < V → Tt (fun K k => q_X12_walk K k 4 (nI k0) (nI a) 0 0 0 0 n (nI v) (usI (usI z1 (n + 14) a (nI f)) (n + 15) f (z1.2.1 (n + 15) f + 1))) Q := by
          intro v hv
          refine turn k0 a v _ hf2 ha hv (fun a1 ha1 => ?_)
          refine ih a1 _ (by rw [r14]; omega) ha1 hf2 h16 (by rw [r14, r15]; exact wkI_st (by omega) ha hM hI) (fun z2 g1 g2 g3 g4 g5 => ?_)
          rw [r14] at g5
          have ga : z2.2.1 (n + 14) a ≠ -1 := g5 a (by rw [pk_us]; exact hne)
          refine hout z2 g1 g2 g3 ga (fun s hs => ?_)
          by_cases hsa : s = a
          · rw [hsa]; exact ga
          · exact g5 s (by rw [pk_un hsa]; exact hs)
        have e9 := ((frK hf2 hL).2.1 (a / 2) (by omega)).2.1
        refine w_rdF h16 (w_wrI (pl14 hn) rfl (by omega) (w_rdF h16 (w_rdI (pl15 hn) rfl hf80 (rd_ot (by omega) rfl) (w_wrI (pl15 hn) rfl hf80 ?_))))
        rw [rn_shr1 (by omega)]
        exact w_if (fun _ => w_rdI (pl9 hn) rfl (by omega) e9 (go4 _ (by have := rn_nx_lt (A := A) (v := a / 2) (by omega); omega))) (fun _ => go4 _ (by omega))
      · rw [nI_1]
        exact hout _ (fr_F2 hf (Or.inr (Or.inr rfl))) po_usF_at hI hM (fun s hs => hs)
  have out : ∀ (d c f : Nat) (z1 : ow_MS), c + d = 2 * V → f ≤ c → fr (frW n) z z1 → z1.1 (n + 16) = nI f → wkO V f (z1.2.1 (n + 14)) (z1.2.1 (n + 15)) → (∀ s, s < c → z1.2.1 (n + 14) s ≠ -1) → Tt (fun K k => q_X12_walk K k 2 (nI c) 0 0 0 0 0 n 0 z1) Q := by
    intro d
    induction d with
    | zero =>
      intro c f z1 hc hfc hf h16 hO hm
      refine u_X12_walk_2 ?_; unfold qm_X12_walk_2
      refine w_rdF (frK hf hL).V ?_
      rw [rn_mul2]
      refine w_leT (by omega) (by omega) (w_some ⟨hf, f, h16, by omega, fun s hs => ?_, ?_⟩)
      · rw [hV] at hs
        exact (hO.1 s hs).resolve_left (hm s (by omega))
      · rw [hV]
        exact hO.2
    | succ d ih =>
      intro c f z1 hc hfc hf h16 hO hm
      refine u_X12_walk_2 ?_; unfold qm_X12_walk_2
      refine w_rdF (frK hf hL).V ?_
      rw [rn_mul2]
      refine w_leF (by omega) (by omega) (w_rdI (pl14 hn) rfl (by omega) rfl (w_if (fun c1 => w_rdF h16 (w_wrI (pl15 hn) rfl (by omega) ?_)) (fun c1 => ?_)))
      · have r14 : (usI z1 (n + 15) f 0).2.1 (n + 14) = z1.2.1 (n + 14) := po_usI_ot (by omega)
        refine inn c f (by omega) _ c _ (Nat.le_refl _) (by omega) (fr_I2 hf (Or.inr (Or.inl rfl))) h16 (by rw [r14, po_usI_row]; exact wkI_0 (by omega) hO) (fun z2 g1 g2 g3 g4 g5 => ?_)
        refine u_X12_walk_11 ?_; unfold qm_X12_walk_11
        rw [nI_1]
        rw [r14] at g5
        refine ih (c + 1) (f + 1) z2 (by omega) (by omega) g1 g2 g3 (fun s hs => ?_)
        by_cases hsc : s = c
        · rw [hsc]; exact g4
        · exact g5 s (hm s (by omega))
      · refine u_X12_walk_11 ?_; unfold qm_X12_walk_11
        rw [nI_1]
        refine ih (c + 1) f z1 (by omega) (by omega) hf h16 hO (fun s hs => ?_)
        by_cases hsc : s = c
        · rw [hsc]; exact c1
        · exact hm s (by omega)
  have zer : ∀ (d c : Nat) (z1 : ow_MS), c + d = 2 * V → fr (frW n) z z1 → (∀ s, s < c → z1.2.1 (n + 14) s = -1) → Tt (fun K k => q_X12_walk K k 1 (nI c) 0 0 0 0 0 n 0 z1) Q := by
    intro d
    induction d with
    | zero =>
      intro c z1 hc hf hm
      refine u_X12_walk_1 ?_; unfold qm_X12_walk_1
      refine w_rdF (frK hf hL).V ?_
      rw [rn_mul2]
      exact w_leT (by omega) (by omega) (w_wrF (out (2 * V) 0 0 _ (by omega) (Nat.le_refl _) (fr_F2 hf (Or.inr (Or.inr rfl))) po_usF_at ⟨fun s hs => Or.inl (hm s (by omega)), fun f hf9 => by omega⟩ (fun s hs => by omega)))
    | succ d ih =>
      intro c z1 hc hf hm
      refine u_X12_walk_1 ?_; unfold qm_X12_walk_1
      refine w_rdF (frK hf hL).V ?_
      rw [rn_mul2]
      refine w_leF (by omega) (by omega) (w_wrI (pl14 hn) rfl (by omega) ?_)
      rw [nI_1]
      refine ih (c + 1) _ (by omega) (fr_I2 hf (Or.inl rfl)) (fun s hs => ?_)
      by_cases hsc : s = c
      · rw [hsc]; exact po_usI_at
      · exact rd_ne hsc (hm s (by omega))
  refine e_X12_walk ?_
  refine u_X12_walk_0 ?_; unfold qm_X12_walk_0
  exact zer (2 * V) 0 z (by omega) fr_rf (fun s hs => by omega)
theorem e_X12_isCircle {r0 : Nat} {x1 : Int32} {z : ow_MS} {Q : (Int32 × ow_MS) → Prop} (H : Tt (fun K _ => qm_X12_isCircle_0 K x1 r0 z) Q) : Te (fun K => qe_X12_isCircle K r0 x1 z) Q := w_te0 H
/-- isCircle -/
theorem tn_circle {n c : Nat} {z : ow_MS} {A : rn_L} (hn : mw_net n) (hlen : A.flatten.length ≤ 40) (hcn : A.length ≤ 39) (hc : c < A.length) (hA : rn_At z n A []) : Te (fun K => qe_X12_isCircle K n (nI c) z) (fun r => r = (if rn_b A c = rn_b A (c + 1) then 1 else 0, z)) := by
  have h1 := rn_b_le A (c + 1)
  have h2 := rn_b_le A c
  refine e_X12_isCircle ?_; unfold qm_X12_isCircle_0
  refine w_rdI (pl3 hn) rfl (by omega) (hA.2.2.1 c (by omega)) (w_rdI (pl3 hn) (nI_1 _) (by omega) (hA.2.2.1 (c + 1) (by omega)) (w_eqN (a := rn_b A c) (b := rn_b A (c + 1)) (by omega) (by omega) (fun h9 => w_okZ (Or.inr rfl) (w_some ?_)) (fun h9 => w_okZ (Or.inl rfl) (w_some ?_))))
  · rw [if_pos h9]
  · rw [if_neg h9]
theorem e_X12_isPlane {r0 : Nat} {z : ow_MS} {Q : (Int32 × ow_MS) → Prop} (H : Tt (fun K k => q_X12_isPlane K k 0 0 0 0 0 r0 0 0 z) Q) : Te (fun K => qe_X12_isPlane K r0 z) Q := w_te H
theorem u_X12_isPlane_0 {x1 : Int32} {x2 : Int32} {x3 : Int32} {x4 : Int32} {r0 : Nat} {t0 : Int32} {t1 : Int32} {z : ow_MS} {Q : (Int32 × ow_MS) → Prop} (H : Tt (fun K k => qm_X12_isPlane_0 K (q_X12_isPlane K k) x1 x2 x3 x4 r0 t0 t1 z) Q) : Tt (fun K k => q_X12_isPlane K k 0 x1 x2 x3 x4 r0 t0 t1 z) Q := w_un (fun _ _ => rfl) H
theorem u_X12_isPlane_2 {x1 : Int32} {x2 : Int32} {x3 : Int32} {x4 : Int32} {r0 : Nat} {t0 : Int32} {t1 : Int32} {z : ow_MS} {Q : (Int32 × ow_MS) → Prop} (H : Tt (fun K k => qm_X12_isPlane_2 K (q_X12_isPlane K k) x1 x2 x3 x4 r0 t0 t1 z) Q) : Tt (fun K k => q_X12_isPlane K k 2 x1 x2 x3 x4 r0 t0 t1 z) Q := w_un (fun _ _ => rfl) H
theorem u_X12_isPlane_5 {x1 : Int32} {x2 : Int32} {x3 : Int32} {x4 : Int32} {r0 : Nat} {t0 : Int32} {t1 : Int32} {z : ow_MS} {Q : (Int32 × ow_MS) → Prop} (H : Tt (fun K k => qm_X12_isPlane_5 K (q_X12_isPlane K k) x1 x2 x3 x4 r0 t0 t1 z) Q) : Tt (fun K k => q_X12_isPlane K k 5 x1 x2 x3 x4 r0 t0 t1 z) Q := w_un (fun _ _ => rfl) H
theorem u_X12_isPlane_4 {x1 : Int32} {x2 : Int32} {x3 : Int32} {x4 : Int32} {r0 : Nat} {t0 : Int32} {t1 : Int32} {z : ow_MS} {Q : (Int32 × ow_MS) → Prop} (H : Tt (fun K k => qm_X12_isPlane_4 K (q_X12_isPlane K k) x1 x2 x3 x4 r0 t0 t1 z) Q) : Tt (fun K k => q_X12_isPlane K k 4 x1 x2 x3 x4 r0 t0 t1 z) Q := w_un (fun _ _ => rfl) H
theorem u_X12_isPlane_3 {x1 : Int32} {x2 : Int32} {x3 : Int32} {x4 : Int32} {r0 : Nat} {t0 : Int32} {t1 : Int32} {z : ow_MS} {Q : (Int32 × ow_MS) → Prop} (H : Tt (fun K k => qm_X12_isPlane_3 K (q_X12_isPlane K k) x1 x2 x3 x4 r0 t0 t1 z) Q) : Tt (fun K k => q_X12_isPlane K k 3 x1 x2 x3 x4 r0 t0 t1 z) Q := w_un (fun _ _ => rfl) H
theorem u_X12_isPlane_1 {x1 : Int32} {x2 : Int32} {x3 : Int32} {x4 : Int32} {r0 : Nat} {t0 : Int32} {t1 : Int32} {z : ow_MS} {Q : (Int32 × ow_MS) → Prop} (H : Tt (fun K k => qm_X12_isPlane_1 K (q_X12_isPlane K k) x1 x2 x3 x4 r0 t0 t1 z) Q) : Tt (fun K k => q_X12_isPlane K k 1 x1 x2 x3 x4 r0 t0 t1 z) Q := w_un (fun _ _ => rfl) H
theorem tn_plane {n : Nat} {z : ow_MS} {A : rn_L} (hn : mw_net n) (hlen : A.flatten.length ≤ 40) (hcn : A.length ≤ 39) (hd : rn_ok A.flatten) (hL : rn_lk z n A) : Te (fun K => qe_X12_isPlane K n z) (fun r => (r.1 = 0 ∨ r.1 = 1) ∧ fr (fun g => n + 12 ≤ g ∧ g ≤ n + 16) z r.2 ∧ rn_lk r.2 n A ∧ (∃ P, rn_pt r.2 n A P) ∧ ∃ F, rn_fc r.2 n A.flatten.length F) := by
  refine e_X12_isPlane ?_
  refine u_X12_isPlane_0 ?_; unfold qm_X12_isPlane_0
  refine w_cs0 (tn_split hn hlen hcn hd hL) (fun z1 ⟨f1, P, g1⟩ => w_cs0 (tn_walk hn hlen hd (fr_lk f1 (fun g hg => by rcases hg with hg | hg <;> omega) hL)) (fun z2 ⟨f2, F, g2⟩ => ?_))
  have hL1 := fr_lk f1 (fun g hg => by rcases hg with hg | hg <;> omega) hL
  have hL2 := fr_lk f2 (fun g hg => by rcases hg with hg | hg | hg <;> omega) hL1
  have hP2 : rn_pt z2 n A P := by
    obtain ⟨a1, a2, a3, a4⟩ := g1
    have e12 := (f2 (n + 12) (by omega)).2.1
    exact ⟨by rw [(f2 (n + 13) (by omega)).1]; exact a1, a2, by rw [e12]; exact a3, by rw [e12]; exact a4⟩
  have post : fr (fun g => n + 12 ≤ g ∧ g ≤ n + 16) z z2 := fr_tr (fr_mono (fun g hg => by rcases hg with hg | hg <;> omega) f1) (fr_mono (fun g hg => by rcases hg with hg | hg | hg <;> omega) f2)
  have inn : ∀ (p : Nat) (x1 : Int32), (∀ t : Int32, Tt (fun K k => q_X12_isPlane K k 1 t (nI (p + 1)) 0 0 n 0 0 z2) (fun r => (r.1 = 0 ∨ r.1 = 1) ∧ fr (fun g => n + 12 ≤ g ∧ g ≤ n + 16) z r.2 ∧ rn_lk r.2 n A ∧ (∃ P, rn_pt r.2 n A P) ∧ ∃ F, rn_fc r.2 n A.flatten.length F)) → ∀ (d c : Nat) (x3 : Int32), c + d = A.length → Tt (fun K k => q_X12_isPlane K k 2 x1 (nI p) x3 (nI c) n 0 0 z2) (fun r => (r.1 = 0 ∨ r.1 = 1) ∧ fr (fun g => n + 12 ≤ g ∧ g ≤ n + 16) z r.2 ∧ rn_lk r.2 n A ∧ (∃ P, rn_pt r.2 n A P) ∧ ∃ F, rn_fc r.2 n A.flatten.length F) := by
    intro p x1 hout d
    induction d with
    | zero =>
      intro c x3 hc
      refine u_X12_isPlane_2 ?_; unfold qm_X12_isPlane_2
      refine w_rdF hL2.1.2.1 (w_leT (by omega) (by omega) (w_if (fun _ => ?_) (fun _ => ?_)))
      · refine u_X12_isPlane_5 ?_; unfold qm_X12_isPlane_5
        rw [nI_1]
        exact hout _
      · refine u_X12_isPlane_5 ?_; unfold qm_X12_isPlane_5
        rw [nI_1]
        exact hout _
    | succ d ih =>
      intro c x3 hc
      refine u_X12_isPlane_2 ?_; unfold qm_X12_isPlane_2
      refine w_rdF hL2.1.2.1 (w_leF (by omega) (by omega) (w_rdI (pl12 hn) rfl (by omega) rfl (w_if (fun _ => w_cs1 (tn_circle hn hlen hcn (by omega) hL2.1) (fun a z9 h9 => ?_)) (fun _ => ?_))))
      · cases h9
        refine w_if (fun _ => ?_) (fun _ => ?_)
        · refine u_X12_isPlane_4 ?_; unfold qm_X12_isPlane_4
          rw [nI_1]
          exact ih (c + 1) _ (by omega)
        · refine u_X12_isPlane_3 ?_; unfold qm_X12_isPlane_3
          refine u_X12_isPlane_4 ?_; unfold qm_X12_isPlane_4
          rw [nI_1]
          exact ih (c + 1) _ (by omega)
      · refine u_X12_isPlane_3 ?_; unfold qm_X12_isPlane_3
        refine u_X12_isPlane_4 ?_; unfold qm_X12_isPlane_4
        rw [nI_1]
        exact ih (c + 1) _ (by omega)
  have out : ∀ (d p : Nat) (x1 : Int32), p + d = P → Tt (fun K k => q_X12_isPlane K k 1 x1 (nI p) 0 0 n 0 0 z2) (fun r => (r.1 = 0 ∨ r.1 = 1) ∧ fr (fun g => n + 12 ≤ g ∧ g ≤ n + 16) z r.2 ∧ rn_lk r.2 n A ∧ (∃ P, rn_pt r.2 n A P) ∧ ∃ F, rn_fc r.2 n A.flatten.length F) := by
    intro d
    have hP39 := hP2.2.1
    induction d with
    | zero =>
      intro p x1 hp
      refine u_X12_isPlane_1 ?_; unfold qm_X12_isPlane_1
      exact w_rdF hP2.1 (w_leT (by omega) (by omega) (w_rdF rfl (w_if (fun _ => w_okZ (Or.inr rfl) (w_some ⟨Or.inr rfl, post, hL2, ⟨P, hP2⟩, F, g2⟩)) (fun _ => w_okZ (Or.inl rfl) (w_some ⟨Or.inl rfl, post, hL2, ⟨P, hP2⟩, F, g2⟩)))))
    | succ d ih =>
      intro p x1 hp
      refine u_X12_isPlane_1 ?_; unfold qm_X12_isPlane_1
      exact w_rdF hP2.1 (w_leF (by omega) (by omega) (inn p x1 (fun t => ih (p + 1) t (by omega)) A.length 0 0 (by omega)))
  exact w_rdF rfl (w_nzI (by decide) (out P 0 _ (by omega)))
end
section
/-! 99zzf.rows -/
/-! the reference's rows -/
theorem ml2 : (mX.2 2).2.1 = 32 := rfl
theorem ml4 : (mX.2 4).2.1 = 40 := rfl
theorem ml5 : (mX.2 5).2.1 = 40 := rfl
theorem ml6 : (mX.2 6).2.1 = 40 := rfl
theorem ml7 : (mX.2 7).2.1 = 640 := rfl
theorem ml8 : (mX.2 8).2.1 = 20 := rfl
theorem ml9 : (mX.2 9).2.1 = 20 := rfl
theorem ml10 : (mX.2 10).2.1 = 400 := rfl
theorem ml12 : (mX.2 12).2.1 = 1280 := rfl
theorem ml16 : (mX.2 16).2.1 = 16 := rfl
theorem ml17 : (mX.2 17).2.1 = 16 := rfl
theorem ml18 : (mX.2 18).2.1 = 16 := rfl
theorem ml19 : (mX.2 19).2.1 = 16 := rfl
theorem ml20 : (mX.2 20).2.1 = 86400 := rfl
theorem ml21 : (mX.2 21).2.1 = 2700 := rfl
theorem ml23 : (mX.2 23).2.1 = 32000 := rfl
theorem ml25 : (mX.2 25).2.1 = 9920 := rfl
theorem ml27 : (mX.2 27).2.1 = 32 := rfl
theorem ml28 : (mX.2 28).2.1 = 32 := rfl
theorem ml31 : (mX.2 31).2.1 = 4 := rfl
theorem ml32 : (mX.2 32).2.1 = 4 := rfl
theorem ml33 : (mX.2 33).2.1 = 3 := rfl
theorem ml34 : (mX.2 34).2.1 = 3 := rfl
theorem ml35 : (mX.2 35).2.1 = 512 := rfl
theorem ml37 : (mX.2 37).2.1 = 512 := rfl
theorem ml38 : (mX.2 38).2.1 = 48 := rfl
theorem ml39 : (mX.2 39).2.1 = 16 := rfl
theorem ml41 : (mX.2 41).2.1 = 40 := rfl
theorem ml42 : (mX.2 42).2.1 = 40 := rfl
theorem ml43 : (mX.2 43).2.1 = 32 := rfl
theorem ml44 : (mX.2 44).2.1 = 5289 := rfl
theorem ml45 : (mX.2 45).2.1 = 32 := rfl
theorem ml47 : (mX.2 47).2.1 = 48 := rfl
theorem ml48 : (mX.2 48).2.1 = 201 := rfl
theorem ml50 : (mX.2 50).2.1 = 32 := rfl
theorem ml51 : (mX.2 51).2.1 = 312 := rfl
theorem ml52 : (mX.2 52).2.1 = 80 := rfl
theorem ml53 : (mX.2 53).2.1 = 80 := rfl
theorem ml54 : (mX.2 54).2.1 = 256 := rfl
theorem ml55 : (mX.2 55).2.1 = 256 := rfl
theorem ml56 : (mX.2 56).2.1 = 256 := rfl
theorem ml57 : (mX.2 57).2.1 = 20 := rfl
theorem ml59 : (mX.2 59).2.1 = 40 := rfl
theorem ml60 : (mX.2 60).2.1 = 40 := rfl
theorem ml61 : (mX.2 61).2.1 = 16 := rfl
theorem ml62 : (mX.2 62).2.1 = 16 := rfl
theorem ml63 : (mX.2 63).2.1 = 16 := rfl
theorem ml64 : (mX.2 64).2.1 = 312 := rfl
theorem ml65 : (mX.2 65).2.1 = 32 := rfl
theorem ml66 : (mX.2 66).2.1 = 40 := rfl
theorem ml68 : (mX.2 68).2.1 = 13 := rfl
theorem ml69 : (mX.2 69).2.1 = 24 := rfl
theorem ml72 : (mX.2 72).2.1 = 169 := rfl
theorem ml73 : (mX.2 73).2.1 = 5 := rfl
theorem ml75 : (mX.2 75).2.1 = 2880 := rfl
theorem ml76 : (mX.2 76).2.1 = 2880 := rfl
theorem ml77 : (mX.2 77).2.1 = 40 := rfl
theorem ml78 : (mX.2 78).2.1 = 40 := rfl
theorem ml80 : (mX.2 80).2.1 = 16 := rfl
theorem ml81 : (mX.2 81).2.1 = 8192 := rfl
theorem ml82 : (mX.2 82).2.1 = 256 := rfl
theorem ml83 : (mX.2 83).2.1 = 257 := rfl
theorem ml84 : (mX.2 84).2.1 = 13200 := rfl
theorem ml85 : (mX.2 85).2.1 = 800 := rfl
theorem ml86 : (mX.2 86).2.1 = 800 := rfl
theorem ml87 : (mX.2 87).2.1 = 800 := rfl
theorem ml89 : (mX.2 89).2.1 = 13200 := rfl
theorem ml90 : (mX.2 90).2.1 = 13200 := rfl
theorem ml91 : (mX.2 91).2.1 = 13200 := rfl
theorem ml92 : (mX.2 92).2.1 = 900000 := rfl
theorem ml94 : (mX.2 94).2.1 = 320 := rfl
theorem ml95 : (mX.2 95).2.1 = 20 := rfl
theorem ml96 : (mX.2 96).2.1 = 20 := rfl
theorem ml97 : (mX.2 97).2.1 = 6 := rfl
theorem ml98 : (mX.2 98).2.1 = 3600 := rfl
theorem ml99 : (mX.2 99).2.1 = 7200 := rfl
theorem ml100 : (mX.2 100).2.1 = 720 := rfl
theorem ml101 : (mX.2 101).2.1 = 2880 := rfl
theorem ml102 : (mX.2 102).2.1 = 720 := rfl
theorem ml103 : (mX.2 103).2.1 = 720 := rfl
theorem ml104 : (mX.2 104).2.1 = 2880 := rfl
theorem ml105 : (mX.2 105).2.1 = 2880 := rfl
theorem ml108 : (mX.2 108).2.1 = 600 := rfl
theorem ml110 : (mX.2 110).2.1 = 600 := rfl
theorem ml114 : (mX.2 114).2.1 = 600 := rfl
theorem ml115 : (mX.2 115).2.1 = 8040 := rfl
theorem ml117 : (mX.2 117).2.1 = 40 := rfl
theorem ml118 : (mX.2 118).2.1 = 40 := rfl
theorem ml120 : (mX.2 120).2.1 = 5 := rfl
/-- a row: its size, then its numbers -/
def rc_At (z : ow_MS) (h o : Nat) (T : List Nat) : Prop := T.length ≤ 31 ∧ (∀ t, t ∈ T → t < 200) ∧ z.2.1 h o = nI T.length ∧ ∀ k t, T[k]? = some t → z.2.1 h (o + (k + 1)) = nI t
theorem rc_fr {P : Nat → Prop} {z z1 : ow_MS} {h o : Nat} {T : List Nat} (hf : fr P z z1) (hP : ¬ P h) (hr : rc_At z h o T) : rc_At z1 h o T := by
  obtain ⟨h1, h2, h3, h4⟩ := hr
  have e := (hf h hP).2.1
  exact ⟨h1, h2, by rw [e]; exact h3, fun k t hk => by rw [e]; exact h4 k t hk⟩
theorem rc_get {z : ow_MS} {h o k : Nat} {T : List Nat} (hr : rc_At z h o T) (hk : k < T.length) : ∃ t, T[k]? = some t ∧ t < 200 ∧ z.2.1 h (o + (k + 1)) = nI t := ⟨T[k], List.getElem?_eq_getElem hk, hr.2.1 _ (List.getElem_mem hk), hr.2.2.2 k _ (List.getElem?_eq_getElem hk)⟩
/-- the lesser of two lists -/
def lxb : List Nat → List Nat → Bool
  | _, [] => false
  | [], _ :: _ => true
  | a :: as, b :: bs => if a = b then lxb as bs else decide (a < b)
theorem lxb_drop : ∀ (k : Nat) (S T : List Nat), (∀ j, j < k → S[j]? = T[j]?) → k ≤ S.length → k ≤ T.length → lxb S T = lxb (S.drop k) (T.drop k)
  | 0, S, T, _, _, _ => rfl
  | k + 1, [], T, _, h, _ => by simp at h
  | k + 1, a :: S, [], _, _, h => by simp at h
  | k + 1, a :: S, b :: T, h, h1, h2 => by
    have e : a = b := by
      have := h 0 (by omega)
      simpa using this
    subst e
    have h3 := lxb_drop k S T (fun j hj => by
      have := h (j + 1) (by omega)
      simpa using this) (by simpa using h1) (by simpa using h2)
    rw [List.drop_succ_cons, List.drop_succ_cons, ← h3]
    show (if a = a then lxb S T else decide (a < a)) = lxb S T
    rw [if_pos rfl]
theorem lxb_at {S T : List Nat} {k s t : Nat} (hs : S[k]? = some s) (ht : T[k]? = some t) (hne : s ≠ t) : lxb (S.drop k) (T.drop k) = decide (s < t) := by
  have e1 : S.drop k = s :: S.drop (k + 1) := by
    obtain ⟨h1, h2⟩ := List.getElem?_eq_some_iff.mp hs
    rw [List.drop_eq_getElem_cons h1, h2]
  have e2 : T.drop k = t :: T.drop (k + 1) := by
    obtain ⟨h1, h2⟩ := List.getElem?_eq_some_iff.mp ht
    rw [List.drop_eq_getElem_cons h1, h2]
  rw [e1, e2]
  unfold lxb
  rw [if_neg hne]
theorem lxb_end {S T : List Nat} {k : Nat} (hk : k = S.length ∨ k = T.length) (h1 : k ≤ S.length) (h2 : k ≤ T.length) : lxb (S.drop k) (T.drop k) = decide (S.length < T.length) := by
  by_cases hT : k = T.length
  · rw [List.drop_of_length_le (l := T) (by omega)]
    have : ¬ S.length < T.length := by omega
    unfold lxb
    rw [decide_eq_false this]
  · have hS : k = S.length := hk.resolve_right hT
    rw [List.drop_of_length_le (l := S) (by omega), List.drop_eq_getElem_cons (l := T) (by omega)]
    have : S.length < T.length := by omega
    unfold lxb
    rw [decide_eq_true this]
def bZ (b : Bool) : Int32 := if b then 1 else 0
theorem bZ_01 (b : Bool) : bZ b = 0 ∨ bZ b = 1 := by cases b <;> simp [bZ]
theorem e_X13_isBelow {r0 : Nat} {x1 : Int32} {r2 : Nat} {x3 : Int32} {z : ow_MS} {Q : (Int32 × ow_MS) → Prop} (H : Tt (fun K k => q_X13_isBelow K k 0 x1 x3 0 0 r0 r2 z) Q) : Te (fun K => qe_X13_isBelow K r0 x1 r2 x3 z) Q := w_te H
theorem u_X13_isBelow_0 {x1 : Int32} {x3 : Int32} {x4 : Int32} {x5 : Int32} {r0 : Nat} {r2 : Nat} {z : ow_MS} {Q : (Int32 × ow_MS) → Prop} (H : Tt (fun K k => qm_X13_isBelow_0 K (q_X13_isBelow K k) x1 x3 x4 x5 r0 r2 z) Q) : Tt (fun K k => q_X13_isBelow K k 0 x1 x3 x4 x5 r0 r2 z) Q := w_un (fun _ _ => rfl) H
theorem u_X13_isBelow_1 {x1 : Int32} {x3 : Int32} {x4 : Int32} {x5 : Int32} {r0 : Nat} {r2 : Nat} {z : ow_MS} {Q : (Int32 × ow_MS) → Prop} (H : Tt (fun K k => qm_X13_isBelow_1 K (q_X13_isBelow K k) x1 x3 x4 x5 r0 r2 z) Q) : Tt (fun K k => q_X13_isBelow K k 1 x1 x3 x4 x5 r0 r2 z) Q := w_un (fun _ _ => rfl) H
theorem tr_below {z : ow_MS} {h g o p la lb : Nat} {S T : List Nat} (hla : (mX.2 h).2.1 = la) (hlb : (mX.2 g).2.1 = lb) (ha : la < 2 ^ 30) (hb : lb < 2 ^ 30) (h1 : o + S.length < la) (h2 : p + T.length < lb) (hS : rc_At z h o S) (hT : rc_At z g p T) : Te (fun K => qe_X13_isBelow K h (nI o) g (nI p) z) (fun r => r = (bZ (lxb S T), z)) := by
  obtain ⟨s1, s2, s3, s4⟩ := hS
  obtain ⟨t1, t2, t3, t4⟩ := hT
  refine e_X13_isBelow ?_
  refine u_X13_isBelow_0 ?_; unfold qm_X13_isBelow_0
  refine w_rdI hla rfl (by omega) s3 (w_rdI hlb rfl (by omega) t3 ?_)
  have em : (if nI T.length < nI S.length then nI T.length else nI S.length) = nI (min S.length T.length) := by
    by_cases hc : T.length < S.length
    · rw [if_pos (nI_lt hc (by omega)), Nat.min_eq_right (by omega)]
    · rw [if_neg (nI_nlt (by omega) (by omega)), Nat.min_eq_left (by omega)]
  rw [em]
  have key : ∀ (d k : Nat), k + d = min S.length T.length → (∀ j, j < k → S[j]? = T[j]?) → Tt (fun K i => q_X13_isBelow K i 1 (nI o) (nI p) (nI (min S.length T.length)) (nI (k + 1)) h g z) (fun r => r = (bZ (lxb S T), z)) := by
    intro d
    induction d with
    | zero =>
      intro k hk heq
      have e := (lxb_drop k S T heq (by omega) (by omega)).trans (lxb_end (by omega) (by omega) (by omega))
      refine u_X13_isBelow_1 ?_; unfold qm_X13_isBelow_1
      refine w_ltT (by omega) (by omega) (w_rdI hla rfl (by omega) s3 (w_rdI hlb rfl (by omega) t3 (w_le (by omega) (by omega) (fun h9 => w_okZ (Or.inl rfl) (w_some ?_)) (fun h9 => w_okZ (Or.inr rfl) (w_some ?_)))))
      · rw [e, decide_eq_false (by omega)]
        rfl
      · rw [e, decide_eq_true h9]
        rfl
    | succ d ih =>
      intro k hk heq
      have hks : k < S.length := by omega
      have hkt : k < T.length := by omega
      obtain ⟨a, a1, a2, a3⟩ := rc_get (z := z) (o := o) ⟨s1, s2, s3, s4⟩ hks
      obtain ⟨b, b1, b2, b3⟩ := rc_get (z := z) (o := p) ⟨t1, t2, t3, t4⟩ hkt
      refine u_X13_isBelow_1 ?_; unfold qm_X13_isBelow_1
      rw [nI_add, nI_add]
      refine w_ltF (by omega) (by omega) (w_rdI hla rfl (by omega) a3 (w_rdI hlb rfl (by omega) b3 (w_eqN (by omega) (by omega) (fun h9 => ?_) (fun h9 => w_rdI hla rfl (by omega) a3 (w_rdI hlb rfl (by omega) b3 (w_le (by omega) (by omega) (fun h8 => w_okZ (Or.inl rfl) (w_some ?_)) (fun h8 => w_okZ (Or.inr rfl) (w_some ?_))))))))
      · rw [nI_1]
        refine ih (k + 1) (by omega) (fun j hj => ?_)
        by_cases hjk : j = k
        · rw [hjk, a1, b1, h9]
        · exact heq j (by omega)
      · rw [lxb_drop k S T heq (by omega) (by omega), lxb_at a1 b1 h9, decide_eq_false (by omega)]
        rfl
      · rw [lxb_drop k S T heq (by omega) (by omega), lxb_at a1 b1 h9, decide_eq_true h8]
        rfl
  exact key _ 0 (Nat.zero_add _) (fun j hj => by omega)
/-- the visits of a row -/
def vOf (T : List Nat) : Nat := T.countP (fun t => decide (0 < t))
theorem vOf_take {T : List Nat} {k t : Nat} (h : T[k]? = some t) : vOf (T.take (k + 1)) = vOf (T.take k) + if 0 < t then 1 else 0 := by
  obtain ⟨h1, h2⟩ := List.getElem?_eq_some_iff.mp h
  rw [List.take_succ_eq_append_getElem h1, h2]
  unfold vOf
  rw [List.countP_append]
  by_cases h9 : 0 < t
  · rw [if_pos h9, List.countP_cons_of_pos (by simpa using h9)]
    rfl
  · rw [if_neg h9, List.countP_cons_of_neg (by simpa using h9)]
    rfl
theorem vOf_le (T : List Nat) : vOf T ≤ T.length := List.countP_le_length
theorem e_X13_visitsOf {r0 : Nat} {x1 : Int32} {z : ow_MS} {Q : (Int32 × ow_MS) → Prop} (H : Tt (fun K k => q_X13_visitsOf K k 0 x1 0 0 r0 0 0 z) Q) : Te (fun K => qe_X13_visitsOf K r0 x1 z) Q := w_te H
theorem u_X13_visitsOf_0 {x1 : Int32} {x2 : Int32} {x3 : Int32} {r0 : Nat} {t0 : Int32} {t1 : Int32} {z : ow_MS} {Q : (Int32 × ow_MS) → Prop} (H : Tt (fun K k => qm_X13_visitsOf_0 K (q_X13_visitsOf K k) x1 x2 x3 r0 t0 t1 z) Q) : Tt (fun K k => q_X13_visitsOf K k 0 x1 x2 x3 r0 t0 t1 z) Q := w_un (fun _ _ => rfl) H
theorem u_X13_visitsOf_1 {x1 : Int32} {x2 : Int32} {x3 : Int32} {r0 : Nat} {t0 : Int32} {t1 : Int32} {z : ow_MS} {Q : (Int32 × ow_MS) → Prop} (H : Tt (fun K k => qm_X13_visitsOf_1 K (q_X13_visitsOf K k) x1 x2 x3 r0 t0 t1 z) Q) : Tt (fun K k => q_X13_visitsOf K k 1 x1 x2 x3 r0 t0 t1 z) Q := w_un (fun _ _ => rfl) H
theorem u_X13_visitsOf_2 {x1 : Int32} {x2 : Int32} {x3 : Int32} {r0 : Nat} {t0 : Int32} {t1 : Int32} {z : ow_MS} {Q : (Int32 × ow_MS) → Prop} (H : Tt (fun K k => qm_X13_visitsOf_2 K (q_X13_visitsOf K k) x1 x2 x3 r0 t0 t1 z) Q) : Tt (fun K k => q_X13_visitsOf K k 2 x1 x2 x3 r0 t0 t1 z) Q := w_un (fun _ _ => rfl) H
theorem tr_visits {z : ow_MS} {h o la : Nat} {T : List Nat} (hla : (mX.2 h).2.1 = la) (ha : la < 2 ^ 30) (h1 : o + T.length < la) (hT : rc_At z h o T) : Te (fun K => qe_X13_visitsOf K h (nI o) z) (fun r => r = (nI (vOf T), z)) := by
  obtain ⟨t1, t2, t3, t4⟩ := hT
  refine e_X13_visitsOf ?_
  refine u_X13_visitsOf_0 ?_; unfold qm_X13_visitsOf_0
  have key : ∀ (d k : Nat), k + d = T.length → Tt (fun K i => q_X13_visitsOf K i 1 (nI o) (nI (vOf (T.take k))) (nI (k + 1)) h 0 0 z) (fun r => r = (nI (vOf T), z)) := by
    intro d
    induction d with
    | zero =>
      intro k hk
      refine u_X13_visitsOf_1 ?_; unfold qm_X13_visitsOf_1
      refine w_rdI hla rfl (by omega) t3 (w_ltT (by omega) (by omega) (w_some ?_))
      rw [List.take_of_length_le (by omega)]
    | succ d ih =>
      intro k hk
      obtain ⟨t, a1, a2, a3⟩ := rc_get (z := z) (o := o) ⟨t1, t2, t3, t4⟩ (k := k) (by omega)
      have hv := vOf_take a1
      refine u_X13_visitsOf_1 ?_; unfold qm_X13_visitsOf_1
      rw [nI_add]
      refine w_rdI hla rfl (by omega) t3 (w_ltF (by omega) (by omega) (w_rdI hla rfl (by omega) a3 (w_le (b := 0) (by omega) (by omega) (fun h9 => ?_) (fun h9 => ?_))))
      · refine u_X13_visitsOf_2 ?_; unfold qm_X13_visitsOf_2
        have := ih (k + 1) (by omega)
        rw [hv, if_neg (by omega)] at this
        rw [nI_1, Int32.add_zero]
        exact this
      · refine u_X13_visitsOf_2 ?_; unfold qm_X13_visitsOf_2
        have := ih (k + 1) (by omega)
        rw [hv, if_pos h9] at this
        rw [nI_1, nI_1]
        exact this
  exact key _ 0 (Nat.zero_add _)
/-- the order of the lists of diagrams -/
def lsr (S T : List Nat) : Bool := if vOf S = vOf T then lxb S T else decide (vOf S < vOf T)
theorem e_X13_isLesser {r0 : Nat} {x1 : Int32} {r2 : Nat} {x3 : Int32} {z : ow_MS} {Q : (Int32 × ow_MS) → Prop} (H : Tt (fun K _ => qm_X13_isLesser_0 K x1 x3 r0 r2 z) Q) : Te (fun K => qe_X13_isLesser K r0 x1 r2 x3 z) Q := w_te0 H
theorem tr_lesser {z : ow_MS} {h g o p la lb : Nat} {S T : List Nat} (hla : (mX.2 h).2.1 = la) (hlb : (mX.2 g).2.1 = lb) (ha : la < 2 ^ 30) (hb : lb < 2 ^ 30) (h1 : o + S.length < la) (h2 : p + T.length < lb) (hS : rc_At z h o S) (hT : rc_At z g p T) : Te (fun K => qe_X13_isLesser K h (nI o) g (nI p) z) (fun r => r = (bZ (lsr S T), z)) := by
  have v1 := vOf_le S
  have v2 := vOf_le T
  refine e_X13_isLesser ?_; unfold qm_X13_isLesser_0
  refine w_cs1 (tr_visits hla ha h1 hS) (fun a z1 e => ?_)
  cases e
  refine w_cs1 (tr_visits hlb hb h2 hT) (fun a z1 e => ?_)
  cases e
  refine w_eqN (by omega) (by omega) (fun h9 => w_cs1 (tr_below hla hlb ha hb h1 h2 hS hT) (fun a z1 e => ?_)) (fun h9 => w_le (by omega) (by omega) (fun h8 => w_okZ (Or.inl rfl) (w_some ?_)) (fun h8 => w_okZ (Or.inr rfl) (w_some ?_)))
  · cases e
    refine w_okZ (bZ_01 _) (w_some ?_)
    unfold lsr
    rw [if_pos h9]
  · unfold lsr
    rw [if_neg h9, decide_eq_false (by omega)]
    rfl
  · unfold lsr
    rw [if_neg h9, decide_eq_true h8]
    rfl
theorem e_X13_isSame {r0 : Nat} {x1 : Int32} {r2 : Nat} {x3 : Int32} {z : ow_MS} {Q : (Int32 × ow_MS) → Prop} (H : Tt (fun K k => q_X13_isSame K k 0 x1 x3 0 r0 r2 z) Q) : Te (fun K => qe_X13_isSame K r0 x1 r2 x3 z) Q := w_te H
theorem u_X13_isSame_0 {x1 : Int32} {x3 : Int32} {x4 : Int32} {r0 : Nat} {r2 : Nat} {z : ow_MS} {Q : (Int32 × ow_MS) → Prop} (H : Tt (fun K k => qm_X13_isSame_0 K (q_X13_isSame K k) x1 x3 x4 r0 r2 z) Q) : Tt (fun K k => q_X13_isSame K k 0 x1 x3 x4 r0 r2 z) Q := w_un (fun _ _ => rfl) H
theorem u_X13_isSame_1 {x1 : Int32} {x3 : Int32} {x4 : Int32} {r0 : Nat} {r2 : Nat} {z : ow_MS} {Q : (Int32 × ow_MS) → Prop} (H : Tt (fun K k => qm_X13_isSame_1 K (q_X13_isSame K k) x1 x3 x4 r0 r2 z) Q) : Tt (fun K k => q_X13_isSame K k 1 x1 x3 x4 r0 r2 z) Q := w_un (fun _ _ => rfl) H
theorem tr_same {z : ow_MS} {h g o p la lb : Nat} {S T : List Nat} (hla : (mX.2 h).2.1 = la) (hlb : (mX.2 g).2.1 = lb) (ha : la < 2 ^ 30) (hb : lb < 2 ^ 30) (h1 : o + S.length < la) (h2 : p + S.length < lb) (hS : rc_At z h o S) (hT : rc_At z g p T) : Te (fun K => qe_X13_isSame K h (nI o) g (nI p) z) (fun r => r = (bZ (decide (S = T)), z)) := by
  obtain ⟨s1, s2, s3, s4⟩ := hS
  obtain ⟨t1, t2, t3, t4⟩ := hT
  refine e_X13_isSame ?_
  refine u_X13_isSame_0 ?_; unfold qm_X13_isSame_0
  have key : S.length = T.length → ∀ (d k : Nat), k + d = S.length → (∀ j, j < k → S[j]? = T[j]?) → Tt (fun K i => q_X13_isSame K i 1 (nI o) (nI p) (nI (k + 1)) h g z) (fun r => r = (bZ (decide (S = T)), z)) := by
    intro hlen d
    induction d with
    | zero =>
      intro k hk heq
      refine u_X13_isSame_1 ?_; unfold qm_X13_isSame_1
      refine w_rdI hla rfl (by omega) s3 (w_ltT (by omega) (by omega) (w_okZ (Or.inr rfl) (w_some ?_)))
      have e : S = T := List.ext_getElem? (fun j => by
        by_cases hj : j < k
        · exact heq j hj
        · rw [List.getElem?_eq_none (by omega), List.getElem?_eq_none (by omega)])
      rw [decide_eq_true e]
      rfl
    | succ d ih =>
      intro k hk heq
      obtain ⟨a, a1, a2, a3⟩ := rc_get (z := z) (o := o) ⟨s1, s2, s3, s4⟩ (k := k) (by omega)
      obtain ⟨b, b1, b2, b3⟩ := rc_get (z := z) (o := p) ⟨t1, t2, t3, t4⟩ (k := k) (by omega)
      refine u_X13_isSame_1 ?_; unfold qm_X13_isSame_1
      rw [nI_add, nI_add]
      refine w_rdI hla rfl (by omega) s3 (w_ltF (by omega) (by omega) (w_rdI hla rfl (by omega) a3 (w_rdI hlb rfl (by omega) b3 (w_eqN (by omega) (by omega) (fun h9 => ?_) (fun h9 => w_okZ (Or.inl rfl) (w_some ?_))))))
      · rw [nI_1]
        refine ih (k + 1) (by omega) (fun j hj => ?_)
        by_cases hjk : j = k
        · rw [hjk, a1, b1, h9]
        · exact heq j (by omega)
      · have e : ¬ S = T := fun e => by
          rw [e, b1] at a1
          cases a1
          exact h9 rfl
        rw [decide_eq_false e]
        rfl
  refine u_X13_isSame_1 ?_; unfold qm_X13_isSame_1
  refine w_rdI hla rfl (by omega) s3 (w_ltF (b := 0) (by omega) (by omega) ?_)
  have e0 : ∀ a : Nat, nI a + 0 = nI a := fun a => Int32.add_zero _
  rw [e0, e0]
  refine w_rdI hla rfl (by omega) s3 (w_rdI hlb rfl (by omega) t3 (w_eqN (by omega) (by omega) (fun h9 => ?_) (fun h9 => w_okZ (Or.inl rfl) (w_some ?_))))
  · exact key h9 S.length 0 (Nat.zero_add _) (fun j hj => by omega)
  · have e : ¬ S = T := fun e => h9 (by rw [e])
    rw [decide_eq_false e]
    rfl
/-! a net as a row -/
def tkv (sg : Nat → Bool) (p : Nat × Nat) : Nat := 4 * (p.1 + 1) + 2 * p.2 + if sg p.1 then 1 else 0
def tkc (sg : Nat → Bool) (B : List (Nat × Nat)) : List Nat := B.map (tkv sg) ++ [0]
def tk (sg : Nat → Bool) (A : rn_L) : List Nat := (A.map (tkc sg)).flatten
theorem tkc_len {sg : Nat → Bool} {B : List (Nat × Nat)} : (tkc sg B).length = B.length + 1 := by
  unfold tkc
  rw [List.length_append, List.length_map]
  rfl
theorem tk_len {sg : Nat → Bool} : ∀ A : rn_L, (tk sg A).length = A.flatten.length + A.length
  | [] => rfl
  | B :: A => by
    have := tk_len (sg := sg) A
    unfold tk at this ⊢
    rw [List.map_cons, List.flatten_cons, List.length_append, tkc_len, this, List.flatten_cons, List.length_append, List.length_cons]
    omega
theorem tk_app {sg : Nat → Bool} {A B : rn_L} : tk sg (A ++ B) = tk sg A ++ tk sg B := by
  unfold tk
  rw [List.map_append, List.flatten_append]
theorem tk_cons {sg : Nat → Bool} {B : List (Nat × Nat)} {A : rn_L} : tk sg (B :: A) = B.map (tkv sg) ++ 0 :: tk sg A := by
  unfold tk tkc
  rw [List.map_cons, List.flatten_cons, List.append_assoc]
  rfl
/-- the signs of a net's crossings -/
def rn_sg (z : ow_MS) (n : Nat) (F : List (Nat × Nat)) (sg : Nat → Bool) : Prop := ∀ p, p ∈ F → z.2.1 (n + 6) p.1 = if sg p.1 then -1 else 1
theorem rn_shr2 {a : Nat} (ha : a < 2 ^ 31) : nI a >>> ((2 : Int32) &&& 31) = nI (a / 4) := pk_shrN (n := a) ha ((2 : Int32) &&& 31) 2 (by decide)
theorem u_X13_unpack_1 {x1 : Int32} {x3 : Int32} {x4 : Int32} {r0 : Nat} {r2 : Nat} {t0 : Int32} {t1 : Int32} {z : ow_MS} {Q : ow_MS → Prop} (H : Tt (fun K k => qm_X13_unpack_1 K (q_X13_unpack K k) x1 x3 x4 r0 r2 t0 t1 z) Q) : Tt (fun K k => q_X13_unpack K k 1 x1 x3 x4 r0 r2 t0 t1 z) Q := w_un (fun _ _ => rfl) H
theorem u_X13_unpack_3 {x1 : Int32} {x3 : Int32} {x4 : Int32} {r0 : Nat} {r2 : Nat} {t0 : Int32} {t1 : Int32} {z : ow_MS} {Q : ow_MS → Prop} (H : Tt (fun K k => qm_X13_unpack_3 K (q_X13_unpack K k) x1 x3 x4 r0 r2 t0 t1 z) Q) : Tt (fun K k => q_X13_unpack K k 3 x1 x3 x4 r0 r2 t0 t1 z) Q := w_un (fun _ _ => rfl) H
theorem u_X13_unpack_2 {x1 : Int32} {x3 : Int32} {x4 : Int32} {r0 : Nat} {r2 : Nat} {t0 : Int32} {t1 : Int32} {z : ow_MS} {Q : ow_MS → Prop} (H : Tt (fun K k => qm_X13_unpack_2 K (q_X13_unpack K k) x1 x3 x4 r0 r2 t0 t1 z) Q) : Tt (fun K k => q_X13_unpack K k 2 x1 x3 x4 r0 r2 t0 t1 z) Q := w_un (fun _ _ => rfl) H
theorem e_X13_unpack {r0 : Nat} {x1 : Int32} {r2 : Nat} {z : ow_MS} {Q : ow_MS → Prop} (H : Tt (fun K k => q_X13_unpack K k 0 x1 0 0 r0 r2 0 0 z) Q) : Te (fun K => qe_X13_unpack K r0 x1 r2 z) Q := w_te H
theorem u_X13_unpack_0 {x1 : Int32} {x3 : Int32} {x4 : Int32} {r0 : Nat} {r2 : Nat} {t0 : Int32} {t1 : Int32} {z : ow_MS} {Q : ow_MS → Prop} (H : Tt (fun K k => qm_X13_unpack_0 K (q_X13_unpack K k) x1 x3 x4 r0 r2 t0 t1 z) Q) : Tt (fun K k => q_X13_unpack K k 0 x1 x3 x4 r0 r2 t0 t1 z) Q := w_un (fun _ _ => rfl) H
theorem tr_unpack {z : ow_MS} {h o n la : Nat} {A : rn_L} {sg : Nat → Bool} (hn : mw_net n) (hh : h < 1000) (hla : (mX.2 h).2.1 = la) (ha : la < 2 ^ 30) (h1 : o + (tk sg A).length < la) (hc : A.length ≤ 38) (hl : A.flatten.length ≤ 40) (hx : ∀ p : Nat × Nat, p ∈ A.flatten → p.1 < 40 ∧ p.2 < 2) (hT : rc_At z h o (tk sg A)) : Te (fun K => qe_X13_unpack K h (nI o) n z) (fun z1 => rn_At z1 n A [] ∧ rn_sg z1 n A.flatten sg ∧ fr (fun g => n + 1 ≤ g ∧ g ≤ n + 6) z z1) := by
  have hm := net_mod hn
  have frT : ∀ {P : Nat → Prop} {y y1 : ow_MS}, fr P y y1 → (∀ g, P g → n + 1 ≤ g ∧ g ≤ n + 6) → rc_At y h o (tk sg A) → rc_At y1 h o (tk sg A) := fun hf hP h9 => rc_fr hf (fun h8 => by have := hP _ h8; omega) h9
  let Q : ow_MS → Prop := fun z1 => rn_At z1 n A [] ∧ rn_sg z1 n A.flatten sg ∧ fr (fun g => n + 1 ≤ g ∧ g ≤ n + 6) z z1
  have out : ∀ (A2 A1 : rn_L) (z1 : ow_MS), A1 ++ A2 = A → fr (fun g => n + 1 ≤ g ∧ g ≤ n + 6) z z1 → rc_At z1 h o (tk sg A) → rn_At z1 n A1 [] → rn_sg z1 n A1.flatten sg → Tt (fun K k => q_X13_unpack K k 1 (nI o) (nI ((tk sg A1).length + 1)) 0 h n 0 0 z1) Q := by
    intro A2
    induction A2 with
    | nil =>
      intro A1 z1 hA hf hT hzn hs
      rw [List.append_nil] at hA
      subst hA
      refine u_X13_unpack_1 ?_; unfold qm_X13_unpack_1
      exact w_rdI hla rfl (by omega) hT.2.2.1 (w_ltT (by omega) (by omega) (w_some ⟨hzn, hs, hf⟩))
    | cons B A2 ih =>
      intro A1 z1 hA hf hT hzn hs
      have hC : A1.length + 1 ≤ A.length := by
        rw [← hA, List.length_append, List.length_cons]
        omega
      have eT : tk sg A = tk sg A1 ++ (B.map (tkv sg) ++ 0 :: tk sg A2) := by rw [← hA, tk_app, tk_cons]
      have hLT : (tk sg A1).length + B.length + 1 ≤ (tk sg A).length := by
        rw [eT, List.length_append, List.length_append, List.length_map, List.length_cons]
        omega
      have hL : A1.flatten.length + B.length ≤ A.flatten.length := by
        have : (A1 ++ B :: A2).flatten.length = A1.flatten.length + (B.length + A2.flatten.length) := by simp
        rw [← hA]
        omega
      have inn : ∀ (B2 B1 : List (Nat × Nat)) (z1 : ow_MS), B1 ++ B2 = B → fr (fun g => n + 1 ≤ g ∧ g ≤ n + 6) z z1 → rc_At z1 h o (tk sg A) → rn_At z1 n A1 B1 → rn_sg z1 n (A1.flatten ++ B1) sg → Tt (fun K k => q_X13_unpack K k 1 (nI o) (nI ((tk sg A1).length + B1.length + 1)) 0 h n 0 0 z1) Q := by
        intro B2
        induction B2 with
        | nil =>
          intro B1 z1 hB hf hT hzn hs
          rw [List.append_nil] at hB
          subst hB
          have tok : (tk sg A)[(tk sg A1).length + B1.length]? = some 0 := by
            rw [eT, List.getElem?_append_right (by omega), Nat.add_sub_cancel_left, List.getElem?_append_right (by rw [List.length_map]; omega), List.length_map, Nat.sub_self]
            rfl
          have e0 := hT.2.2.2 _ _ tok
          refine u_X13_unpack_1 ?_; unfold qm_X13_unpack_1
          rw [nI_add]
          refine w_rdI hla rfl (by omega) hT.2.2.1 (w_ltF (by omega) (by omega) (w_rdI hla rfl (by omega) e0 (w_ifT rfl (w_cs0 (tn_end hn hzn (by omega)) (fun z2 ⟨e1, e2⟩ => ?_)))))
          refine u_X13_unpack_3 ?_; unfold qm_X13_unpack_3
          rw [nI_1]
          have := ih (A1 ++ [B1]) z2 (by rw [← hA]; simp) (fr_tr hf (fr_mono (fun g hg => by omega) e2)) (frT e2 (fun g hg => by omega) hT) e1 (fun p hp => by
            rw [(e2 (n + 6) (by omega)).2.1]
            exact hs p (by simpa using hp))
          rw [tk_app, tk_cons, List.length_append, List.length_append, List.length_map] at this
          exact this
        | cons p B2 ihB =>
          intro B1 z1 hB hf hT hzn hs
          have hBl : B1.length + (B2.length + 1) = B.length := by
            rw [← hB, List.length_append]
            rfl
          have hpA : p ∈ A.flatten := by
            rw [← hA, ← hB]
            simp
          obtain ⟨hp1, hp2⟩ := hx p hpA
          have tok : (tk sg A)[(tk sg A1).length + B1.length]? = some (tkv sg p) := by
            rw [eT, List.getElem?_append_right (by omega), Nat.add_sub_cancel_left, List.getElem?_append_left (by rw [List.length_map]; omega), ← hB, List.map_append, List.getElem?_append_right (by rw [List.length_map]; omega), List.length_map, Nat.sub_self]
            rfl
          have e0 := hT.2.2.2 _ _ tok
          have ht : tkv sg p < 200 := hT.2.1 _ (List.mem_of_getElem? tok)
          have hq : tkv sg p / 4 = p.1 + 1 ∧ tkv sg p / 2 % 2 = p.2 ∧ tkv sg p % 2 = (if sg p.1 then 1 else 0) ∧ 0 < tkv sg p := by
            unfold tkv
            cases sg p.1 <;> simp <;> omega
          obtain ⟨q1, q2, q3, q4⟩ := hq
          have eS : nI (tkv sg p) >>> ((2 : Int32) &&& 31) - 1 = nI p.1 := by
            rw [rn_shr2 (by omega), q1]
            exact nI_pred _
          have eU : nI (tkv sg p) >>> ((1 : Int32) &&& 31) &&& 1 = nI p.2 := by
            rw [rn_shr1 (by omega), rn_and1 (by omega), q2]
          have c2 : ∀ t : Int32, t = (if sg p.1 then -1 else 1) → Tt (fun K k => q_X13_unpack K k 2 (nI o) (nI ((tk sg A1).length + B1.length + 1)) (nI (tkv sg p)) h n t (nI p.1) z1) Q := by
            intro t ht
            refine u_X13_unpack_2 ?_; unfold qm_X13_unpack_2
            rw [eS, eU]
            have hA2 : rn_At (usI z1 (n + 6) p.1 t) n A1 B1 := fr_At (P := fun g => g = n + 6) (fr_I rfl) (fun g hg => by omega) hzn
            refine w_wrI (pl6 hn) rfl hp1 (w_cs0 (tn_add hn hA2 (by rw [List.length_append]; omega)) (fun z2 ⟨e1, e2⟩ => ?_))
            refine u_X13_unpack_3 ?_; unfold qm_X13_unpack_3
            rw [nI_1]
            have hf2 : fr (fun g => n + 1 ≤ g ∧ g ≤ n + 6) z1 z2 := fr_tr (fr_I (by omega)) (fr_mono (fun g hg => by omega) e2)
            have := ihB (B1 ++ [p]) z2 (by rw [← hB]; simp) (fr_tr hf hf2) (frT hf2 (fun g hg => hg) hT) e1 (fun p9 hp9 => by
              rw [(e2 (n + 6) (by omega)).2.1]
              by_cases he : p9.1 = p.1
              · rw [he, po_usI_at, ht]
              · rw [po_usI_ne he]
                rw [← List.append_assoc, List.mem_append] at hp9
                rcases hp9 with hp9 | hp9
                · exact hs p9 hp9
                · rw [List.mem_singleton.mp hp9] at he
                  exact absurd rfl he)
            rw [List.length_append] at this
            exact this
          refine u_X13_unpack_1 ?_; unfold qm_X13_unpack_1
          rw [nI_add]
          refine w_rdI hla rfl (by omega) hT.2.2.1 (w_ltF (by omega) (by omega) (w_rdI hla rfl (by omega) e0 (w_ifF (nI_ne0 q4 (by omega)) ?_)))
          rw [rn_and1 (by omega), q3, eS]
          cases hsg : sg p.1 with
          | true => exact w_ifT rfl (c2 _ (by rw [hsg]; rfl))
          | false => exact w_ifF (by decide) (c2 _ (by rw [hsg]; rfl))
      exact inn B [] z1 (List.nil_append _) hf hT hzn (by rw [List.append_nil]; exact hs)
  refine e_X13_unpack ?_
  refine u_X13_unpack_0 ?_; unfold qm_X13_unpack_0
  refine w_cs0 (tn_clear hn) (fun z1 ⟨e1, e2⟩ => ?_)
  exact out A [] z1 (List.nil_append _) (fr_mono (fun g hg => by omega) e2) (frT e2 (fun g hg => by omega) hT) e1 (fun p hp => by simp at hp)
end
section
/-! 99zzg.trav -/
/-! the code from a start, as lists -/
def vAt (A : rn_L) (v : Nat) : Nat × Nat := (A.flatten[v]?).getD (0, 0)
def crs (A : rn_L) (v : Nat) : Nat := (vAt A v).1
def uns (A : rn_L) (v : Nat) : Nat := (vAt A v).2
theorem vAt_of {A : rn_L} {v : Nat} (h : v < A.flatten.length) : A.flatten[v]? = some (vAt A v) := by
  unfold vAt
  rw [List.getElem?_eq_getElem h]
  rfl
theorem vAt_eq {A : rn_L} {v : Nat} {p : Nat × Nat} (h : A.flatten[v]? = some p) : vAt A v = p := by
  unfold vAt
  rw [h]
  rfl
def mtf (A : rn_L) (v : Nat) : Nat := ((List.range A.flatten.length).find? (fun w => decide (w ≠ v) && decide (crs A w = crs A v))).getD 0
theorem mtf_eq {A : rn_L} {v w : Nat} (hd : rn_ok A.flatten) (h : rn_mt A.flatten v w) : mtf A v = w := by
  unfold mtf
  obtain ⟨hv, hw⟩ := rn_mt_lt h
  have hmt : ∀ u, u < A.flatten.length → (decide (u ≠ v) && decide (crs A u = crs A v)) = true → rn_mt A.flatten v u := by
    intro u hu h9
    rw [Bool.and_eq_true, decide_eq_true_iff, decide_eq_true_iff] at h9
    exact ⟨fun e => h9.1 e.symm, _, _, vAt_of hv, vAt_of hu, h9.2.symm⟩
  cases hf : (List.range A.flatten.length).find? (fun w => decide (w ≠ v) && decide (crs A w = crs A v)) with
  | none =>
    have h1 := List.find?_eq_none.mp hf w (List.mem_range.mpr hw)
    exfalso
    apply h1
    obtain ⟨h2, p, q, h3, h4, h5⟩ := h
    rw [Bool.and_eq_true, decide_eq_true_iff, decide_eq_true_iff]
    refine ⟨fun e => h2 e.symm, ?_⟩
    unfold crs
    rw [vAt_eq h3, vAt_eq h4, h5]
  | some u =>
    have h1 := List.find?_some hf
    have h2 := List.mem_range.mp (List.mem_of_find?_eq_some hf)
    exact hd.1.1 v u w (hmt u h2 h1) h
theorem mtf_mt {A : rn_L} {v : Nat} (hd : rn_ok A.flatten) (hv : v < A.flatten.length) : rn_mt A.flatten v (mtf A v) := by
  obtain ⟨w, hw⟩ := hd.2 v hv
  rw [mtf_eq hd hw]
  exact hw
/-- a component's length, and its visits from s on -/
def rlen (A : rn_L) (c : Nat) : Nat := rn_b A (c + 1) - rn_b A c
def rv (A : rn_L) (s j : Nat) : Nat := if s + j < rn_b A (rn_c A s + 1) then s + j else s + j - rlen A (rn_c A s)
theorem rv_0 {A : rn_L} {s : Nat} (hs : s < A.flatten.length) : rv A s 0 = s := by
  obtain ⟨h1, h2, h3⟩ := rn_c_in A s hs
  unfold rv
  rw [if_pos (by omega)]
  rfl
theorem rlen_pos {A : rn_L} {s : Nat} (hs : s < A.flatten.length) : 0 < rlen A (rn_c A s) := by
  obtain ⟨h1, h2, h3⟩ := rn_c_in A s hs
  unfold rlen
  omega
theorem rv_in {A : rn_L} {s j : Nat} (hs : s < A.flatten.length) (hj : j < rlen A (rn_c A s)) : rn_b A (rn_c A s) ≤ rv A s j ∧ rv A s j < rn_b A (rn_c A s + 1) := by
  obtain ⟨h1, h2, h3⟩ := rn_c_in A s hs
  unfold rv
  unfold rlen at hj ⊢
  by_cases h : s + j < rn_b A (rn_c A s + 1)
  · rw [if_pos h]; omega
  · rw [if_neg h]; omega
theorem rv_c {A : rn_L} {s j : Nat} (hs : s < A.flatten.length) (hj : j < rlen A (rn_c A s)) : rn_c A (rv A s j) = rn_c A s := by
  obtain ⟨h1, h2⟩ := rv_in hs hj
  exact rn_c_of A _ _ h1 h2
theorem rv_lt {A : rn_L} {s j : Nat} (hs : s < A.flatten.length) (hj : j < rlen A (rn_c A s)) : rv A s j < A.flatten.length := by
  obtain ⟨h1, h2⟩ := rv_in hs hj
  have := rn_b_le A (rn_c A s + 1)
  omega
theorem rv_nx {A : rn_L} {s j : Nat} (hs : s < A.flatten.length) (hj : j < rlen A (rn_c A s)) : rn_nx A (rv A s j) = if j + 1 = rlen A (rn_c A s) then s else rv A s (j + 1) := by
  obtain ⟨h1, h2, h3⟩ := rn_c_in A s hs
  have hc := rv_c hs hj
  obtain ⟨h4, h5⟩ := rv_in hs hj
  unfold rn_nx
  rw [hc]
  unfold rv at h4 h5 ⊢
  unfold rlen at hj h4 h5 ⊢
  generalize rn_b A (rn_c A s) = b0 at *
  generalize rn_b A (rn_c A s + 1) = b1 at *
  by_cases h : s + j < b1
  · rw [if_pos h] at h4 h5 ⊢
    by_cases h6 : s + j + 1 < b1
    · rw [if_pos h6, if_neg (by omega), if_pos (by omega)]
      omega
    · rw [if_neg h6]
      by_cases h7 : j + 1 = b1 - b0
      · rw [if_pos h7]; omega
      · rw [if_neg h7, if_neg (by omega)]; omega
  · rw [if_neg h] at h4 h5 ⊢
    by_cases h7 : j + 1 = b1 - b0
    · rw [if_pos h7, if_pos (by omega)]; omega
    · rw [if_neg h7, if_pos (by omega), if_neg (by omega)]; omega
theorem rv_ne {A : rn_L} {s j : Nat} (hs : s < A.flatten.length) (hj : j < rlen A (rn_c A s)) (h0 : 0 < j) : rv A s j ≠ s := by
  obtain ⟨h1, h2, h3⟩ := rn_c_in A s hs
  unfold rv
  unfold rlen at hj ⊢
  by_cases h : s + j < rn_b A (rn_c A s + 1)
  · rw [if_pos h]; omega
  · rw [if_neg h]; omega
def rgl (A : rn_L) (s : Nat) : List Nat := (List.range (rlen A (rn_c A s))).map (rv A s)
def vsO (A : rn_L) (S : List Nat) : List Nat := (S.map (rgl A)).flatten
theorem vsO_app {A : rn_L} {S : List Nat} {s : Nat} : vsO A (S ++ [s]) = vsO A S ++ rgl A s := by
  unfold vsO
  rw [List.map_append, List.flatten_append]
  simp
theorem rgl_len {A : rn_L} {s : Nat} : (rgl A s).length = rlen A (rn_c A s) := by
  unfold rgl
  rw [List.length_map, List.length_range]
theorem rgl_mem {A : rn_L} {s v : Nat} (h : v ∈ rgl A s) : ∃ j, j < rlen A (rn_c A s) ∧ v = rv A s j := by
  unfold rgl at h
  obtain ⟨j, h1, h2⟩ := List.mem_map.mp h
  exact ⟨j, List.mem_range.mp h1, h2.symm⟩
/-- the visits that meet a crossing first -/
def fmA (A : rn_L) (a : List Nat) (v : Nat) : List Nat := if crs A v ∈ a.map (crs A) then a else a ++ [v]
def fm (A : rn_L) (vs : List Nat) : List Nat := vs.foldl (fmA A) []
theorem fm_app {A : rn_L} {vs : List Nat} {v : Nat} : fm A (vs ++ [v]) = fmA A (fm A vs) v := by
  unfold fm
  rw [List.foldl_append]
  rfl
theorem fm_rev {A : rn_L} {P : List Nat → Prop} (h0 : P []) (h1 : ∀ vs v, P vs → P (vs ++ [v])) : ∀ vs, P vs := by
  intro vs
  have : ∀ n, ∀ vs : List Nat, vs.length = n → P vs := by
    intro n
    induction n with
    | zero => intro vs h; rw [List.length_eq_zero_iff.mp h]; exact h0
    | succ n ih =>
      intro vs h
      rcases List.eq_nil_or_concat vs with e | ⟨L, b, e⟩
      · rw [e] at h; simp at h
      · rw [e, List.concat_eq_append]
        exact h1 L b (ih L (by rw [e, List.concat_eq_append, List.length_append] at h; simpa using h))
  exact this _ vs rfl
theorem fm_len {A : rn_L} (vs : List Nat) : (fm A vs).length ≤ vs.length := by
  refine fm_rev (A := A) (P := fun vs => (fm A vs).length ≤ vs.length) (Nat.le_refl _) (fun vs v ih => ?_) vs
  rw [fm_app, List.length_append]
  unfold fmA
  by_cases h : crs A v ∈ (fm A vs).map (crs A)
  · rw [if_pos h]; simp; omega
  · rw [if_neg h, List.length_append]; simp; omega
theorem fm_mem {A : rn_L} {u : Nat} (vs : List Nat) : u ∈ fm A vs → u ∈ vs := by
  refine fm_rev (A := A) (P := fun vs => u ∈ fm A vs → u ∈ vs) (fun h => h) (fun vs v ih => ?_) vs
  rw [fm_app]
  unfold fmA
  intro h
  rw [List.mem_append]
  by_cases h9 : crs A v ∈ (fm A vs).map (crs A)
  · rw [if_pos h9] at h; exact Or.inl (ih h)
  · rw [if_neg h9, List.mem_append] at h
    rcases h with h | h
    · exact Or.inl (ih h)
    · exact Or.inr h
theorem fm_cr {A : rn_L} {x : Nat} (vs : List Nat) : x ∈ (fm A vs).map (crs A) ↔ x ∈ vs.map (crs A) := by
  refine fm_rev (A := A) (P := fun vs => x ∈ (fm A vs).map (crs A) ↔ x ∈ vs.map (crs A)) (by exact Iff.rfl) (fun vs v ih => ?_) vs
  rw [fm_app, List.map_append, List.mem_append, ← ih]
  unfold fmA
  by_cases h9 : crs A v ∈ (fm A vs).map (crs A)
  · rw [if_pos h9]
    constructor
    · exact Or.inl
    · rintro (h | h)
      · exact h
      · have e : x = crs A v := by simpa using h
        rw [e]; exact h9
  · rw [if_neg h9, List.map_append, List.mem_append]
theorem fm_nd {A : rn_L} (vs : List Nat) : ((fm A vs).map (crs A)).Nodup := by
  refine fm_rev (A := A) (P := fun vs => ((fm A vs).map (crs A)).Nodup) List.nodup_nil (fun vs v ih => ?_) vs
  rw [fm_app]
  unfold fmA
  by_cases h9 : crs A v ∈ (fm A vs).map (crs A)
  · rw [if_pos h9]; exact ih
  · rw [if_neg h9, List.map_append, List.nodup_append]
    refine ⟨ih, by simp, fun a ha b hb => ?_⟩
    have e : b = crs A v := by simpa using hb
    rw [e]
    exact fun e => h9 (e ▸ ha)
def num (A : rn_L) (vs : List Nat) (x : Nat) : Nat := ((fm A vs).map (crs A)).idxOf x + 1
theorem fm_pre {A : rn_L} (vs ws : List Nat) : ∃ us, fm A (vs ++ ws) = fm A vs ++ us := by
  refine fm_rev (A := A) (P := fun ws => ∃ us, fm A (vs ++ ws) = fm A vs ++ us) ⟨[], by simp⟩ (fun ws v ih => ?_) ws
  obtain ⟨us, h⟩ := ih
  rw [← List.append_assoc, fm_app, h]
  unfold fmA
  by_cases h9 : crs A v ∈ (fm A vs ++ us).map (crs A)
  · exact ⟨us, by rw [if_pos h9]⟩
  · exact ⟨us ++ [v], by rw [if_neg h9, List.append_assoc]⟩
theorem num_st {A : rn_L} {vs ws : List Nat} {x : Nat} (h : x ∈ vs.map (crs A)) : num A (vs ++ ws) x = num A vs x := by
  obtain ⟨us, e⟩ := fm_pre (A := A) vs ws
  unfold num
  rw [e, List.map_append, List.idxOf_append, if_pos ((fm_cr vs).mpr h)]
theorem num_le {A : rn_L} {vs : List Nat} {x : Nat} (h : x ∈ vs.map (crs A)) : num A vs x ≤ (fm A vs).length := by
  have := List.idxOf_lt_length_of_mem ((fm_cr vs).mpr h)
  rw [List.length_map] at this
  unfold num
  omega
theorem num_at {A : rn_L} {vs : List Nat} {x : Nat} (h : x ∈ vs.map (crs A)) : ∃ v, (fm A vs)[num A vs x - 1]? = some v ∧ crs A v = x := by
  have h1 := List.idxOf_lt_length_of_mem ((fm_cr vs).mpr h)
  have h2 := List.getElem_idxOf h1
  have h3 : ((fm A vs).map (crs A)).idxOf x < (fm A vs).length := by rw [List.length_map] at h1; exact h1
  refine ⟨(fm A vs)[((fm A vs).map (crs A)).idxOf x], ?_, ?_⟩
  · unfold num
    rw [Nat.add_sub_cancel, List.getElem?_eq_getElem h3]
  · rw [List.getElem_map] at h2
    exact h2
theorem num_of {A : rn_L} {vs : List Nat} {k v : Nat} (h : (fm A vs)[k]? = some v) : num A vs (crs A v) = k + 1 := by
  obtain ⟨h1, h2⟩ := List.getElem?_eq_some_iff.mp h
  have h3 := (fm_nd (A := A) vs).idxOf_getElem k (by rw [List.length_map]; exact h1)
  rw [List.getElem_map, h2] at h3
  unfold num
  rw [h3]
def tkn (A : rn_L) (sg : Nat → Bool) (vs : List Nat) (v : Nat) : Nat := 4 * num A vs (crs A v) + 2 * uns A v + if sg (crs A v) then 1 else 0
theorem tkn_st {A : rn_L} {sg : Nat → Bool} {vs ws : List Nat} {v : Nat} (h : v ∈ vs) : tkn A sg (vs ++ ws) v = tkn A sg vs v := by
  unfold tkn
  rw [num_st (List.mem_map.mpr ⟨v, h, rfl⟩)]
def tks (A : rn_L) (sg : Nat → Bool) (vs S : List Nat) : List Nat := (S.map (fun s => (rgl A s).map (tkn A sg vs) ++ [0])).flatten
theorem tks_st {A : rn_L} {sg : Nat → Bool} {vs ws : List Nat} : ∀ S : List Nat, (∀ s, s ∈ S → ∀ v, v ∈ rgl A s → v ∈ vs) → tks A sg (vs ++ ws) S = tks A sg vs S
  | [], _ => rfl
  | s :: S, h => by
    have ih := tks_st (sg := sg) (ws := ws) S (fun s hs => h s (List.mem_cons_of_mem _ hs))
    unfold tks at ih ⊢
    rw [List.map_cons, List.flatten_cons, List.map_cons, List.flatten_cons, ih]
    congr 2
    exact List.map_congr_left (fun v hv => tkn_st (h s List.mem_cons_self v hv))
theorem tks_app {A : rn_L} {sg : Nat → Bool} {vs S : List Nat} {s : Nat} : tks A sg vs (S ++ [s]) = tks A sg vs S ++ ((rgl A s).map (tkn A sg vs) ++ [0]) := by
  unfold tks
  rw [List.map_append, List.flatten_append]
  simp
theorem vsO_mem {A : rn_L} {S : List Nat} {s v : Nat} (hs : s ∈ S) (hv : v ∈ rgl A s) : v ∈ vsO A S := by
  unfold vsO
  exact List.mem_flatten.mpr ⟨rgl A s, List.mem_map.mpr ⟨s, hs, rfl⟩, hv⟩
/-- where the walk goes on when the components of S are done -/
def gn (A : rn_L) (S : List Nat) (c : Nat) : Bool := decide (c ∈ S.map (rn_c A))
def nxS (A : rn_L) (S : List Nat) : Option Nat := ((fm A (vsO A S)).find? (fun v => !gn A S (rn_c A (mtf A v)))).map (mtf A)
def trF (A : rn_L) : Nat → List Nat → List Nat
  | 0, S => S
  | f + 1, S => match nxS A S with
    | none => S
    | some w => trF A f (S ++ [w])
def trS (A : rn_L) (s : Nat) : List Nat := trF A A.length [s]
theorem trF_none {A : rn_L} {S : List Nat} (h : nxS A S = none) : ∀ f, trF A f S = S
  | 0 => rfl
  | f + 1 => by
    unfold trF
    rw [h]
theorem trF_some {A : rn_L} {S : List Nat} {f w : Nat} (h : nxS A S = some w) : trF A (f + 1) S = trF A f (S ++ [w]) := by
  show (match nxS A S with | none => S | some w => trF A f (S ++ [w])) = _
  rw [h]
/-- what is left of a sum -/
def rem (g : Nat → Bool) (f : Nat → Nat) : Nat → Nat
  | 0 => 0
  | n + 1 => rem g f n + if g n then 0 else f n
theorem rem_congr {g g' : Nat → Bool} {f : Nat → Nat} : ∀ n, (∀ c, c < n → g c = g' c) → rem g f n = rem g' f n
  | 0, _ => rfl
  | n + 1, h => by
    unfold rem
    rw [rem_congr n (fun c hc => h c (by omega)), h n (by omega)]
theorem rem_st {g g' : Nat → Bool} {f : Nat → Nat} {c : Nat} (h0 : g c = false) (h1 : ∀ b, g' b = (g b || decide (b = c))) : ∀ n, c < n → rem g' f n + f c = rem g f n
  | 0, h => by omega
  | n + 1, h => by
    unfold rem
    by_cases hc : c = n
    · subst hc
      have e : rem g' f c = rem g f c := rem_congr c (fun b hb => by
        rw [h1 b, decide_eq_false (by omega), Bool.or_false])
      rw [e, h1 c, decide_eq_true rfl, Bool.or_true, h0]
      simp
    · have ih := rem_st (f := f) h0 h1 n (by omega)
      rw [h1 n, decide_eq_false (by omega), Bool.or_false]
      omega
theorem rem_b (A : rn_L) : ∀ n, n ≤ A.length → rem (fun _ => false) (rlen A) n = rn_b A n
  | 0, _ => rfl
  | n + 1, h => by
    unfold rem
    rw [rem_b A n (by omega)]
    have := rn_b_mono A n
    unfold rlen
    simp
    omega
theorem rem_1 : ∀ n, rem (fun _ => false) (fun _ => 1) n = n
  | 0 => rfl
  | n + 1 => by
    unfold rem
    rw [rem_1 n]
    rfl
theorem gn_app {A : rn_L} {S : List Nat} {w b : Nat} : gn A (S ++ [w]) b = (gn A S b || decide (b = rn_c A w)) := by
  unfold gn
  rw [List.map_append]
  by_cases h1 : b ∈ S.map (rn_c A)
  · simp [h1]
  · by_cases h2 : b = rn_c A w <;> simp [h1, h2]
/-! rowFrom -/
def rjN (A : rn_L) (z : ow_MS) (vs : List Nat) : Prop := (∀ k v, (fm A vs)[k]? = some v → z.2.1 5 (k + 1) = nI v ∧ z.2.1 4 (crs A v) = nI (k + 1)) ∧ ∀ x, x < 40 → x ∉ (fm A vs).map (crs A) → z.2.1 4 x = 0
def rjT (z : ow_MS) (T : List Nat) : Prop := z.1 3 = nI T.length ∧ ∀ k t, T[k]? = some t → z.2.1 2 (k + 1) = nI t
def rjG (A : rn_L) (z : ow_MS) (S : List Nat) : Prop := ∀ c, c < A.length → z.2.1 6 c = bZ (gn A S c)
theorem rjN_fr {P : Nat → Prop} {A : rn_L} {z z1 : ow_MS} {vs : List Nat} (hf : fr P z z1) (h4 : ¬ P 4) (h5 : ¬ P 5) (h : rjN A z vs) : rjN A z1 vs := by
  have e4 := (hf 4 h4).2.1
  have e5 := (hf 5 h5).2.1
  exact ⟨fun k v hk => by rw [e4, e5]; exact h.1 k v hk, fun x hx hn => by rw [e4]; exact h.2 x hx hn⟩
theorem rjT_fr {P : Nat → Prop} {z z1 : ow_MS} {T : List Nat} (hf : fr P z z1) (h2 : ¬ P 2) (h3 : ¬ P 3) (h : rjT z T) : rjT z1 T := ⟨by rw [(hf 3 h3).1]; exact h.1, fun k t hk => by rw [(hf 2 h2).2.1]; exact h.2 k t hk⟩
theorem rjG_fr {P : Nat → Prop} {A : rn_L} {z z1 : ow_MS} {S : List Nat} (hf : fr P z z1) (h6 : ¬ P 6) (h : rjG A z S) : rjG A z1 S := fun c hc => by rw [(hf 6 h6).2.1]; exact h c hc
theorem rjN_num {A : rn_L} {z : ow_MS} {vs : List Nat} {x : Nat} (h : rjN A z vs) (hx : x ∈ vs.map (crs A)) : z.2.1 4 x = nI (num A vs x) := by
  obtain ⟨v, h1, h2⟩ := num_at hx
  have h3 := (h.1 _ _ h1).2
  have h4 : num A vs x - 1 + 1 = num A vs x := by unfold num; omega
  rw [h2, h4] at h3
  exact h3
/-- a crossing met again -/
theorem rjN_old {A : rn_L} {z : ow_MS} {vs : List Nat} {v : Nat} (h : rjN A z vs) (hv : crs A v ∈ (fm A vs).map (crs A)) : rjN A z (vs ++ [v]) := by
  have e : fm A (vs ++ [v]) = fm A vs := by
    rw [fm_app]
    unfold fmA
    rw [if_pos hv]
  unfold rjN
  rw [e]
  exact h
/-- a crossing met for the first time -/
theorem rjN_new {A : rn_L} {z : ow_MS} {vs : List Nat} {v : Nat} (h : rjN A z vs) (hv : crs A v ∉ (fm A vs).map (crs A)) : rjN A (usI (usI z 4 (crs A v) (nI ((fm A vs).length + 1))) 5 ((fm A vs).length + 1) (nI v)) (vs ++ [v]) := by
  have e : fm A (vs ++ [v]) = fm A vs ++ [v] := by
    rw [fm_app]
    unfold fmA
    rw [if_neg hv]
  unfold rjN
  rw [e]
  refine ⟨fun k u hk => ?_, fun x hx hn => ?_⟩
  · by_cases hkl : k < (fm A vs).length
    · rw [List.getElem?_append_left hkl] at hk
      obtain ⟨h1, h2⟩ := h.1 k u hk
      have hne : crs A u ≠ crs A v := fun e9 => hv (e9 ▸ List.mem_map.mpr ⟨u, List.mem_of_getElem? hk, rfl⟩)
      exact ⟨rd_ne (by omega) (rd_ot (by decide) h1), rd_ot (by decide) (rd_ne hne h2)⟩
    · have hk2 : k = (fm A vs).length := by
        have := (List.getElem?_eq_some_iff.mp hk).1
        rw [List.length_append] at this
        simp at this
        omega
      subst hk2
      rw [List.getElem?_append_right (Nat.le_refl _), Nat.sub_self] at hk
      cases hk
      exact ⟨po_usI_at, rd_ot (by decide) po_usI_at⟩
  · rw [List.map_append, List.mem_append] at hn
    have h1 : x ∉ (fm A vs).map (crs A) := fun h9 => hn (Or.inl h9)
    have h2 : x ≠ crs A v := fun h9 => hn (Or.inr (by simp [h9]))
    exact rd_ot (by decide) (rd_ne h2 (h.2 x hx h1))
theorem rjT_app {z : ow_MS} {T : List Nat} {t : Nat} (h : rjT z T) : rjT (usI (usF z 3 (nI (T.length + 1))) 2 (T.length + 1) (nI t)) (T ++ [t]) := by
  have e0 : (usF z 3 (nI (T.length + 1))).1 3 = nI (T ++ [t]).length := by
    rw [List.length_append]
    exact po_usF_at
  refine ⟨e0, fun k u hk => ?_⟩
  by_cases hkl : k < T.length
  · rw [List.getElem?_append_left hkl] at hk
    exact rd_ne (by omega) (h.2 k u hk)
  · have hk2 : k = T.length := by
      have := (List.getElem?_eq_some_iff.mp hk).1
      rw [List.length_append] at this
      simp at this
      omega
    subst hk2
    rw [List.getElem?_append_right (Nat.le_refl _), Nat.sub_self] at hk
    cases hk
    exact po_usI_at
abbrev frR (g : Nat) : Prop := 2 ≤ g ∧ g ≤ 6
theorem u_X13_rowFrom_2 {x2 : Int32} {x3 : Int32} {x4 : Int32} {x5 : Int32} {x6 : Int32} {x7 : Int32} {r1 : Nat} {t0 : Int32} {t1 : Int32} {t2 : Int32} {z : ow_MS} {Q : ow_MS → Prop} (H : Tt (fun K k => qm_X13_rowFrom_2 K (q_X13_rowFrom K k) x2 x3 x4 x5 x6 x7 r1 t0 t1 t2 z) Q) : Tt (fun K k => q_X13_rowFrom K k 2 x2 x3 x4 x5 x6 x7 r1 t0 t1 t2 z) Q := w_un (fun _ _ => rfl) H
theorem u_X13_rowFrom_5 {x2 : Int32} {x3 : Int32} {x4 : Int32} {x5 : Int32} {x6 : Int32} {x7 : Int32} {r1 : Nat} {t0 : Int32} {t1 : Int32} {t2 : Int32} {z : ow_MS} {Q : ow_MS → Prop} (H : Tt (fun K k => qm_X13_rowFrom_5 K (q_X13_rowFrom K k) x2 x3 x4 x5 x6 x7 r1 t0 t1 t2 z) Q) : Tt (fun K k => q_X13_rowFrom K k 5 x2 x3 x4 x5 x6 x7 r1 t0 t1 t2 z) Q := w_un (fun _ _ => rfl) H
theorem u_X13_rowFrom_4 {x2 : Int32} {x3 : Int32} {x4 : Int32} {x5 : Int32} {x6 : Int32} {x7 : Int32} {r1 : Nat} {t0 : Int32} {t1 : Int32} {t2 : Int32} {z : ow_MS} {Q : ow_MS → Prop} (H : Tt (fun K k => qm_X13_rowFrom_4 K (q_X13_rowFrom K k) x2 x3 x4 x5 x6 x7 r1 t0 t1 t2 z) Q) : Tt (fun K k => q_X13_rowFrom K k 4 x2 x3 x4 x5 x6 x7 r1 t0 t1 t2 z) Q := w_un (fun _ _ => rfl) H
theorem u_X13_rowFrom_3 {x2 : Int32} {x3 : Int32} {x4 : Int32} {x5 : Int32} {x6 : Int32} {x7 : Int32} {r1 : Nat} {t0 : Int32} {t1 : Int32} {t2 : Int32} {z : ow_MS} {Q : ow_MS → Prop} (H : Tt (fun K k => qm_X13_rowFrom_3 K (q_X13_rowFrom K k) x2 x3 x4 x5 x6 x7 r1 t0 t1 t2 z) Q) : Tt (fun K k => q_X13_rowFrom K k 3 x2 x3 x4 x5 x6 x7 r1 t0 t1 t2 z) Q := w_un (fun _ _ => rfl) H
theorem u_X13_rowFrom_6 {x2 : Int32} {x3 : Int32} {x4 : Int32} {x5 : Int32} {x6 : Int32} {x7 : Int32} {r1 : Nat} {t0 : Int32} {t1 : Int32} {t2 : Int32} {z : ow_MS} {Q : ow_MS → Prop} (H : Tt (fun K k => qm_X13_rowFrom_6 K (q_X13_rowFrom K k) x2 x3 x4 x5 x6 x7 r1 t0 t1 t2 z) Q) : Tt (fun K k => q_X13_rowFrom K k 6 x2 x3 x4 x5 x6 x7 r1 t0 t1 t2 z) Q := w_un (fun _ _ => rfl) H
theorem u_X13_rowFrom_8 {x2 : Int32} {x3 : Int32} {x4 : Int32} {x5 : Int32} {x6 : Int32} {x7 : Int32} {r1 : Nat} {t0 : Int32} {t1 : Int32} {t2 : Int32} {z : ow_MS} {Q : ow_MS → Prop} (H : Tt (fun K k => qm_X13_rowFrom_8 K (q_X13_rowFrom K k) x2 x3 x4 x5 x6 x7 r1 t0 t1 t2 z) Q) : Tt (fun K k => q_X13_rowFrom K k 8 x2 x3 x4 x5 x6 x7 r1 t0 t1 t2 z) Q := w_un (fun _ _ => rfl) H
theorem u_X13_rowFrom_7 {x2 : Int32} {x3 : Int32} {x4 : Int32} {x5 : Int32} {x6 : Int32} {x7 : Int32} {r1 : Nat} {t0 : Int32} {t1 : Int32} {t2 : Int32} {z : ow_MS} {Q : ow_MS → Prop} (H : Tt (fun K k => qm_X13_rowFrom_7 K (q_X13_rowFrom K k) x2 x3 x4 x5 x6 x7 r1 t0 t1 t2 z) Q) : Tt (fun K k => q_X13_rowFrom K k 7 x2 x3 x4 x5 x6 x7 r1 t0 t1 t2 z) Q := w_un (fun _ _ => rfl) H
theorem u_X13_rowFrom_1 {x2 : Int32} {x3 : Int32} {x4 : Int32} {x5 : Int32} {x6 : Int32} {x7 : Int32} {r1 : Nat} {t0 : Int32} {t1 : Int32} {t2 : Int32} {z : ow_MS} {Q : ow_MS → Prop} (H : Tt (fun K k => qm_X13_rowFrom_1 K (q_X13_rowFrom K k) x2 x3 x4 x5 x6 x7 r1 t0 t1 t2 z) Q) : Tt (fun K k => q_X13_rowFrom K k 1 x2 x3 x4 x5 x6 x7 r1 t0 t1 t2 z) Q := w_un (fun _ _ => rfl) H
theorem e_X13_rowFrom {r1 : Nat} {x2 : Int32} {z : ow_MS} {Q : ow_MS → Prop} (H : Tt (fun K k => q_X13_rowFrom K k 0 x2 0 0 0 0 0 r1 0 0 0 z) Q) : Te (fun K => qe_X13_rowFrom K r1 x2 z) Q := w_te H
theorem u_X13_rowFrom_0 {x2 : Int32} {x3 : Int32} {x4 : Int32} {x5 : Int32} {x6 : Int32} {x7 : Int32} {r1 : Nat} {t0 : Int32} {t1 : Int32} {t2 : Int32} {z : ow_MS} {Q : ow_MS → Prop} (H : Tt (fun K k => qm_X13_rowFrom_0 K (q_X13_rowFrom K k) x2 x3 x4 x5 x6 x7 r1 t0 t1 t2 z) Q) : Tt (fun K k => q_X13_rowFrom K k 0 x2 x3 x4 x5 x6 x7 r1 t0 t1 t2 z) Q := w_un (fun _ _ => rfl) H
theorem tr_rowFrom {n s : Nat} {z : ow_MS} {A : rn_L} {sg : Nat → Bool} (hn : mw_net n) (hVC : A.flatten.length + A.length ≤ 31) (hd : rn_ok A.flatten) (hL : rn_lk z n A) (hG : rn_sg z n A.flatten sg) (hs : s < A.flatten.length) : Te (fun K => qe_X13_rowFrom K n (nI s) z) (fun z1 => fr frR z z1 ∧ rc_At z1 2 0 (tks A sg (vsO A (trS A s)) (trS A s)) ∧ z1.1 3 = nI (tks A sg (vsO A (trS A s)) (trS A s)).length) := by
  have hm := net_mod hn
  obtain ⟨V, hV⟩ : ∃ V, A.flatten.length = V := ⟨_, rfl⟩
  have frK : ∀ {y y1 : ow_MS}, fr frR y y1 → rn_lk y n A → rn_lk y1 n A := fun hf h => fr_lk hf (fun g hg => by have := hg.2; omega) h
  have frS : ∀ {y y1 : ow_MS}, fr frR y y1 → rn_sg y n A.flatten sg → rn_sg y1 n A.flatten sg := fun hf h p hp => by
    rw [(hf (n + 6) (by omega)).2.1]
    exact h p hp
  let Q : ow_MS → Prop := fun z1 => fr frR z z1 ∧ rc_At z1 2 0 (tks A sg (vsO A (trS A s)) (trS A s)) ∧ z1.1 3 = nI (tks A sg (vsO A (trS A s)) (trS A s)).length
  -- what holds when the components of S are done
  let D : ow_MS → List Nat → Prop := fun z1 S => fr frR z z1 ∧ rjN A z1 (vsO A S) ∧ rjT z1 (tks A sg (vsO A S) S) ∧ rjG A z1 S ∧ (vsO A S).length + rem (gn A S) (rlen A) A.length = V ∧ S.length + rem (gn A S) (fun _ => 1) A.length = A.length ∧ (tks A sg (vsO A S) S).length = (vsO A S).length + S.length ∧ (∀ t, t ∈ tks A sg (vsO A S) S → t < 200) ∧ ∀ v, v ∈ vsO A S → v < V
  have fin : ∀ z1 S, D z1 S → trS A s = S → Tt (fun K k => q_X13_rowFrom K k 2 (nI s) (nI (fm A (vsO A S)).length) (-1) 0 0 0 n 0 0 0 z1) Q := by
    intro z1 S ⟨d1, d2, d3, d4, d5, d6, d7, d8, d9⟩ hR
    refine u_X13_rowFrom_2 ?_; unfold qm_X13_rowFrom_2
    refine w_ifT rfl (w_rdF d3.1 (w_wrI ml2 nI_0.symm (by omega) (w_some ⟨fr_I2 d1 (by decide), ?_⟩)))
    rw [hR]
    refine ⟨⟨by omega, d8, po_usI_at, fun k t hk => ?_⟩, d3.1⟩
    rw [Nat.zero_add]
    exact rd_ne (by omega) (d3.2 k t hk)
  have ring : ∀ (S : List Nat) (w : Nat), w < V → gn A S (rn_c A w) = false → (∀ z2, D z2 (S ++ [w]) → Tt (fun K k => q_X13_rowFrom K k 6 (nI s) (nI (fm A (vsO A (S ++ [w]))).length) (-1) (nI w) 1 0 n 0 0 0 z2) Q) → ∀ (d j : Nat) (z1 : ow_MS), j + 1 + d = rlen A (rn_c A w) → fr frR z z1 → rjN A z1 (vsO A S ++ (List.range j).map (rv A w)) → rjT z1 (tks A sg (vsO A S ++ (List.range j).map (rv A w)) S ++ ((List.range j).map (rv A w)).map (tkn A sg (vsO A S ++ (List.range j).map (rv A w)))) → rjG A z1 (S ++ [w]) → (vsO A S).length + rem (gn A S) (rlen A) A.length = V → S.length + rem (gn A S) (fun _ => 1) A.length = A.length → (tks A sg (vsO A S ++ (List.range j).map (rv A w)) S).length = (vsO A S).length + S.length → (∀ t, t ∈ tks A sg (vsO A S ++ (List.range j).map (rv A w)) S ++ ((List.range j).map (rv A w)).map (tkn A sg (vsO A S ++ (List.range j).map (rv A w))) → t < 200) → (∀ v, v ∈ vsO A S → v < V) → Tt (fun K k => q_X13_rowFrom K k 3 (nI s) (nI (fm A (vsO A S ++ (List.range j).map (rv A w))).length) (nI w) (nI (rv A w j)) 0 0 n 0 0 0 z1) Q := by
    intro S w hw hgw hout d
    have hwA : w < A.flatten.length := by omega
    have hcw := (rn_c_in A w hwA).1
    have r1 := rem_st (f := rlen A) hgw (fun b => gn_app (A := A) (S := S) (w := w) (b := b)) A.length hcw
    have r2 := rem_st (f := fun _ => 1) hgw (fun b => gn_app (A := A) (S := S) (w := w) (b := b)) A.length hcw
    have r2' : rem (gn A (S ++ [w])) (fun _ => 1) A.length + 1 = rem (gn A S) (fun _ => 1) A.length := r2
    induction d with
    | zero =>
      intro j z1 hj hf hN hT hGo h5 h6 h7 h8 h9
      obtain ⟨vs, hvs⟩ : ∃ vs, vs = vsO A S ++ (List.range j).map (rv A w) := ⟨_, rfl⟩
      obtain ⟨T, hTe⟩ : ∃ T, T = tks A sg vs S ++ ((List.range j).map (rv A w)).map (tkn A sg vs) := ⟨_, rfl⟩
      rw [← hvs] at hN hT h7 h8 ⊢
      rw [← hTe] at hT h8
      have hjl : j < rlen A (rn_c A w) := by omega
      have hv := rv_lt hwA hjl
      obtain ⟨v, hve⟩ : ∃ v, v = rv A w j := ⟨_, rfl⟩
      rw [← hve] at hv ⊢
      have hvl : vs.length = (vsO A S).length + j := by rw [hvs, List.length_append, List.length_map, List.length_range]
      have hTl : T.length = (vsO A S).length + S.length + j := by rw [hTe, List.length_append, h7, List.length_map, List.length_map, List.length_range]
      have hp := vAt_of hv
      obtain ⟨hx, hu⟩ := hd.1.2 v _ hp
      have hL1 := frK hf hL
      obtain ⟨e4, e5⟩ := hL1.1.2.2.2 v _ (by rw [List.append_nil]; exact hp)
      have hfl := fm_len (A := A) vs
      have evs : vs ++ [v] = vsO A (S ++ [w]) := by
        rw [vsO_app, hvs, List.append_assoc]
        unfold rgl
        rw [show rlen A (rn_c A w) = j + 1 by omega, List.range_succ, List.map_append, hve]
        rfl
      have inS : ∀ s, s ∈ S → ∀ v, v ∈ rgl A s → v ∈ vs := fun s hs v hv => by
        rw [hvs]
        exact List.mem_append_left _ (vsO_mem hs hv)
      have eT : T ++ [tkn A sg (vs ++ [v]) v] ++ [0] = tks A sg (vsO A (S ++ [w])) (S ++ [w]) := by
        rw [← evs, tks_app, tks_st S inS, hTe]
        have : (rgl A w).map (tkn A sg (vs ++ [v])) = ((List.range j).map (rv A w)).map (tkn A sg vs) ++ [tkn A sg (vs ++ [v]) v] := by
          unfold rgl
          rw [show rlen A (rn_c A w) = j + 1 by omega, List.range_succ, List.map_append, List.map_append, List.map_cons (f := rv A w), List.map_nil, ← hve]
          exact congr (congrArg _ (List.map_congr_left (fun u hu => tkn_st (by rw [hvs]; exact List.mem_append_right _ hu)))) rfl
        rw [this]
        simp
      have hnx : rn_nx A v = w := by
        rw [hve, rv_nx hwA hjl, if_pos (by omega)]
      have enx := (hL1.2.1 v hv).2.1
      -- after the crossing's number is there
      have c4 : ∀ (z2 : ow_MS), fr frR z1 z2 → z2.2.1 2 = z1.2.1 2 → z2.1 3 = z1.1 3 → z2.2.1 6 = z1.2.1 6 → rjN A z2 (vs ++ [v]) → Tt (fun K k => q_X13_rowFrom K k 4 (nI s) (nI (fm A (vs ++ [v])).length) (nI w) (nI v) (nI (crs A v)) 0 n 0 0 0 z2) Q := by
        intro z2 hf2 k2 k3 k6 hN2
        have hT2 : rjT z2 T := ⟨by rw [k3]; exact hT.1, fun k t hk => by rw [k2]; exact hT.2 k t hk⟩
        have hL2 := frK hf2 hL1
        have hG2 := frS hf2 (frS hf hG)
        have hnum := rjN_num hN2 (x := crs A v) (List.mem_map.mpr ⟨v, by simp, rfl⟩)
        have hnle := num_le (A := A) (vs := vs ++ [v]) (x := crs A v) (List.mem_map.mpr ⟨v, by simp, rfl⟩)
        have hfl2 := fm_len (A := A) (vs ++ [v])
        rw [List.length_append] at hfl2
        simp only [List.length_cons, List.length_nil] at hfl2
        have e52 := (hL2.1.2.2.2 v _ (by rw [List.append_nil]; exact hp)).2
        have hsg := hG2 _ (List.mem_of_getElem? hp)
        have c5 : ∀ t0 : Int32, t0 = nI (if sg (crs A v) then 1 else 0) → Tt (fun K k => q_X13_rowFrom K k 5 (nI s) (nI (fm A (vs ++ [v])).length) (nI w) (nI v) (nI (crs A v)) 0 n t0 (nI (4 * num A (vs ++ [v]) (crs A v)) + nI (2 * uns A v)) (nI (T.length + 1)) (usF z2 3 (nI (T.length + 1)))) Q := by
          intro t0 ht0
          obtain ⟨tv, htv⟩ : ∃ tv, tkn A sg (vs ++ [v]) v = tv := ⟨_, rfl⟩
          have hval : nI (4 * num A (vs ++ [v]) (crs A v) + 2 * uns A v + if sg (crs A v) then 1 else 0) = nI tv := by
            rw [← htv]
            rfl
          refine u_X13_rowFrom_5 ?_; unfold qm_X13_rowFrom_5
          rw [ht0, nI_add, nI_add, hval]
          rw [htv] at eT
          have hT3 := rjT_app (t := tv) hT2
          have hle : uns A v < 2 := hu
          have hf3 : fr frR z1 (usI (usF z2 3 (nI (T.length + 1))) 2 (T.length + 1) (nI tv)) := fr_I2 (fr_F2 hf2 (by decide)) (by decide)
          refine w_wrI ml2 rfl (by omega) ?_
          refine w_rdI (pl9 hn) rfl (by omega) ((frK hf3 hL1).2.1 v hv).2.1 ?_
          rw [hnx]
          refine w_ifT rfl (w_rdF hT3.1 (w_wrF (w_rdF (x := nI ((T ++ [tv]).length + 1)) (po_usF_at.trans (nI_1 _)) ?_)))
          have hT4 := rjT_app (t := 0) hT3
          have hl1 : (T ++ [tv]).length = T.length + 1 := by rw [List.length_append]; rfl
          rw [nI_1]
          refine w_wrI ml2 rfl (by omega) ?_
          rw [evs]
          refine hout _ ⟨fr_tr hf (fr_I2 (fr_F2 hf3 (by decide)) (by decide)), ?_, ?_, ?_, ?_, ?_, ?_, ?_, ?_⟩
          · rw [← evs]
            exact rjN_fr (P := fun g => g = 2 ∨ g = 3) (fr_I2 (fr_F2 (fr_I2 (fr_F (Or.inr rfl)) (Or.inl rfl)) (Or.inr rfl)) (Or.inl rfl)) (by decide) (by decide) hN2
          · rw [← eT]
            exact hT4
          · have h66 : rjG A z2 (S ++ [w]) := fun c hc => by rw [k6]; exact hGo c hc
            exact rjG_fr (P := fun g => g = 2 ∨ g = 3) (fr_I2 (fr_F2 (fr_I2 (fr_F (Or.inr rfl)) (Or.inl rfl)) (Or.inr rfl)) (Or.inl rfl)) (by decide) h66
          · rw [← evs, List.length_append, hvl]
            simp only [List.length_cons, List.length_nil]
            omega
          · rw [List.length_append]
            simp only [List.length_cons, List.length_nil]
            omega
          · rw [← eT, ← evs, List.length_append, List.length_append, List.length_append, List.length_append, hTl, hvl]
            simp only [List.length_cons, List.length_nil]
            omega
          · rw [← eT]
            intro t ht
            rw [List.mem_append, List.mem_append] at ht
            rcases ht with (ht | ht) | ht
            · exact h8 t ht
            · have : t = tv := by simpa using ht
              rw [this, ← htv]
              unfold tkn
              by_cases hb : sg (crs A v)
              · rw [if_pos hb]; omega
              · rw [if_neg hb]; omega
            · have : t = 0 := by simpa using ht
              omega
          · rw [vsO_app]
            intro u hu
            rw [List.mem_append] at hu
            rcases hu with hu | hu
            · exact h9 u hu
            · obtain ⟨i, hi, e⟩ := rgl_mem hu
              rw [e]
              have := rv_lt hwA hi
              omega
        refine u_X13_rowFrom_4 ?_; unfold qm_X13_rowFrom_4
        refine w_rdF hT2.1 (w_wrF (w_rdF (x := nI (T.length + 1)) (po_usF_at.trans (nI_1 _)) (w_rdI ml4 rfl hx hnum (w_rdI (pl5 hn) rfl (by omega) e52 (w_rdI (pl6 hn) rfl hx hsg ?_)))))
        rw [show (4 : Int32) * nI (num A (vs ++ [v]) (crs A v)) = nI (4 * num A (vs ++ [v]) (crs A v)) from pk_mul 4 _, show (2 : Int32) * nI (vAt A v).2 = nI (2 * uns A v) from pk_mul 2 _, nI_1]
        show Tt (fun K k => if (0 : Int32) ≤ (if sg (crs A v) then (-1 : Int32) else 1) then _ else _) Q
        cases hsgv : sg (crs A v) with
        | true => exact w_ifF (by decide) (c5 _ (by rw [hsgv]; rfl))
        | false => exact w_ifT (by decide) (c5 _ (by rw [hsgv]; rfl))
      refine u_X13_rowFrom_3 ?_; unfold qm_X13_rowFrom_3
      by_cases hmet : crs A v ∈ (fm A vs).map (crs A)
      · have e1 := rjN_num hN ((fm_cr vs).mp hmet)
        have hn0 : 0 < num A vs (crs A v) := by unfold num; omega
        have hnle := num_le ((fm_cr (A := A) vs).mp hmet)
        refine w_rdI (pl4 hn) rfl (by omega) e4 (w_rdI ml4 rfl hx e1 (w_ifF (nI_ne0 hn0 (by omega)) ?_))
        have := c4 z1 fr_rf rfl rfl rfl (rjN_old hN hmet)
        rw [fm_app] at this
        unfold fmA at this
        rw [if_pos hmet] at this
        exact this
      · have e1 := hN.2 _ hx hmet
        refine w_rdI (pl4 hn) rfl (by omega) e4 (w_rdI ml4 rfl hx e1 (w_ifT rfl ?_))
        rw [nI_1]
        refine w_wrI ml4 rfl hx (w_wrI ml5 rfl (by omega) ?_)
        have := c4 _ (fr_I2 (fr_I (h := 4) (i := crs A v) (x := nI ((fm A vs).length + 1)) (by decide)) (h := 5) (by decide)) (by rw [po_usI_ot (by decide), po_usI_ot (by decide)]) rfl (by rw [po_usI_ot (by decide), po_usI_ot (by decide)]) (rjN_new hN hmet)
        rw [fm_app] at this
        unfold fmA at this
        rw [if_neg hmet, List.length_append] at this
        exact this
    | succ d ih =>
      intro j z1 hj hf hN hT hGo h5 h6 h7 h8 h9
      have hN0 := hN
      have hT0 := hT
      obtain ⟨vs, hvs⟩ : ∃ vs, vs = vsO A S ++ (List.range j).map (rv A w) := ⟨_, rfl⟩
      obtain ⟨T, hTe⟩ : ∃ T, T = tks A sg vs S ++ ((List.range j).map (rv A w)).map (tkn A sg vs) := ⟨_, rfl⟩
      rw [← hvs] at hN hT h7 h8 ⊢
      rw [← hTe] at hT h8
      have hjl : j < rlen A (rn_c A w) := by omega
      have hv := rv_lt hwA hjl
      obtain ⟨v, hve⟩ : ∃ v, v = rv A w j := ⟨_, rfl⟩
      rw [← hve] at hv ⊢
      have hvl : vs.length = (vsO A S).length + j := by rw [hvs, List.length_append, List.length_map, List.length_range]
      have hTl : T.length = (vsO A S).length + S.length + j := by rw [hTe, List.length_append, h7, List.length_map, List.length_map, List.length_range]
      have hp := vAt_of hv
      obtain ⟨hx, hu⟩ := hd.1.2 v _ hp
      have hL1 := frK hf hL
      obtain ⟨e4, e5⟩ := hL1.1.2.2.2 v _ (by rw [List.append_nil]; exact hp)
      have hfl := fm_len (A := A) vs
      have evs : vs ++ [v] = vsO A S ++ (List.range (j + 1)).map (rv A w) := by
        rw [hvs, List.append_assoc, List.range_succ, List.map_append, hve]
        rfl
      have inS : ∀ s, s ∈ S → ∀ v, v ∈ rgl A s → v ∈ vs := fun s hs v hv => by
        rw [hvs]
        exact List.mem_append_left _ (vsO_mem hs hv)
      have eT : T ++ [tkn A sg (vs ++ [v]) v] = tks A sg (vs ++ [v]) S ++ ((List.range (j + 1)).map (rv A w)).map (tkn A sg (vs ++ [v])) := by
        rw [tks_st S inS, hTe, List.range_succ, List.map_append, List.map_append, List.append_assoc, List.map_cons (f := rv A w), List.map_nil, ← hve]
        exact congrArg _ (congr (congrArg _ (List.map_congr_left (fun u hu => (tkn_st (by rw [hvs]; exact List.mem_append_right _ hu)).symm))) rfl)
      have hnx : rn_nx A v = rv A w (j + 1) := by
        rw [hve, rv_nx hwA hjl, if_neg (by omega)]
      have hne := rv_ne (s := w) (j := j + 1) hwA (by omega) (by omega)
      have hlt2 := rv_lt (s := w) (j := j + 1) hwA (by omega)
      have c4 : ∀ (z2 : ow_MS), fr frR z1 z2 → z2.2.1 2 = z1.2.1 2 → z2.1 3 = z1.1 3 → z2.2.1 6 = z1.2.1 6 → rjN A z2 (vs ++ [v]) → Tt (fun K k => q_X13_rowFrom K k 4 (nI s) (nI (fm A (vs ++ [v])).length) (nI w) (nI v) (nI (crs A v)) 0 n 0 0 0 z2) Q := by
        intro z2 hf2 k2 k3 k6 hN2
        have hT2 : rjT z2 T := ⟨by rw [k3]; exact hT.1, fun k t hk => by rw [k2]; exact hT.2 k t hk⟩
        have hL2 := frK hf2 hL1
        have hG2 := frS hf2 (frS hf hG)
        have hnum := rjN_num hN2 (x := crs A v) (List.mem_map.mpr ⟨v, by simp, rfl⟩)
        have hnle := num_le (A := A) (vs := vs ++ [v]) (x := crs A v) (List.mem_map.mpr ⟨v, by simp, rfl⟩)
        have hfl2 := fm_len (A := A) (vs ++ [v])
        rw [List.length_append] at hfl2
        simp only [List.length_cons, List.length_nil] at hfl2
        have e52 := (hL2.1.2.2.2 v _ (by rw [List.append_nil]; exact hp)).2
        have hsg := hG2 _ (List.mem_of_getElem? hp)
        have c5 : ∀ t0 : Int32, t0 = nI (if sg (crs A v) then 1 else 0) → Tt (fun K k => q_X13_rowFrom K k 5 (nI s) (nI (fm A (vs ++ [v])).length) (nI w) (nI v) (nI (crs A v)) 0 n t0 (nI (4 * num A (vs ++ [v]) (crs A v)) + nI (2 * uns A v)) (nI (T.length + 1)) (usF z2 3 (nI (T.length + 1)))) Q := by
          intro t0 ht0
          obtain ⟨tv, htv⟩ : ∃ tv, tkn A sg (vs ++ [v]) v = tv := ⟨_, rfl⟩
          have hval : nI (4 * num A (vs ++ [v]) (crs A v) + 2 * uns A v + if sg (crs A v) then 1 else 0) = nI tv := by
            rw [← htv]
            rfl
          refine u_X13_rowFrom_5 ?_; unfold qm_X13_rowFrom_5
          rw [ht0, nI_add, nI_add, hval]
          rw [htv] at eT
          have hT3 := rjT_app (t := tv) hT2
          have hle : uns A v < 2 := hu
          have hf3 : fr frR z1 (usI (usF z2 3 (nI (T.length + 1))) 2 (T.length + 1) (nI tv)) := fr_I2 (fr_F2 hf2 (by decide)) (by decide)
          refine w_wrI ml2 rfl (by omega) ?_
          refine w_rdI (pl9 hn) rfl (by omega) ((frK hf3 hL1).2.1 v hv).2.1 ?_
          rw [hnx]
          refine w_ifF (fun e => hne ((nI_eq (by omega) (by omega)).mp e)) ?_
          rw [evs]
          refine ih (j + 1) _ (by omega) (fr_tr hf hf3) ?_ ?_ ?_ h5 h6 ?_ ?_ h9
          · rw [← evs]
            exact rjN_fr (P := fun g => g = 2 ∨ g = 3) (fr_I2 (fr_F (Or.inr rfl)) (Or.inl rfl)) (by decide) (by decide) hN2
          · rw [← evs, ← eT]
            exact hT3
          · have h66 : rjG A z2 (S ++ [w]) := fun c hc => by rw [k6]; exact hGo c hc
            exact rjG_fr (P := fun g => g = 2 ∨ g = 3) (fr_I2 (fr_F (Or.inr rfl)) (Or.inl rfl)) (by decide) h66
          · rw [← evs, tks_st S inS]
            exact h7
          · rw [← evs, ← eT]
            intro t ht
            rw [List.mem_append] at ht
            rcases ht with ht | ht
            · exact h8 t ht
            · have : t = tv := by simpa using ht
              rw [this, ← htv]
              unfold tkn
              by_cases hb : sg (crs A v)
              · rw [if_pos hb]; omega
              · rw [if_neg hb]; omega
        refine u_X13_rowFrom_4 ?_; unfold qm_X13_rowFrom_4
        refine w_rdF hT2.1 (w_wrF (w_rdF (x := nI (T.length + 1)) (po_usF_at.trans (nI_1 _)) (w_rdI ml4 rfl hx hnum (w_rdI (pl5 hn) rfl (by omega) e52 (w_rdI (pl6 hn) rfl hx hsg ?_)))))
        rw [show (4 : Int32) * nI (num A (vs ++ [v]) (crs A v)) = nI (4 * num A (vs ++ [v]) (crs A v)) from pk_mul 4 _, show (2 : Int32) * nI (vAt A v).2 = nI (2 * uns A v) from pk_mul 2 _, nI_1]
        show Tt (fun K k => if (0 : Int32) ≤ (if sg (crs A v) then (-1 : Int32) else 1) then _ else _) Q
        cases hsgv : sg (crs A v) with
        | true => exact w_ifF (by decide) (c5 _ (by rw [hsgv]; rfl))
        | false => exact w_ifT (by decide) (c5 _ (by rw [hsgv]; rfl))
      refine u_X13_rowFrom_3 ?_; unfold qm_X13_rowFrom_3
      by_cases hmet : crs A v ∈ (fm A vs).map (crs A)
      · have e1 := rjN_num hN ((fm_cr vs).mp hmet)
        have hn0 : 0 < num A vs (crs A v) := by unfold num; omega
        have hnle := num_le ((fm_cr (A := A) vs).mp hmet)
        refine w_rdI (pl4 hn) rfl (by omega) e4 (w_rdI ml4 rfl hx e1 (w_ifF (nI_ne0 hn0 (by omega)) ?_))
        have := c4 z1 fr_rf rfl rfl rfl (rjN_old hN hmet)
        rw [fm_app] at this
        unfold fmA at this
        rw [if_pos hmet] at this
        exact this
      · have e1 := hN.2 _ hx hmet
        refine w_rdI (pl4 hn) rfl (by omega) e4 (w_rdI ml4 rfl hx e1 (w_ifT rfl ?_))
        rw [nI_1]
        refine w_wrI ml4 rfl hx (w_wrI ml5 rfl (by omega) ?_)
        have := c4 _ (fr_I2 (fr_I (h := 4) (i := crs A v) (x := nI ((fm A vs).length + 1)) (by decide)) (h := 5) (by decide)) (by rw [po_usI_ot (by decide), po_usI_ot (by decide)]) rfl (by rw [po_usI_ot (by decide), po_usI_ot (by decide)]) (rjN_new hN hmet)
        rw [fm_app] at this
        unfold fmA at this
        rw [if_neg hmet, List.length_append] at this
        exact this
  -- from a start on
  have start : ∀ (u : Nat) (S : List Nat) (w : Nat) (z1 : ow_MS), rem (gn A S) (fun _ => 1) A.length ≤ u → w < V → gn A S (rn_c A w) = false → D z1 S → (∀ f, rem (gn A S) (fun _ => 1) A.length ≤ f + 1 → trS A s = trF A f (S ++ [w]) → Tt (fun K k => q_X13_rowFrom K k 2 (nI s) (nI (fm A (vsO A S)).length) (nI w) 0 0 0 n 0 0 0 z1) Q) := by
    intro u
    induction u with
    | zero =>
      intro S w z1 hu hw hgw hD f hf1 hR
      have hcw := (rn_c_in A w (by omega)).1
      have r2 := rem_st (f := fun _ => 1) hgw (fun b => gn_app (A := A) (S := S) (w := w) (b := b)) A.length hcw
      have r2' : rem (gn A (S ++ [w])) (fun _ => 1) A.length + 1 = rem (gn A S) (fun _ => 1) A.length := r2
      omega
    | succ u ih =>
      intro S w z1 hu hw hgw hD f hf1 hR
      have hwA : w < A.flatten.length := by omega
      have hcw := (rn_c_in A w hwA).1
      have r2 := rem_st (f := fun _ => 1) hgw (fun b => gn_app (A := A) (S := S) (w := w) (b := b)) A.length hcw
      have r2' : rem (gn A (S ++ [w])) (fun _ => 1) A.length + 1 = rem (gn A S) (fun _ => 1) A.length := r2
      obtain ⟨d1, d2, d3, d4, d5, d6, d7, d8, d9⟩ := hD
      have hpos := rlen_pos hwA
      -- the search for the next start
      have find : ∀ (z2 : ow_MS), D z2 (S ++ [w]) → ∀ (d k : Nat), k + d = (fm A (vsO A (S ++ [w]))).length → (∀ i v, i < k → (fm A (vsO A (S ++ [w])))[i]? = some v → gn A (S ++ [w]) (rn_c A (mtf A v)) = true) → Tt (fun K i => q_X13_rowFrom K i 6 (nI s) (nI (fm A (vsO A (S ++ [w]))).length) (-1) (nI w) (nI (k + 1)) 0 n 0 0 0 z2) Q := by
        intro z2 hD2 d
        have hfl := fm_len (A := A) (vsO A (S ++ [w]))
        have hb := hD2.2.2.2.2.1
        induction d with
        | zero =>
          intro k hk hall
          have hno : nxS A (S ++ [w]) = none := by
            unfold nxS
            rw [Option.map_eq_none_iff, List.find?_eq_none]
            intro v hv h9
            obtain ⟨i, hi, e⟩ := List.getElem_of_mem hv
            have := hall i v (by omega) (by rw [List.getElem?_eq_getElem hi, e])
            rw [this] at h9
            exact absurd h9 (by decide)
          refine u_X13_rowFrom_6 ?_; unfold qm_X13_rowFrom_6
          refine w_ltT (by omega) (by omega) ?_
          refine u_X13_rowFrom_8 ?_; unfold qm_X13_rowFrom_8
          exact fin z2 _ hD2 (by rw [hR, trF_none hno])
        | succ d ihd =>
          intro k hk hall
          have hkl : k < (fm A (vsO A (S ++ [w]))).length := by omega
          have hkv := List.getElem?_eq_getElem hkl
          obtain ⟨v, hve⟩ : ∃ v, v = (fm A (vsO A (S ++ [w])))[k] := ⟨_, rfl⟩
          rw [← hve] at hkv
          have hvV : v < V := hD2.2.2.2.2.2.2.2.2 v (fm_mem _ (List.mem_of_getElem? hkv))
          have hvA : v < A.flatten.length := by omega
          have hmt := mtf_mt hd hvA
          have hml := (rn_mt_lt hmt).2
          have hL2 := frK hD2.1 hL
          have hcm := (rn_c_in A _ hml).1
          have e6 := hD2.2.2.2.1 _ hcm
          refine u_X13_rowFrom_6 ?_; unfold qm_X13_rowFrom_6
          refine w_ltF (by omega) (by omega) (w_ifT rfl (w_rdI ml5 rfl (by omega) (hD2.2.1.1 k v hkv).1 (w_rdI (pl7 hn) rfl (by omega) (hL2.2.2.2 v _ hvA hml hmt) (w_rdI (pl8 hn) rfl (by omega) (hL2.2.1 _ hml).1 (w_rdI ml6 rfl (by omega) e6 ?_)))))
          cases hgm : gn A (S ++ [w]) (rn_c A (mtf A v)) with
          | false =>
            have hso : nxS A (S ++ [w]) = some (mtf A v) := by
              unfold nxS
              have : (fm A (vsO A (S ++ [w]))).find? (fun v => !gn A (S ++ [w]) (rn_c A (mtf A v))) = some v := by
                rw [List.find?_eq_some_iff_getElem]
                refine ⟨by rw [hgm]; rfl, k, hkl, hve.symm, fun i hi => ?_⟩
                rw [hall i _ hi (List.getElem?_eq_getElem (by omega))]
                rfl
              rw [this]
              rfl
            refine w_ifT rfl ?_
            refine u_X13_rowFrom_7 ?_; unfold qm_X13_rowFrom_7
            have c8 : Tt (fun K i => q_X13_rowFrom K i 8 (nI s) (nI (fm A (vsO A (S ++ [w]))).length) (nI (mtf A v)) (nI w) (nI (k + 1 + 1)) 0 n 0 0 0 z2) Q := by
              refine u_X13_rowFrom_8 ?_; unfold qm_X13_rowFrom_8
              have hcm2 := rem_st (f := fun _ => 1) hgm (fun b => gn_app (A := A) (S := S ++ [w]) (w := mtf A v) (b := b)) A.length hcm
              have hcm3 : rem (gn A ((S ++ [w]) ++ [mtf A v])) (fun _ => 1) A.length + 1 = rem (gn A (S ++ [w])) (fun _ => 1) A.length := hcm2
              obtain ⟨f9, rfl⟩ : ∃ f9, f = f9 + 1 := ⟨f - 1, by omega⟩
              refine ih (S ++ [w]) (mtf A v) z2 (by omega) (by omega) hgm hD2 f9 (by omega) ?_
              rw [hR, trF_some hso]
            refine u_X13_rowFrom_6 ?_; unfold qm_X13_rowFrom_6
            rw [nI_1]
            refine w_lt (by omega) (by omega) (fun _ => c8) (fun _ => w_ifF (rn_neg1 (by omega)) c8)
          | true =>
            refine w_ifF (by decide) ?_
            refine u_X13_rowFrom_7 ?_; unfold qm_X13_rowFrom_7
            rw [nI_1]
            refine ihd (k + 1) (by omega) (fun i u hi hiu => ?_)
            by_cases hik : i = k
            · rw [hik, hkv] at hiu
              cases hiu
              exact hgm
            · exact hall i u (by omega) hiu
      refine u_X13_rowFrom_2 ?_; unfold qm_X13_rowFrom_2
      refine w_ifF (rn_neg1 (by omega)) (w_rdI (pl8 hn) rfl (by omega) ((frK d1 hL).2.1 w hwA).1 (w_wrZ ml6 rfl (by omega) ?_))
      have fr6 : fr (fun g => g = 6) z1 (usI z1 6 (rn_c A w) (vp_nar .boolean 1)) := fr_I rfl
      have hri := ring S w hw hgw (fun z2 hD2 => find z2 hD2 _ 0 (Nat.zero_add _) (fun i v hi => by omega)) (rlen A (rn_c A w) - 1) 0 (usI z1 6 (rn_c A w) (vp_nar .boolean 1)) (by omega) (fr_I2 d1 (by decide))
      rw [rv_0 hwA] at hri
      have e0 : vsO A S ++ (List.range 0).map (rv A w) = vsO A S := List.append_nil _
      have e1 : tks A sg (vsO A S) S ++ ((List.range 0).map (rv A w)).map (tkn A sg (vsO A S)) = tks A sg (vsO A S) S := List.append_nil _
      rw [e0, e1] at hri
      refine hri (rjN_fr fr6 (by decide) (by decide) d2) (rjT_fr fr6 (by decide) (by decide) d3) (fun c hc => ?_) d5 d6 d7 d8 d9
      rw [gn_app]
      by_cases hce : c = rn_c A w
      · rw [hce, po_usI_at, decide_eq_true rfl, Bool.or_true]
        rfl
      · rw [po_usI_ne hce, decide_eq_false hce, Bool.or_false]
        exact d4 c hc
  have zer : ∀ (d i : Nat) (z1 : ow_MS), i + d = 40 → fr frR z z1 → (∀ x, x < i → z1.2.1 4 x = 0 ∧ z1.2.1 6 x = 0) → Tt (fun K k => q_X13_rowFrom K k 1 (nI s) (nI i) 0 0 0 0 n 0 0 0 z1) Q := by
    intro d
    induction d with
    | zero =>
      intro i z1 hi hf hx
      have hcs := (rn_c_in A s hs).1
      have hg0 : ∀ c, gn A [] c = false := fun c => by unfold gn; simp
      have er : ∀ f : Nat → Nat, rem (gn A []) f A.length = rem (fun _ => false) f A.length := fun f => rem_congr _ (fun c _ => hg0 c)
      refine u_X13_rowFrom_1 ?_; unfold qm_X13_rowFrom_1
      refine w_leT (a := 40) (by omega) (by omega) (w_wrF ?_)
      refine start A.length [] s _ (by rw [er, rem_1]; omega) (by omega) (hg0 _) ⟨fr_F2 hf (by decide), ⟨fun k v hk => by simp [fm, vsO] at hk, fun x hx9 _ => (hx x (by omega)).1⟩, ⟨po_usF_at, fun k t hk => by simp [tks] at hk⟩, fun c hc => ?_, ?_, ?_, rfl, fun t ht => by simp [tks] at ht, fun v hv => by simp [vsO] at hv⟩ A.length (by rw [er, rem_1]; omega) rfl
      · rw [hg0]
        exact (hx c (by omega)).2
      · rw [er, rem_b A _ (Nat.le_refl _), rn_b_len]
        show 0 + _ = _
        omega
      · rw [er, rem_1]
        show 0 + _ = _
        omega
    | succ d ih =>
      intro i z1 hi hf hx
      refine u_X13_rowFrom_1 ?_; unfold qm_X13_rowFrom_1
      refine w_leF (a := 40) (by omega) (by omega) (w_wrI ml4 rfl (by omega) (w_wrZ ml6 rfl (by omega) ?_))
      rw [nI_1]
      refine ih (i + 1) _ (by omega) (fr_I2 (fr_I2 hf (by decide)) (by decide)) (fun x hx2 => ?_)
      by_cases hxi : x = i
      · rw [hxi]
        exact ⟨rd_ot (by decide) po_usI_at, po_usI_at⟩
      · exact ⟨rd_ot (by decide) (rd_ne hxi (hx x (by omega)).1), rd_ne hxi (rd_ot (by decide) (hx x (by omega)).2)⟩
  refine e_X13_rowFrom ?_
  refine u_X13_rowFrom_0 ?_; unfold qm_X13_rowFrom_0
  exact zer 40 0 z (by omega) fr_rf (fun x hx => by omega)
end
section
/-! 99zzh.least -/
/-! leastOf: the least code of a part -/
def cdv (A : rn_L) (sg : Nat → Bool) (v : Nat) : List Nat := tks A sg (vsO A (trS A v)) (trS A v)
def lsA (a : Option (List Nat)) (T : List Nat) : Option (List Nat) := match a with
  | none => some T
  | some U => if lxb T U then some T else some U
def lsC (A : rn_L) (sg : Nat → Bool) (vs : List Nat) : Option (List Nat) := (vs.map (cdv A sg)).foldl lsA none
def pvl (A : rn_L) (m : Nat → Nat) (p k : Nat) : List Nat := (List.range k).filter (fun v => decide (m (rn_c A v) = p))
theorem pvl_s {A : rn_L} {m : Nat → Nat} {p k : Nat} : pvl A m p (k + 1) = pvl A m p k ++ if m (rn_c A k) = p then [k] else [] := by
  unfold pvl
  rw [List.range_succ, List.filter_append]
  by_cases h : m (rn_c A k) = p <;> simp [h]
theorem lsC_app {A : rn_L} {sg : Nat → Bool} {vs : List Nat} {v : Nat} : lsC A sg (vs ++ [v]) = lsA (lsC A sg vs) (cdv A sg v) := by
  unfold lsC
  rw [List.map_append, List.foldl_append]
  rfl
theorem lsA_some {a : Option (List Nat)} {T : List Nat} : ∃ U, lsA a T = some U ∧ (U = T ∨ a = some U) := by
  cases a with
  | none => exact ⟨T, rfl, Or.inl rfl⟩
  | some U =>
    unfold lsA
    by_cases h : lxb T U = true
    · exact ⟨T, if_pos h, Or.inl rfl⟩
    · exact ⟨U, if_neg h, Or.inr rfl⟩
theorem lsA_t {T U : List Nat} (h : lxb T U = true) : lsA (some U) T = some T := by
  show (if lxb T U = true then some T else some U) = some T
  rw [if_pos h]
theorem lsA_f {T U : List Nat} (h : lxb T U = false) : lsA (some U) T = some U := by
  show (if lxb T U = true then some T else some U) = some U
  rw [if_neg (by rw [h]; decide)]
theorem lsC_mem {A : rn_L} {sg : Nat → Bool} {T : List Nat} (vs : List Nat) : lsC A sg vs = some T → ∃ v, v ∈ vs ∧ T = cdv A sg v := by
  refine fm_rev (A := A) (P := fun vs => lsC A sg vs = some T → ∃ v, v ∈ vs ∧ T = cdv A sg v) (fun h => by cases h) (fun vs v ih => ?_) vs
  rw [lsC_app]
  intro h
  obtain ⟨U, h1, h2⟩ := lsA_some (a := lsC A sg vs) (T := cdv A sg v)
  rw [h] at h1
  cases h1
  rcases h2 with h2 | h2
  · exact ⟨v, by simp, h2⟩
  · obtain ⟨u, h3, h4⟩ := ih h2
    exact ⟨u, List.mem_append_left _ h3, h4⟩
theorem lsC_none {A : rn_L} {sg : Nat → Bool} {vs : List Nat} (h : lsC A sg vs = none) : vs = [] := by
  rcases List.eq_nil_or_concat vs with e | ⟨L, b, e⟩
  · exact e
  · rw [e, List.concat_eq_append, lsC_app] at h
    obtain ⟨U, h1, -⟩ := lsA_some (a := lsC A sg L) (T := cdv A sg b)
    rw [h] at h1
    cases h1
abbrev frR7 (g : Nat) : Prop := 2 ≤ g ∧ g ≤ 7
theorem u_X13_leastOf_1 {x2 : Int32} {x3 : Int32} {x4 : Int32} {x5 : Int32} {x6 : Int32} {r1 : Nat} {z : ow_MS} {Q : (Int32 × ow_MS) → Prop} (H : Tt (fun K k => qm_X13_leastOf_1 K (q_X13_leastOf K k) x2 x3 x4 x5 x6 r1 z) Q) : Tt (fun K k => q_X13_leastOf K k 1 x2 x3 x4 x5 x6 r1 z) Q := w_un (fun _ _ => rfl) H
theorem u_X13_leastOf_4 {x2 : Int32} {x3 : Int32} {x4 : Int32} {x5 : Int32} {x6 : Int32} {r1 : Nat} {z : ow_MS} {Q : (Int32 × ow_MS) → Prop} (H : Tt (fun K k => qm_X13_leastOf_4 K (q_X13_leastOf K k) x2 x3 x4 x5 x6 r1 z) Q) : Tt (fun K k => q_X13_leastOf K k 4 x2 x3 x4 x5 x6 r1 z) Q := w_un (fun _ _ => rfl) H
theorem u_X13_leastOf_3 {x2 : Int32} {x3 : Int32} {x4 : Int32} {x5 : Int32} {x6 : Int32} {r1 : Nat} {z : ow_MS} {Q : (Int32 × ow_MS) → Prop} (H : Tt (fun K k => qm_X13_leastOf_3 K (q_X13_leastOf K k) x2 x3 x4 x5 x6 r1 z) Q) : Tt (fun K k => q_X13_leastOf K k 3 x2 x3 x4 x5 x6 r1 z) Q := w_un (fun _ _ => rfl) H
theorem u_X13_leastOf_2 {x2 : Int32} {x3 : Int32} {x4 : Int32} {x5 : Int32} {x6 : Int32} {r1 : Nat} {z : ow_MS} {Q : (Int32 × ow_MS) → Prop} (H : Tt (fun K k => qm_X13_leastOf_2 K (q_X13_leastOf K k) x2 x3 x4 x5 x6 r1 z) Q) : Tt (fun K k => q_X13_leastOf K k 2 x2 x3 x4 x5 x6 r1 z) Q := w_un (fun _ _ => rfl) H
theorem e_X13_leastOf {r1 : Nat} {x2 : Int32} {x3 : Int32} {z : ow_MS} {Q : (Int32 × ow_MS) → Prop} (H : Tt (fun K k => q_X13_leastOf K k 0 x2 x3 0 0 0 r1 z) Q) : Te (fun K => qe_X13_leastOf K r1 x2 x3 z) Q := w_te H
theorem u_X13_leastOf_0 {x2 : Int32} {x3 : Int32} {x4 : Int32} {x5 : Int32} {x6 : Int32} {r1 : Nat} {z : ow_MS} {Q : (Int32 × ow_MS) → Prop} (H : Tt (fun K k => qm_X13_leastOf_0 K (q_X13_leastOf K k) x2 x3 x4 x5 x6 r1 z) Q) : Tt (fun K k => q_X13_leastOf K k 0 x2 x3 x4 x5 x6 r1 z) Q := w_un (fun _ _ => rfl) H
theorem tr_leastOf {n p o : Nat} {z : ow_MS} {A : rn_L} {sg : Nat → Bool} {m : Nat → Nat} (hn : mw_net n) (hVC : A.flatten.length + A.length ≤ 31) (hd : rn_ok A.flatten) (hL : rn_lk z n A) (hG : rn_sg z n A.flatten sg) (hM : ∀ c, c < A.length → z.2.1 (n + 12) c = nI (m c) ∧ m c < 40) (hp : p < 40) (ho : o + 32 ≤ 640) : Te (fun K => qe_X13_leastOf K n (nI p) (nI o) z) (fun r => r.1 = nI (pvl A m p A.flatten.length).length ∧ fr frR7 z r.2 ∧ (∀ i, i < o ∨ o + 32 ≤ i → r.2.2.1 7 i = z.2.1 7 i) ∧ ∀ T, lsC A sg (pvl A m p A.flatten.length) = some T → rc_At r.2 7 o T) := by
  have hm := net_mod hn
  have frK : ∀ {y y1 : ow_MS}, fr frR7 y y1 → rn_lk y n A → rn_lk y1 n A := fun hf h => fr_lk hf (fun g hg => by have := hg.2; omega) h
  have frS : ∀ {y y1 : ow_MS}, fr frR7 y y1 → rn_sg y n A.flatten sg → rn_sg y1 n A.flatten sg := fun hf h p hp => by
    rw [(hf (n + 6) (by omega)).2.1]
    exact h p hp
  have f67 : ∀ {y y1 : ow_MS}, fr frR y y1 → fr frR7 y y1 := fun hf => fr_mono (fun g hg => by have := hg.1; have := hg.2; omega) hf
  let Q : Int32 × ow_MS → Prop := fun r => r.1 = nI (pvl A m p A.flatten.length).length ∧ fr frR7 z r.2 ∧ (∀ i, i < o ∨ o + 32 ≤ i → r.2.2.1 7 i = z.2.1 7 i) ∧ ∀ T, lsC A sg (pvl A m p A.flatten.length) = some T → rc_At r.2 7 o T
  have hlen : ∀ k, (pvl A m p k).length ≤ k := fun k => Nat.le_trans (List.length_filter_le _ _) (by rw [List.length_range]; exact Nat.le_refl _)
  have main : ∀ (d v : Nat) (z1 : ow_MS), v + d = A.flatten.length → fr frR7 z z1 → (∀ i, i < o ∨ o + 32 ≤ i → z1.2.1 7 i = z.2.1 7 i) → (∀ T, lsC A sg (pvl A m p v) = some T → rc_At z1 7 o T) → Tt (fun K k => q_X13_leastOf K k 1 (nI p) (nI o) (nI (pvl A m p v).length) (nI v) 0 n z1) Q := by
    intro d
    induction d with
    | zero =>
      intro v z1 hv hf h7 hT
      have hve : v = A.flatten.length := by omega
      rw [hve] at hT ⊢
      refine u_X13_leastOf_1 ?_; unfold qm_X13_leastOf_1
      exact w_rdF (frK hf hL).V (w_leT (by omega) (Nat.le_refl _) (w_some ⟨rfl, hf, h7, hT⟩))
    | succ d ih =>
      intro v z1 hv hf h7 hT
      have hvl : v < A.flatten.length := by omega
      have hL1 := frK hf hL
      have hc := (rn_c_in A v hvl).1
      obtain ⟨m1, m2⟩ := hM _ hc
      have m3 : z1.2.1 (n + 12) (rn_c A v) = nI (m (rn_c A v)) := by
        rw [(hf (n + 12) (by omega)).2.1]
        exact m1
      have hll := hlen v
      refine u_X13_leastOf_1 ?_; unfold qm_X13_leastOf_1
      refine w_rdF hL1.V (w_leF (by omega) hvl (w_rdI (pl8 hn) rfl (by omega) (hL1.2.1 v hvl).1 (w_rdI (pl12 hn) rfl (by omega) m3 (w_eqN (by omega) (by omega) (fun he => w_cs0 (tr_rowFrom hn hVC hd hL1 (frS hf hG) hvl) (fun z2 ⟨f2, r2, s2⟩ => ?_)) (fun he => ?_)))))
      · have epv : pvl A m p (v + 1) = pvl A m p v ++ [v] := by rw [pvl_s, if_pos he]
        have els : lsC A sg (pvl A m p (v + 1)) = lsA (lsC A sg (pvl A m p v)) (cdv A sg v) := by rw [epv, lsC_app]
        have hf2 : fr frR7 z z2 := fr_tr hf (f67 f2)
        have e7 : z2.2.1 7 = z1.2.1 7 := (f2 7 (by decide)).2.1
        have r2' : rc_At z2 2 0 (cdv A sg v) := r2
        have s2' : z2.1 3 = nI (cdv A sg v).length := s2
        have hcl := r2'.1
        have c4 : ∀ z3 : ow_MS, fr frR7 z z3 → (∀ i, i < o ∨ o + 32 ≤ i → z3.2.1 7 i = z.2.1 7 i) → (∀ T, lsC A sg (pvl A m p (v + 1)) = some T → rc_At z3 7 o T) → Tt (fun K k => q_X13_leastOf K k 4 (nI p) (nI o) (nI (pvl A m p (v + 1)).length) (nI v) 0 n z3) Q := by
          intro z3 a1 a2 a3
          refine u_X13_leastOf_4 ?_; unfold qm_X13_leastOf_4
          rw [nI_1]
          exact ih (v + 1) z3 (by omega) a1 a2 a3
        have cp : lsA (lsC A sg (pvl A m p v)) (cdv A sg v) = some (cdv A sg v) → ∀ (d k : Nat) (z3 : ow_MS), k + d = (cdv A sg v).length + 1 → fr (fun g => g = 7) z2 z3 → (∀ i, i < o ∨ o + 32 ≤ i → z3.2.1 7 i = z.2.1 7 i) → (∀ i, i < k → z3.2.1 7 (o + i) = z2.2.1 2 i) → Tt (fun K k1 => q_X13_leastOf K k1 3 (nI p) (nI o) (nI (pvl A m p (v + 1)).length) (nI v) (nI k) n z3) Q := by
          intro hls d
          induction d with
          | zero =>
            intro k z3 hk f3 h73 hcp
            refine u_X13_leastOf_3 ?_; unfold qm_X13_leastOf_3
            refine w_rdF (x := nI (cdv A sg v).length) (by rw [(f3 3 (by decide)).1]; exact s2') (w_ltT (by omega) (by omega) (c4 z3 (fr_tr hf2 (fr_mono (fun g hg => by rw [hg]; decide) f3)) h73 (fun T hT9 => ?_)))
            rw [els, hls] at hT9
            cases hT9
            refine ⟨r2'.1, r2'.2.1, ?_, fun i t hi => ?_⟩
            · have := hcp 0 (by omega)
              rw [Nat.add_zero] at this
              rw [this]
              exact r2'.2.2.1
            · have hil := (List.getElem?_eq_some_iff.mp hi).1
              rw [hcp (i + 1) (by omega)]
              have := r2'.2.2.2 i t hi
              rw [Nat.zero_add] at this
              exact this
          | succ d ihd =>
            intro k z3 hk f3 h73 hcp
            refine u_X13_leastOf_3 ?_; unfold qm_X13_leastOf_3
            rw [nI_add, nI_1]
            refine w_rdF (x := nI (cdv A sg v).length) (by rw [(f3 3 (by decide)).1]; exact s2') (w_ltF (by omega) (by omega) (w_rdI ml2 rfl (by omega) (by rw [(f3 2 (by decide)).2.1]) (w_wrI ml7 rfl (by omega) ?_)))
            refine ihd (k + 1) _ (by omega) (fr_I2 f3 rfl) (fun i hi => ?_) (fun i hi => ?_)
            · exact rd_ne (by omega) (h73 i hi)
            · by_cases hik : i = k
              · rw [hik, po_usI_at]
              · exact rd_ne (by omega) (hcp i (by omega))
        have c2 : lsA (lsC A sg (pvl A m p v)) (cdv A sg v) = some (cdv A sg v) → Tt (fun K k => q_X13_leastOf K k 2 (nI p) (nI o) (nI (pvl A m p (v + 1)).length) (nI v) 0 n z2) Q := by
          intro hls
          refine u_X13_leastOf_2 ?_; unfold qm_X13_leastOf_2
          exact cp hls ((cdv A sg v).length + 1) 0 z2 (by omega) fr_rf (fun i hi => by rw [e7]; exact h7 i hi) (fun i hi => by omega)
        have epl : (pvl A m p (v + 1)).length = (pvl A m p v).length + 1 := by
          rw [epv, List.length_append]
          rfl
        rw [epl] at c2 c4
        rw [nI_1]
        refine w_eqN (b := 1) (by omega) (by omega) (fun h1 => c2 ?_) (fun h1 => ?_)
        · have h0 : pvl A m p v = [] := List.length_eq_zero_iff.mp (by omega)
          rw [h0]
          rfl
        · cases hls : lsC A sg (pvl A m p v) with
          | none =>
            have := lsC_none hls
            rw [this] at h1
            exact absurd rfl h1
          | some U =>
            have hU := hT U hls
            have hU2 : rc_At z2 7 o U := rc_fr f2 (by decide) hU
            have hul := hU2.1
            rw [hls] at c2
            refine w_cs1 (tr_below (o := 0) ml2 ml7 (by omega) (by omega) (by omega) (by omega) r2' hU2) (fun a z3 e => ?_)
            cases e
            cases hlx : lxb (cdv A sg v) U with
            | true => exact w_ifF (by decide) (c2 (lsA_t hlx))
            | false =>
              refine w_ifT rfl (c4 z2 hf2 (fun i hi => by rw [e7]; exact h7 i hi) (fun T hT9 => ?_))
              rw [els, hls, lsA_f hlx] at hT9
              cases hT9
              exact hU2
      · have epv : pvl A m p (v + 1) = pvl A m p v := by rw [pvl_s, if_neg he, List.append_nil]
        refine u_X13_leastOf_4 ?_; unfold qm_X13_leastOf_4
        rw [nI_1]
        have := ih (v + 1) z1 (by omega) hf h7 (by rw [epv]; exact hT)
        rw [epv] at this
        exact this
  refine e_X13_leastOf ?_
  refine u_X13_leastOf_0 ?_; unfold qm_X13_leastOf_0
  exact main A.flatten.length 0 z (by omega) fr_rf (fun i hi => rfl) (fun T hT => by cases hT)
end
section
/-! 99zzi.codes -/
/-! the walk from a start sees one part, each visit once -/
theorem nodup_le {α : Type} [DecidableEq α] : ∀ (l1 l2 : List α), l1.Nodup → (∀ a, a ∈ l1 → a ∈ l2) → l1.length ≤ l2.length
  | [], l2, _, _ => Nat.zero_le _
  | a :: l1, l2, hn, hs => by
    have ha := hs a List.mem_cons_self
    rw [List.nodup_cons] at hn
    have := nodup_le l1 (l2.erase a) hn.2 (fun b hb => by
      have hne : b ≠ a := fun e => hn.1 (e ▸ hb)
      exact (List.mem_erase_of_ne hne).mpr (hs b (List.mem_cons_of_mem _ hb)))
    rw [List.length_erase_of_mem ha] at this
    have h9 : 0 < l2.length := List.length_pos_of_mem ha
    rw [List.length_cons]
    omega
theorem nodup_eq {α : Type} [DecidableEq α] {l1 l2 : List α} (h1 : l1.Nodup) (h2 : l2.Nodup) (h : ∀ a, a ∈ l1 ↔ a ∈ l2) : l1.length = l2.length := Nat.le_antisymm (nodup_le l1 l2 h1 (fun a ha => (h a).mp ha)) (nodup_le l2 l1 h2 (fun a ha => (h a).mpr ha))
theorem nodup_map {α β : Type} {f : α → β} : ∀ {l : List α}, l.Nodup → (∀ a b, a ∈ l → b ∈ l → f a = f b → a = b) → (l.map f).Nodup
  | [], _, _ => List.nodup_nil
  | a :: l, hn, hi => by
    rw [List.nodup_cons] at hn
    rw [List.map_cons, List.nodup_cons]
    refine ⟨fun h => ?_, nodup_map hn.2 (fun x y hx hy => hi x y (List.mem_cons_of_mem _ hx) (List.mem_cons_of_mem _ hy))⟩
    obtain ⟨b, hb, e⟩ := List.mem_map.mp h
    have := hi b a (List.mem_cons_of_mem _ hb) List.mem_cons_self e
    exact hn.1 (this ▸ hb)
theorem rgl_nd {A : rn_L} {s : Nat} (hs : s < A.flatten.length) : (rgl A s).Nodup := by
  unfold rgl
  refine nodup_map List.nodup_range (fun a b ha hb e => ?_)
  have ha := List.mem_range.mp ha
  have hb := List.mem_range.mp hb
  obtain ⟨h1, h2, h3⟩ := rn_c_in A s hs
  unfold rv at e
  unfold rlen at ha hb e
  by_cases c1 : s + a < rn_b A (rn_c A s + 1)
  · by_cases c2 : s + b < rn_b A (rn_c A s + 1)
    · rw [if_pos c1, if_pos c2] at e; omega
    · rw [if_pos c1, if_neg c2] at e; omega
  · by_cases c2 : s + b < rn_b A (rn_c A s + 1)
    · rw [if_neg c1, if_pos c2] at e; omega
    · rw [if_neg c1, if_neg c2] at e; omega
theorem rgl_all {A : rn_L} {s v : Nat} (hs : s < A.flatten.length) (hv : v < A.flatten.length) (hc : rn_c A v = rn_c A s) : v ∈ rgl A s := by
  obtain ⟨h1, h2, h3⟩ := rn_c_in A s hs
  obtain ⟨g1, g2, g3⟩ := rn_c_in A v hv
  rw [hc] at g2 g3
  unfold rgl
  by_cases h : s ≤ v
  · refine List.mem_map.mpr ⟨v - s, List.mem_range.mpr (by unfold rlen; omega), ?_⟩
    unfold rv
    rw [if_pos (by omega)]
    omega
  · refine List.mem_map.mpr ⟨v + rlen A (rn_c A s) - s, List.mem_range.mpr (by unfold rlen; omega), ?_⟩
    unfold rv
    rw [if_neg (by unfold rlen; omega)]
    unfold rlen
    omega
theorem rgl_c {A : rn_L} {s v : Nat} (hs : s < A.flatten.length) (h : v ∈ rgl A s) : rn_c A v = rn_c A s ∧ v < A.flatten.length := by
  obtain ⟨j, hj, e⟩ := rgl_mem h
  rw [e]
  exact ⟨rv_c hs hj, rv_lt hs hj⟩
/-- starts that stand in different components -/
def tS (A : rn_L) (S : List Nat) : Prop := (S.map (rn_c A)).Nodup ∧ ∀ s, s ∈ S → s < A.flatten.length
theorem vsO_in {A : rn_L} {S : List Nat} (h : tS A S) {v : Nat} (hv : v ∈ vsO A S) : v < A.flatten.length ∧ rn_c A v ∈ S.map (rn_c A) := by
  unfold vsO at hv
  obtain ⟨l, hl, hvl⟩ := List.mem_flatten.mp hv
  obtain ⟨s, hs, e⟩ := List.mem_map.mp hl
  rw [← e] at hvl
  obtain ⟨h1, h2⟩ := rgl_c (h.2 s hs) hvl
  exact ⟨h2, List.mem_map.mpr ⟨s, hs, h1.symm⟩⟩
theorem vsO_of {A : rn_L} {S : List Nat} (h : tS A S) {v : Nat} (hv : v < A.flatten.length) (hc : rn_c A v ∈ S.map (rn_c A)) : v ∈ vsO A S := by
  obtain ⟨s, hs, e⟩ := List.mem_map.mp hc
  exact vsO_mem hs (rgl_all (h.2 s hs) hv e.symm)
theorem vsO_nd {A : rn_L} : ∀ {S : List Nat}, tS A S → (vsO A S).Nodup
  | [], _ => List.nodup_nil
  | s :: S, h => by
    obtain ⟨h1, h2⟩ := h
    rw [List.map_cons, List.nodup_cons] at h1
    have hS : tS A S := ⟨h1.2, fun t ht => h2 t (List.mem_cons_of_mem _ ht)⟩
    have ih := vsO_nd hS
    have e : vsO A (s :: S) = rgl A s ++ vsO A S := by
      unfold vsO
      rw [List.map_cons, List.flatten_cons]
    rw [e, List.nodup_append]
    refine ⟨rgl_nd (h2 s List.mem_cons_self), ih, fun a ha b hb e => ?_⟩
    have c1 := (rgl_c (h2 s List.mem_cons_self) ha).1
    have c2 := (vsO_in hS hb).2
    rw [← e, c1] at c2
    exact h1.1 c2
theorem nxS_step {A : rn_L} {S : List Nat} {w : Nat} (hd : rn_ok A.flatten) (h : tS A S) (hn : nxS A S = some w) : tS A (S ++ [w]) ∧ gn A S (rn_c A w) = false ∧ ∃ c, c ∈ S.map (rn_c A) ∧ rn_adj A c (rn_c A w) := by
  unfold nxS at hn
  rw [Option.map_eq_some_iff] at hn
  obtain ⟨v, h1, h2⟩ := hn
  have h3 := List.find?_some h1
  have hv := vsO_in h (fm_mem _ (List.mem_of_find?_eq_some h1))
  have hm := mtf_mt hd hv.1
  rw [h2] at hm h3
  have hg : gn A S (rn_c A w) = false := by
    cases hb : gn A S (rn_c A w) with
    | false => rfl
    | true => rw [hb] at h3; cases h3
  refine ⟨⟨?_, fun t ht => ?_⟩, hg, rn_c A v, hv.2, v, w, hm, rfl, rfl⟩
  · rw [List.map_append, List.nodup_append]
    refine ⟨h.1, by simp, fun a ha b hb e => ?_⟩
    have eb : b = rn_c A w := by simpa using hb
    unfold gn at hg
    rw [decide_eq_false_iff_not] at hg
    exact hg (by rw [← eb, ← e]; exact ha)
  · rw [List.mem_append] at ht
    rcases ht with ht | ht
    · exact h.2 t ht
    · have : t = w := by simpa using ht
      rw [this]
      exact (rn_mt_lt hm).2
theorem rem_zero {g : Nat → Bool} : ∀ n, rem g (fun _ => 1) n = 0 → ∀ c, c < n → g c = true
  | 0, _, c, hc => by omega
  | n + 1, h, c, hc => by
    unfold rem at h
    by_cases hcn : c = n
    · rw [hcn]
      cases hg : g n with
      | true => rfl
      | false => rw [hg] at h; simp at h
    · exact rem_zero n (by omega) c (by omega)
theorem trF_all {A : rn_L} {s0 : Nat} (hd : rn_ok A.flatten) : ∀ (f : Nat) (S : List Nat), tS A S → rem (gn A S) (fun _ => 1) A.length ≤ f → s0 ∈ S → (∀ t, t ∈ S → rn_con A (rn_c A s0) (rn_c A t)) → tS A (trF A f S) ∧ nxS A (trF A f S) = none ∧ s0 ∈ trF A f S ∧ ∀ t, t ∈ trF A f S → rn_con A (rn_c A s0) (rn_c A t) := by
  intro f
  induction f with
  | zero =>
    intro S hS hr h0 hc
    cases hx : nxS A S with
    | none => rw [trF_none hx]; exact ⟨hS, hx, h0, hc⟩
    | some w =>
      obtain ⟨h1, h2, -⟩ := nxS_step hd hS hx
      have hw : w < A.flatten.length := h1.2 w (by simp)
      have := rem_zero (g := gn A S) A.length (by omega) (rn_c A w) (rn_c_in A w hw).1
      rw [h2] at this
      cases this
  | succ f ih =>
    intro S hS hr h0 hc
    cases hx : nxS A S with
    | none => rw [trF_none hx]; exact ⟨hS, hx, h0, hc⟩
    | some w =>
      obtain ⟨h1, h2, c, h3, h4⟩ := nxS_step hd hS hx
      have hw : w < A.flatten.length := h1.2 w (by simp)
      have r := rem_st (f := fun _ => 1) h2 (fun b => gn_app (A := A) (S := S) (w := w) (b := b)) A.length (rn_c_in A w hw).1
      have r' : rem (gn A (S ++ [w])) (fun _ => 1) A.length + 1 = rem (gn A S) (fun _ => 1) A.length := r
      rw [trF_some hx]
      refine ih (S ++ [w]) h1 (by omega) (List.mem_append_left _ h0) (fun t ht => ?_)
      rw [List.mem_append] at ht
      rcases ht with ht | ht
      · exact hc t ht
      · have e : t = w := by simpa using ht
        rw [e]
        obtain ⟨t9, h8, h9⟩ := List.mem_map.mp h3
        have := hc t9 h8
        rw [h9] at this
        exact this.st h4
theorem trS_all {A : rn_L} {s : Nat} (hd : rn_ok A.flatten) (hs : s < A.flatten.length) : tS A (trS A s) ∧ nxS A (trS A s) = none ∧ s ∈ trS A s ∧ ∀ t, t ∈ trS A s → rn_con A (rn_c A s) (rn_c A t) := by
  refine trF_all hd A.length [s] ⟨by simp, fun t ht => ?_⟩ ?_ (by simp) (fun t ht => ?_)
  · have : t = s := by simpa using ht
    rw [this]; exact hs
  · have : ∀ (g : Nat → Bool) n, rem g (fun _ => 1) n ≤ n := by
      intro g n
      induction n with
      | zero => exact Nat.le_refl _
      | succ n ih =>
        unfold rem
        by_cases h : g n = true
        · rw [if_pos h]; omega
        · rw [if_neg h]; omega
    exact this _ _
  · have : t = s := by simpa using ht
    rw [this]; exact rn_con.rf
/-- nothing leads out -/
theorem nxS_cl {A : rn_L} {S : List Nat} {v : Nat} (hd : rn_ok A.flatten) (h : tS A S) (hn : nxS A S = none) (hv : v ∈ vsO A S) : mtf A v ∈ vsO A S := by
  unfold nxS at hn
  rw [Option.map_eq_none_iff, List.find?_eq_none] at hn
  have hvl := (vsO_in h hv).1
  have hm := mtf_mt hd hvl
  have hml := (rn_mt_lt hm).2
  obtain ⟨u, h1, h2⟩ := List.mem_map.mp ((fm_cr (A := A) (vsO A S)).mpr (List.mem_map.mpr ⟨v, hv, rfl⟩))
  by_cases huv : u = v
  · have h9 := hn u h1
    rw [huv] at h9
    have hg : gn A S (rn_c A (mtf A v)) = true := by
      cases hb : gn A S (rn_c A (mtf A v)) with
      | true => rfl
      | false => rw [hb] at h9; exact absurd rfl h9
    unfold gn at hg
    rw [decide_eq_true_iff] at hg
    exact vsO_of h hml hg
  · have hul := (vsO_in h (fm_mem _ h1)).1
    have : rn_mt A.flatten v u := ⟨fun e => huv e.symm, _, _, vAt_of hvl, vAt_of hul, h2.symm⟩
    rw [mtf_eq hd this]
    exact fm_mem _ h1
theorem con_in {A : rn_L} {S : List Nat} {a b : Nat} (hd : rn_ok A.flatten) (h : tS A S) (hn : nxS A S = none) (ha : a ∈ S.map (rn_c A)) (hc : rn_con A a b) : b ∈ S.map (rn_c A) := by
  refine hc (fun x => x ∈ S.map (rn_c A)) ha (fun x y hx hxy => ?_)
  obtain ⟨v, w, hm, e1, e2⟩ := hxy
  have hv : v ∈ vsO A S := vsO_of h (rn_mt_lt hm).1 (by rw [e1]; exact hx)
  have hw := nxS_cl hd h hn hv
  rw [mtf_eq hd hm] at hw
  rw [← e2]
  exact (vsO_in h hw).2
/-- the parts: marks of the components -/
def mk (A : rn_L) (m : Nat → Nat) (P : Nat) : Prop := (∀ c, c < A.length → m c < P) ∧ (∀ a b, rn_adj A a b → m a = m b) ∧ (∀ a b, a < A.length → b < A.length → m a = m b → rn_con A a b) ∧ ∀ p, p < P → ∃ c, c < A.length ∧ m c = p
theorem mk_con {A : rn_L} {m : Nat → Nat} {P a b : Nat} (h : mk A m P) (hc : rn_con A a b) : m a = m b := hc (fun x => m a = m x) rfl (fun x y hx hxy => hx.trans (h.2.1 x y hxy))
/-- the components of the walk from s are those of its part -/
theorem trS_part {A : rn_L} {m : Nat → Nat} {P s c : Nat} (hd : rn_ok A.flatten) (hk : mk A m P) (hs : s < A.flatten.length) (hc : c < A.length) : c ∈ (trS A s).map (rn_c A) ↔ m c = m (rn_c A s) := by
  obtain ⟨h1, h2, h3, h4⟩ := trS_all hd hs
  constructor
  · intro h
    obtain ⟨t, ht, e⟩ := List.mem_map.mp h
    rw [← e]
    exact (mk_con hk (h4 t ht)).symm
  · intro h
    exact con_in hd h1 h2 (List.mem_map.mpr ⟨s, h3, rfl⟩) (hk.2.2.1 _ _ (rn_c_in A s hs).1 hc h.symm)
def cpl (A : rn_L) (m : Nat → Nat) (p : Nat) : List Nat := (List.range A.length).filter (fun c => decide (m c = p))
theorem nodup_filter {α : Type} {l : List α} {p : α → Bool} (h : l.Nodup) : (l.filter p).Nodup := List.Nodup.sublist List.filter_sublist h
theorem trS_len {A : rn_L} {m : Nat → Nat} {P s : Nat} (hd : rn_ok A.flatten) (hk : mk A m P) (hs : s < A.flatten.length) : (trS A s).length = (cpl A m (m (rn_c A s))).length ∧ (vsO A (trS A s)).length = (pvl A m (m (rn_c A s)) A.flatten.length).length := by
  obtain ⟨h1, h2, h3, h4⟩ := trS_all hd hs
  constructor
  · rw [← List.length_map (as := trS A s) (rn_c A)]
    refine nodup_eq h1.1 (nodup_filter List.nodup_range) (fun c => ?_)
    unfold cpl
    rw [List.mem_filter, List.mem_range, decide_eq_true_iff]
    constructor
    · intro h
      obtain ⟨t, ht, e⟩ := List.mem_map.mp h
      have hc : c < A.length := by rw [← e]; exact (rn_c_in A t (h1.2 t ht)).1
      exact ⟨hc, (trS_part hd hk hs hc).mp h⟩
    · intro h
      exact (trS_part hd hk hs h.1).mpr h.2
  · refine nodup_eq (vsO_nd h1) (nodup_filter List.nodup_range) (fun v => ?_)
    unfold pvl
    rw [List.mem_filter, List.mem_range, decide_eq_true_iff]
    constructor
    · intro h
      obtain ⟨g1, g2⟩ := vsO_in h1 h
      exact ⟨g1, (trS_part hd hk hs (rn_c_in A v g1).1).mp g2⟩
    · intro h
      exact vsO_of h1 h.1 ((trS_part hd hk hs (rn_c_in A v h.1).1).mpr h.2)
theorem tks_len {A : rn_L} {sg : Nat → Bool} {vs : List Nat} : ∀ S, (tks A sg vs S).length = (vsO A S).length + S.length
  | [] => rfl
  | s :: S => by
    have ih := tks_len (A := A) (sg := sg) (vs := vs) S
    unfold tks vsO at ih ⊢
    rw [List.map_cons, List.flatten_cons, List.map_cons, List.flatten_cons, List.length_append, List.length_append, ih, List.length_append, List.length_map, List.length_cons]
    simp
    omega
/-! sums -/
def sN (f : Nat → Nat) : Nat → Nat
  | 0 => 0
  | n + 1 => sN f n + f n
theorem sN_congr {f g : Nat → Nat} : ∀ n, (∀ p, p < n → f p = g p) → sN f n = sN g n
  | 0, _ => rfl
  | n + 1, h => by
    unfold sN
    rw [sN_congr n (fun p hp => h p (by omega)), h n (by omega)]
theorem sN_add {f g : Nat → Nat} : ∀ n, sN (fun p => f p + g p) n = sN f n + sN g n
  | 0 => rfl
  | n + 1 => by
    unfold sN
    rw [sN_add n]
    omega
theorem sN_ind {q : Nat} : ∀ n, sN (fun p => if q = p then 1 else 0) n = if q < n then 1 else 0
  | 0 => by simp [sN]
  | n + 1 => by
    unfold sN
    rw [sN_ind n]
    by_cases h1 : q < n
    · rw [if_pos h1, if_neg (by omega), if_pos (by omega)]
    · by_cases h2 : q = n
      · rw [if_neg h1, if_pos h2, if_pos (by omega)]
      · rw [if_neg h1, if_neg h2, if_neg (by omega)]
theorem sN_fib {g : Nat → Nat} {P : Nat} : ∀ n, (∀ v, v < n → g v < P) → sN (fun p => ((List.range n).filter (fun v => decide (g v = p))).length) P = n
  | 0, _ => by
    have : ∀ P, sN (fun p => ((List.range 0).filter (fun v => decide (g v = p))).length) P = 0 := by
      intro P
      induction P with
      | zero => rfl
      | succ P ih => unfold sN; rw [ih]; rfl
    exact this P
  | n + 1, h => by
    have ih := sN_fib n (fun v hv => h v (by omega))
    have e : sN (fun p => ((List.range (n + 1)).filter (fun v => decide (g v = p))).length) P = sN (fun p => ((List.range n).filter (fun v => decide (g v = p))).length + if g n = p then 1 else 0) P := by
      refine sN_congr P (fun p _ => ?_)
      show ((List.range (n + 1)).filter (fun v => decide (g v = p))).length = _
      rw [List.range_succ, List.filter_append, List.length_append]
      by_cases hg : g n = p <;> simp [hg]
    rw [e, sN_add, ih, sN_ind, if_pos (h n (by omega))]
/-! nets whose crossings are 0 .. c - 1, each once over and once under -/
def wkF (F : List (Nat × Nat)) : Prop := F.Nodup ∧ ∀ p : Nat × Nat, p ∈ F → p.1 < 40 ∧ p.2 < 2 ∧ (p.1, 1 - p.2) ∈ F
def okF (F : List (Nat × Nat)) (c : Nat) : Prop := F.Nodup ∧ ∀ p : Nat × Nat, p ∈ F ↔ p.1 < c ∧ p.2 < 2
theorem okF_wk {F : List (Nat × Nat)} {c : Nat} (hc : c ≤ 40) (h : okF F c) : wkF F := by
  refine ⟨h.1, fun p hp => ?_⟩
  obtain ⟨h1, h2⟩ := (h.2 p).mp hp
  exact ⟨by omega, h2, (h.2 _).mpr ⟨h1, by show 1 - p.2 < 2; omega⟩⟩
theorem nodup_at {α : Type} {F : List α} (hn : F.Nodup) {v w : Nat} {p : α} (h1 : F[v]? = some p) (h2 : F[w]? = some p) : v = w := by
  obtain ⟨a1, a2⟩ := List.getElem?_eq_some_iff.mp h1
  obtain ⟨b1, b2⟩ := List.getElem?_eq_some_iff.mp h2
  exact (List.getElem_inj hn).mp (a2.trans b2.symm)
theorem wkF_ok {F : List (Nat × Nat)} (h : wkF F) : rn_ok F := by
  have key : ∀ (v w : Nat) (p q : Nat × Nat), v ≠ w → F[v]? = some p → F[w]? = some q → p.1 = q.1 → q = (p.1, 1 - p.2) := by
    intro v w p q hvw hp hq he
    obtain ⟨-, p2, -⟩ := h.2 p (List.mem_of_getElem? hp)
    obtain ⟨-, q2, -⟩ := h.2 q (List.mem_of_getElem? hq)
    have hne : p.2 ≠ q.2 := fun e => hvw (nodup_at h.1 hp (by rw [hq]; exact congrArg some (Prod.ext he.symm e.symm)))
    exact Prod.ext he.symm (by show q.2 = 1 - p.2; omega)
  refine ⟨⟨fun v w w' h1 h2 => ?_, fun v p hp => ?_⟩, fun v hv => ?_⟩
  · obtain ⟨n1, p, q, a1, a2, a3⟩ := h1
    obtain ⟨n2, p', q', b1, b2, b3⟩ := h2
    rw [a1] at b1
    cases b1
    have e1 := key v w p q n1 a1 a2 a3
    have e2 := key v w' p q' n2 a1 b2 b3
    rw [e1] at a2
    rw [e2] at b2
    exact nodup_at h.1 a2 b2
  · obtain ⟨h1, h2, -⟩ := h.2 p (List.mem_of_getElem? hp)
    exact ⟨h1, h2⟩
  · have hp := List.getElem?_eq_getElem hv
    obtain ⟨h1, h2, h3⟩ := h.2 F[v] (List.getElem_mem hv)
    obtain ⟨w, hw, e⟩ := List.getElem_of_mem h3
    refine ⟨w, fun e9 => ?_, F[v], F[w], hp, List.getElem?_eq_getElem hw, by rw [e]⟩
    subst e9
    have := congrArg Prod.snd e
    have h9 : F[v].2 = 1 - F[v].2 := this
    omega
theorem okF_len {F : List (Nat × Nat)} {c : Nat} (h : okF F c) : F.length = 2 * c := by
  have e : ∀ c, ((List.range c).flatMap (fun x => [(x, 0), (x, 1)])).length = 2 * c := by
    intro c
    induction c with
    | zero => rfl
    | succ c ih => rw [List.range_succ, List.flatMap_append, List.length_append, ih]; simp; omega
  have nd : ∀ c, ((List.range c).flatMap (fun x => [(x, 0), (x, 1)])).Nodup := by
    intro c
    induction c with
    | zero => exact List.nodup_nil
    | succ c ih =>
      rw [List.range_succ, List.flatMap_append, List.nodup_append]
      refine ⟨ih, by simp, fun a ha b hb e => ?_⟩
      rw [List.mem_flatMap] at ha
      obtain ⟨x, hx, ha⟩ := ha
      have hx := List.mem_range.mp hx
      have h1 : a.1 = x := by
        simp at ha
        rcases ha with ha | ha <;> rw [ha]
      have h2 : b.1 = c := by
        simp at hb
        rcases hb with hb | hb <;> rw [hb]
      rw [e] at h1
      omega
  rw [← e c]
  refine nodup_eq h.1 (nd c) (fun p => ?_)
  rw [h.2 p, List.mem_flatMap]
  constructor
  · intro ⟨h1, h2⟩
    refine ⟨p.1, List.mem_range.mpr h1, ?_⟩
    obtain ⟨x, u⟩ := p
    have : u = 0 ∨ u = 1 := by have : u < 2 := h2; omega
    rcases this with e | e <;> simp [e]
  · intro ⟨x, hx, hp⟩
    have hx := List.mem_range.mp hx
    simp at hp
    rcases hp with hp | hp <;> rw [hp] <;> exact ⟨hx, by simp⟩
/-- the net that a walk writes down -/
def rnv (A : rn_L) (vs : List Nat) (v : Nat) : Nat × Nat := (num A vs (crs A v) - 1, uns A v)
def rnN (A : rn_L) (vs S : List Nat) : rn_L := S.map (fun s => (rgl A s).map (rnv A vs))
def rnG (A : rn_L) (sg : Nat → Bool) (vs : List Nat) (y : Nat) : Bool := sg (crs A (((fm A vs)[y]?).getD 0))
theorem rnN_fl {A : rn_L} {vs : List Nat} : ∀ S, (rnN A vs S).flatten = (vsO A S).map (rnv A vs)
  | [] => rfl
  | s :: S => by
    have ih := rnN_fl (A := A) (vs := vs) S
    unfold rnN vsO at ih ⊢
    rw [List.map_cons, List.flatten_cons, ih, List.map_cons, List.flatten_cons, List.map_append]
theorem rnN_len {A : rn_L} {vs S : List Nat} : (rnN A vs S).length = S.length := by
  unfold rnN
  rw [List.length_map]
theorem rnG_at {A : rn_L} {sg : Nat → Bool} {vs : List Nat} {v : Nat} (hv : v ∈ vs) : rnG A sg vs (num A vs (crs A v) - 1) = sg (crs A v) := by
  obtain ⟨u, h1, h2⟩ := num_at (A := A) (vs := vs) (x := crs A v) (List.mem_map.mpr ⟨v, hv, rfl⟩)
  unfold rnG
  rw [h1]
  show sg (crs A u) = _
  rw [h2]
theorem tkv_rnv {A : rn_L} {sg : Nat → Bool} {vs : List Nat} {v : Nat} (hv : v ∈ vs) : tkv (rnG A sg vs) (rnv A vs v) = tkn A sg vs v := by
  have h1 : 0 < num A vs (crs A v) := by unfold num; omega
  unfold tkv tkn rnv
  rw [rnG_at hv]
  show 4 * (num A vs (crs A v) - 1 + 1) + _ + _ = _
  rw [Nat.sub_add_cancel h1]
theorem tks_tk {A : rn_L} {sg : Nat → Bool} {vs : List Nat} : ∀ S, (∀ v, v ∈ vsO A S → v ∈ vs) → tks A sg vs S = tk (rnG A sg vs) (rnN A vs S)
  | [], _ => rfl
  | s :: S, h => by
    have e : vsO A (s :: S) = rgl A s ++ vsO A S := by
      unfold vsO
      rw [List.map_cons, List.flatten_cons]
    rw [e] at h
    have ih := tks_tk (sg := sg) S (fun v hv => h v (List.mem_append_right _ hv))
    unfold tks tk rnN tkc at ih ⊢
    rw [List.map_cons, List.flatten_cons, ih, List.map_cons, List.map_cons, List.flatten_cons, List.map_map (l := rgl A s)]
    have e2 : (rgl A s).map (tkn A sg vs) = (rgl A s).map (tkv (rnG A sg vs) ∘ rnv A vs) := List.map_congr_left (fun v hv => (tkv_rnv (h v (List.mem_append_left _ hv))).symm)
    rw [e2]
/-- the walk's net is one with crossings 0 .. -/
theorem rnN_ok {A : rn_L} {S : List Nat} (hF : wkF A.flatten) (h : tS A S) (hn : nxS A S = none) : okF (rnN A (vsO A S) S).flatten (fm A (vsO A S)).length := by
  have hd := wkF_ok hF
  rw [rnN_fl]
  have hmem : ∀ v, v ∈ vsO A S → vAt A v ∈ A.flatten := fun v hv => List.mem_of_getElem? (vAt_of (vsO_in h hv).1)
  have inj : ∀ v w, v ∈ vsO A S → w ∈ vsO A S → crs A v = crs A w → uns A v = uns A w → v = w := by
    intro v w hv hw e1 e2
    refine nodup_at hF.1 (vAt_of (vsO_in h hv).1) ?_
    rw [vAt_of (vsO_in h hw).1]
    exact congrArg some (Prod.ext e1.symm e2.symm)
  have numi : ∀ v w, v ∈ vsO A S → w ∈ vsO A S → num A (vsO A S) (crs A v) = num A (vsO A S) (crs A w) → crs A v = crs A w := by
    intro v w hv hw e
    obtain ⟨u, h1, h2⟩ := num_at (A := A) (vs := vsO A S) (x := crs A v) (List.mem_map.mpr ⟨v, hv, rfl⟩)
    obtain ⟨u', h3, h4⟩ := num_at (A := A) (vs := vsO A S) (x := crs A w) (List.mem_map.mpr ⟨w, hw, rfl⟩)
    rw [e, h3] at h1
    cases h1
    rw [← h2, ← h4]
  have npos : ∀ v, 0 < num A (vsO A S) (crs A v) := fun v => by unfold num; omega
  refine ⟨nodup_map (vsO_nd h) (fun v w hv hw e => ?_), fun p => ?_⟩
  · have e1 : (rnv A (vsO A S) v).1 = (rnv A (vsO A S) w).1 := congrArg Prod.fst e
    have e2 : (rnv A (vsO A S) v).2 = (rnv A (vsO A S) w).2 := congrArg Prod.snd e
    unfold rnv at e1 e2
    have e1 : num A (vsO A S) (crs A v) - 1 = num A (vsO A S) (crs A w) - 1 := e1
    have := npos v
    have := npos w
    exact inj v w hv hw (numi v w hv hw (by omega)) e2
  · constructor
    · intro hp
      obtain ⟨v, hv, e⟩ := List.mem_map.mp hp
      rw [← e]
      have h1 := num_le (A := A) (vs := vsO A S) (x := crs A v) (List.mem_map.mpr ⟨v, hv, rfl⟩)
      have := npos v
      refine ⟨?_, (hF.2 _ (hmem v hv)).2.1⟩
      show num A (vsO A S) (crs A v) - 1 < _
      omega
    · intro ⟨h1, h2⟩
      obtain ⟨u, hu⟩ : ∃ u, (fm A (vsO A S))[p.1]? = some u := ⟨_, List.getElem?_eq_getElem h1⟩
      have hn1 := num_of hu
      have huv := fm_mem _ (List.mem_of_getElem? hu)
      obtain ⟨g1, g2, g3⟩ := hF.2 _ (hmem u huv)
      by_cases hp : p.2 = uns A u
      · refine List.mem_map.mpr ⟨u, huv, Prod.ext ?_ hp.symm⟩
        show num A (vsO A S) (crs A u) - 1 = p.1
        rw [hn1]
        rfl
      · have hmv := nxS_cl hd h hn huv
        have hm := mtf_mt hd (vsO_in h huv).1
        obtain ⟨n1, q, r, a1, a2, a3⟩ := hm
        rw [vAt_of (vsO_in h huv).1] at a1
        cases a1
        have e2 : vAt A (mtf A u) = r := vAt_eq a2
        have ec : crs A (mtf A u) = crs A u := by
          unfold crs
          rw [e2, a3]
        have hg := hF.2 _ (hmem _ hmv)
        have hun : uns A (mtf A u) = p.2 := by
          have h5 : uns A (mtf A u) < 2 := hg.2.1
          have h6 : uns A u < 2 := g2
          have h7 : uns A (mtf A u) ≠ uns A u := fun e => n1 (inj u (mtf A u) huv hmv ec.symm e.symm)
          omega
        refine List.mem_map.mpr ⟨mtf A u, hmv, Prod.ext ?_ hun⟩
        show num A (vsO A S) (crs A (mtf A u)) - 1 = p.1
        rw [ec, hn1]
        rfl
/-! the parts' rows, put one behind another -/
def rlt (a b : Nat × List Nat) : Bool := decide (a.1 < b.1) || (decide (a.1 = b.1) && lxb a.2 b.2)
def rwA (A : rn_L) (sg : Nat → Bool) (m : Nat → Nat) (R : List (Nat × List Nat)) (p : Nat) : List (Nat × List Nat) := match lsC A sg (pvl A m p A.flatten.length) with
  | none => R
  | some T => R ++ [((pvl A m p A.flatten.length).length, T)]
def rwL (A : rn_L) (sg : Nat → Bool) (m : Nat → Nat) (P : Nat) : List (Nat × List Nat) := (List.range P).foldl (rwA A sg m) []
def cir (A : rn_L) (m : Nat → Nat) : Nat → Nat
  | 0 => 0
  | p + 1 => cir A m p + if pvl A m p A.flatten.length = [] then 1 else 0
theorem rwL_s {A : rn_L} {sg : Nat → Bool} {m : Nat → Nat} {P : Nat} : rwL A sg m (P + 1) = rwA A sg m (rwL A sg m P) P := by
  unfold rwL
  rw [List.range_succ, List.foldl_append]
  rfl
theorem lsC_nil {A : rn_L} {sg : Nat → Bool} : lsC A sg [] = none := rfl
theorem lsC_ne {A : rn_L} {sg : Nat → Bool} {vs : List Nat} (h : vs ≠ []) : ∃ T, lsC A sg vs = some T := by
  cases hl : lsC A sg vs with
  | none => exact absurd (lsC_none hl) h
  | some T => exact ⟨T, rfl⟩
theorem rwL_len {A : rn_L} {sg : Nat → Bool} {m : Nat → Nat} : ∀ P, (rwL A sg m P).length + cir A m P = P
  | 0 => rfl
  | P + 1 => by
    have ih := rwL_len (A := A) (sg := sg) (m := m) P
    rw [rwL_s]
    unfold rwA cir
    by_cases h : pvl A m P A.flatten.length = []
    · rw [h, lsC_nil, if_pos rfl]
      show (rwL A sg m P).length + _ = _
      omega
    · obtain ⟨T, hT⟩ := lsC_ne (sg := sg) h
      rw [hT, if_neg h]
      show (rwL A sg m P ++ [_]).length + _ = _
      rw [List.length_append]
      simp
      omega
theorem rwL_mem {A : rn_L} {sg : Nat → Bool} {m : Nat → Nat} {r : Nat × List Nat} : ∀ P, r ∈ rwL A sg m P → ∃ p v, p < P ∧ v < A.flatten.length ∧ m (rn_c A v) = p ∧ r = ((pvl A m p A.flatten.length).length, cdv A sg v)
  | 0, h => by simp [rwL] at h
  | P + 1, h => by
    rw [rwL_s] at h
    unfold rwA at h
    cases hl : lsC A sg (pvl A m P A.flatten.length) with
    | none =>
      rw [hl] at h
      obtain ⟨p, v, h1, h2⟩ := rwL_mem P h
      exact ⟨p, v, by omega, h2⟩
    | some T =>
      rw [hl] at h
      have h : r ∈ rwL A sg m P ++ [((pvl A m P A.flatten.length).length, T)] := h
      rw [List.mem_append] at h
      rcases h with h | h
      · obtain ⟨p, v, h1, h2⟩ := rwL_mem P h
        exact ⟨p, v, by omega, h2⟩
      · have e : r = ((pvl A m P A.flatten.length).length, T) := by simpa using h
        obtain ⟨v, hv, eT⟩ := lsC_mem _ hl
        unfold pvl at hv
        rw [List.mem_filter, List.mem_range, decide_eq_true_iff] at hv
        exact ⟨P, v, by omega, hv.1, hv.2, by rw [e, eT]⟩
theorem cdv_len {A : rn_L} {sg : Nat → Bool} {m : Nat → Nat} {P v : Nat} (hd : rn_ok A.flatten) (hk : mk A m P) (hv : v < A.flatten.length) : (cdv A sg v).length = (pvl A m (m (rn_c A v)) A.flatten.length).length + (cpl A m (m (rn_c A v))).length := by
  obtain ⟨h1, h2⟩ := trS_len hd hk hv
  unfold cdv
  rw [tks_len, h1, h2]
/-- a part without visits is one circle -/
theorem cpl_one {A : rn_L} {m : Nat → Nat} {P p : Nat} (hk : mk A m P) (hp : p < P) (h : pvl A m p A.flatten.length = []) : (cpl A m p).length = 1 := by
  obtain ⟨c, hc, hm⟩ := hk.2.2.2 p hp
  have key : ∀ b, b < A.length → m b = p → b = c := by
    intro b hb hmb
    have hcon := hk.2.2.1 c b hc hb (hm.trans hmb.symm)
    refine hcon (fun x => x = c) rfl (fun x y hx hxy => ?_)
    obtain ⟨v, w, hmt, e1, e2⟩ := hxy
    exfalso
    have hvp : v ∈ pvl A m p A.flatten.length := by
      unfold pvl
      rw [List.mem_filter, List.mem_range, decide_eq_true_iff]
      exact ⟨(rn_mt_lt hmt).1, by rw [e1, hx, hm]⟩
    rw [h] at hvp
    cases hvp
  have : (cpl A m p).length = [c].length := by
    refine nodup_eq (nodup_filter List.nodup_range) (by simp) (fun b => ?_)
    unfold cpl
    rw [List.mem_filter, List.mem_range, decide_eq_true_iff, List.mem_singleton]
    exact ⟨fun h9 => key b h9.1 h9.2, fun h9 => by rw [h9]; exact ⟨hc, hm⟩⟩
  exact this
theorem rwL_sum {A : rn_L} {sg : Nat → Bool} {m : Nat → Nat} {P : Nat} (hd : rn_ok A.flatten) (hk : mk A m P) : ∀ p, p ≤ P → ((rwL A sg m p).map (fun r => r.2.length)).sum + cir A m p = sN (fun q => (pvl A m q A.flatten.length).length + (cpl A m q).length) p ∧ ((rwL A sg m p).map (fun r => r.1)).sum = sN (fun q => (pvl A m q A.flatten.length).length) p
  | 0, _ => ⟨rfl, rfl⟩
  | p + 1, hp => by
    obtain ⟨ih, ih2⟩ := rwL_sum hd hk p (by omega)
    rw [rwL_s]
    unfold rwA cir sN
    by_cases h : pvl A m p A.flatten.length = []
    · have := cpl_one hk (by omega) h
      rw [h, lsC_nil, if_pos rfl, this]
      show ((rwL A sg m p).map (fun r => r.2.length)).sum + _ = _ ∧ ((rwL A sg m p).map (fun r => r.1)).sum = _
      rw [ih2]
      simp only [List.length_nil]
      omega
    · obtain ⟨T, hT⟩ := lsC_ne (sg := sg) h
      obtain ⟨v, hv, eT⟩ := lsC_mem _ hT
      unfold pvl at hv
      rw [List.mem_filter, List.mem_range, decide_eq_true_iff] at hv
      have hl := cdv_len (sg := sg) hd hk hv.1
      rw [hv.2, ← eT] at hl
      rw [hT, if_neg h]
      show ((rwL A sg m p ++ [((pvl A m p A.flatten.length).length, T)]).map (fun r => r.2.length)).sum + _ = _ ∧ ((rwL A sg m p ++ [((pvl A m p A.flatten.length).length, T)]).map (fun r => r.1)).sum = _
      rw [List.map_append, List.sum_append, List.map_append, List.sum_append, ih2]
      simp only [List.map_cons, List.map_nil, List.sum_cons, List.sum_nil]
      omega
theorem rwL_tot {A : rn_L} {sg : Nat → Bool} {m : Nat → Nat} {P : Nat} (hd : rn_ok A.flatten) (hk : mk A m P) : ((rwL A sg m P).map (fun r => r.2.length)).sum + cir A m P = A.flatten.length + A.length ∧ ((rwL A sg m P).map (fun r => r.1)).sum = A.flatten.length := by
  obtain ⟨h1, h2⟩ := rwL_sum (sg := sg) hd hk P (Nat.le_refl _)
  have e1 : sN (fun q => (pvl A m q A.flatten.length).length) P = A.flatten.length := sN_fib (g := fun v => m (rn_c A v)) _ (fun v hv => hk.1 _ (rn_c_in A v hv).1)
  have e2 : sN (fun q => (cpl A m q).length) P = A.length := sN_fib (g := m) _ (fun c hc => hk.1 c hc)
  rw [h1, h2, sN_add, e1, e2]
  exact ⟨rfl, rfl⟩
/-! the order in which the rows are put -/
def rAt (R : List (Nat × List Nat)) (p : Nat) : Nat × List Nat := (R[p]?).getD (0, [])
theorem rAt_of {R : List (Nat × List Nat)} {p : Nat} (h : p < R.length) : R[p]? = some (rAt R p) := by
  unfold rAt
  rw [List.getElem?_eq_getElem h]
  rfl
def pkA (R : List (Nat × List Nat)) (w : Nat → Bool) (l : Option Nat) (p : Nat) : Option Nat := if w p then l else match l with
  | none => some p
  | some q => if rlt (rAt R p) (rAt R q) then some p else some q
def pk1 (R : List (Nat × List Nat)) (w : Nat → Bool) (k : Nat) : Option Nat := (List.range k).foldl (pkA R w) none
theorem pk1_s {R : List (Nat × List Nat)} {w : Nat → Bool} {k : Nat} : pk1 R w (k + 1) = pkA R w (pk1 R w k) k := by
  unfold pk1
  rw [List.range_succ, List.foldl_append]
  rfl
theorem pk1_in {R : List (Nat × List Nat)} {w : Nat → Bool} {q : Nat} : ∀ k, pk1 R w k = some q → q < k ∧ w q = false
  | 0, h => by simp [pk1] at h
  | k + 1, h => by
    rw [pk1_s] at h
    unfold pkA at h
    cases hw : w k with
    | true =>
      rw [hw] at h
      obtain ⟨h1, h2⟩ := pk1_in k h
      exact ⟨by omega, h2⟩
    | false =>
      rw [hw] at h
      cases hp : pk1 R w k with
      | none =>
        rw [hp] at h
        have h : some k = some q := h
        cases h
        exact ⟨by omega, hw⟩
      | some q9 =>
        rw [hp] at h
        have h : (if rlt (rAt R k) (rAt R q9) then some k else some q9) = some q := h
        obtain ⟨h1, h2⟩ := pk1_in k hp
        by_cases hr : rlt (rAt R k) (rAt R q9) = true
        · rw [if_pos hr] at h
          cases h
          exact ⟨by omega, hw⟩
        · rw [if_neg hr] at h
          cases h
          exact ⟨by omega, h2⟩
theorem pk1_none {R : List (Nat × List Nat)} {w : Nat → Bool} : ∀ k, pk1 R w k = none → ∀ p, p < k → w p = true
  | 0, _, p, hp => by omega
  | k + 1, h, p, hp => by
    rw [pk1_s] at h
    unfold pkA at h
    cases hw : w k with
    | true =>
      rw [hw] at h
      by_cases hpk : p = k
      · rw [hpk]; exact hw
      · exact pk1_none k h p (by omega)
    | false =>
      rw [hw] at h
      cases hp9 : pk1 R w k with
      | none => rw [hp9] at h; cases h
      | some q =>
        rw [hp9] at h
        have h : (if rlt (rAt R k) (rAt R q) then some k else some q) = none := h
        by_cases hr : rlt (rAt R k) (rAt R q) = true
        · rw [if_pos hr] at h; cases h
        · rw [if_neg hr] at h; cases h
def sel (R : List (Nat × List Nat)) : Nat → (Nat → Bool) → List Nat
  | 0, _ => []
  | k + 1, w => match pk1 R w R.length with
    | none => []
    | some p => p :: sel R k (fun i => w i || decide (i = p))
def sft (b : Nat) (T : List Nat) : List Nat := T.map (fun t => if t = 0 then 0 else t + 4 * b)
def pkT (R : List (Nat × List Nat)) : Nat → List Nat → List Nat
  | _, [] => []
  | b, p :: ps => sft b (rAt R p).2 ++ pkT R (b + (rAt R p).1 / 2) ps
/-- what pack writes -/
def pkR (A : rn_L) (sg : Nat → Bool) (m : Nat → Nat) (P : Nat) : List Nat := pkT (rwL A sg m P) 0 (sel (rwL A sg m P) (rwL A sg m P).length (fun _ => false)) ++ List.replicate (cir A m P) 0
theorem sel_some {R : List (Nat × List Nat)} {w : Nat → Bool} {k p : Nat} (h : pk1 R w R.length = some p) : sel R (k + 1) w = p :: sel R k (fun i => w i || decide (i = p)) := by
  show (match pk1 R w R.length with | none => [] | some p => p :: sel R k (fun i => w i || decide (i = p))) = _
  rw [h]
/-- sums over what is not written yet -/
theorem rem_sum {R : List (Nat × List Nat)} (f : Nat × List Nat → Nat) : rem (fun _ => false) (fun p => f (rAt R p)) R.length = (R.map f).sum := by
  have key : ∀ n, n ≤ R.length → rem (fun _ => false) (fun p => f (rAt R p)) n = ((R.take n).map f).sum := by
    intro n
    induction n with
    | zero => intro _; rfl
    | succ n ih =>
      intro hn
      unfold rem
      rw [ih (by omega), List.take_succ_eq_append_getElem (by omega), List.map_append, List.sum_append]
      have : rAt R n = R[n] := by
        unfold rAt
        rw [List.getElem?_eq_getElem (by omega)]
        rfl
      rw [this]
      simp
  rw [key _ (Nat.le_refl _), List.take_length]
theorem sel_sum {R : List (Nat × List Nat)} (f : Nat × List Nat → Nat) : ∀ (k : Nat) (w : Nat → Bool), rem w (fun _ => 1) R.length = k → ((sel R k w).map (fun p => f (rAt R p))).sum = rem w (fun p => f (rAt R p)) R.length ∧ (∀ p, p ∈ sel R k w → p < R.length) := by
  intro k
  induction k with
  | zero =>
    intro w hw
    have h0 := rem_zero (g := w) R.length hw
    have : ∀ n, n ≤ R.length → rem w (fun p => f (rAt R p)) n = 0 := by
      intro n
      induction n with
      | zero => intro _; rfl
      | succ n ih =>
        intro hn
        unfold rem
        rw [ih (by omega), h0 n (by omega)]
        rfl
    refine ⟨by rw [this _ (Nat.le_refl _)]; rfl, fun p hp => by cases hp⟩
  | succ k ih =>
    intro w hw
    cases hp : pk1 R w R.length with
    | none =>
      have h0 := pk1_none R.length hp
      have : ∀ n, n ≤ R.length → rem w (fun _ => 1) n = 0 := by
        intro n
        induction n with
        | zero => intro _; rfl
        | succ n ih =>
          intro hn
          unfold rem
          rw [ih (by omega), h0 n (by omega)]
          rfl
      have := this _ (Nat.le_refl _)
      omega
    | some p =>
      obtain ⟨h1, h2⟩ := pk1_in R.length hp
      have r1 := rem_st (g' := fun i => w i || decide (i = p)) (f := fun _ => 1) h2 (fun b => rfl) R.length h1
      have r1' : rem (fun i => w i || decide (i = p)) (fun _ => 1) R.length + 1 = rem w (fun _ => 1) R.length := r1
      have r2 := rem_st (g' := fun i => w i || decide (i = p)) (f := fun p => f (rAt R p)) h2 (fun b => rfl) R.length h1
      obtain ⟨g1, g2⟩ := ih (fun i => w i || decide (i = p)) (by omega)
      rw [sel_some hp, List.map_cons, List.sum_cons, g1]
      refine ⟨by omega, fun q hq => ?_⟩
      rw [List.mem_cons] at hq
      rcases hq with hq | hq
      · rw [hq]; exact h1
      · exact g2 q hq
theorem sft_len {b : Nat} {T : List Nat} : (sft b T).length = T.length := by
  unfold sft
  rw [List.length_map]
theorem pkT_len {R : List (Nat × List Nat)} : ∀ (ps : List Nat) (b : Nat), (pkT R b ps).length = (ps.map (fun p => (rAt R p).2.length)).sum
  | [], _ => rfl
  | p :: ps, b => by
    unfold pkT
    rw [List.length_append, sft_len, pkT_len ps, List.map_cons, List.sum_cons]
/-! the whole row is that of a net -/
def okB (F : List (Nat × Nat)) (b c : Nat) : Prop := F.Nodup ∧ ∀ p : Nat × Nat, p ∈ F ↔ b ≤ p.1 ∧ p.1 < b + c ∧ p.2 < 2
def shN (b : Nat) (A : rn_L) : rn_L := A.map (fun B => B.map (fun p => (p.1 + b, p.2)))
theorem shN_fl {b : Nat} : ∀ A : rn_L, (shN b A).flatten = A.flatten.map (fun p => (p.1 + b, p.2))
  | [] => rfl
  | B :: A => by
    have ih := shN_fl (b := b) A
    unfold shN at ih ⊢
    rw [List.map_cons, List.flatten_cons, ih, List.flatten_cons, List.map_append]
theorem sft_tk {b : Nat} {sg : Nat → Bool} : ∀ A : rn_L, sft b (tk sg A) = tk (fun x => sg (x - b)) (shN b A)
  | [] => rfl
  | B :: A => by
    have ih := sft_tk (b := b) (sg := sg) A
    have e : shN b (B :: A) = B.map (fun p => (p.1 + b, p.2)) :: shN b A := rfl
    rw [e, tk_cons, tk_cons, ← ih]
    unfold sft
    rw [List.map_append, List.map_cons, List.map_map, List.map_map]
    congr 1
    refine List.map_congr_left (fun p _ => ?_)
    show (if tkv sg p = 0 then 0 else tkv sg p + 4 * b) = tkv (fun x => sg (x - b)) (p.1 + b, p.2)
    have h0 : tkv sg p ≠ 0 := by unfold tkv; omega
    rw [if_neg h0]
    unfold tkv
    show _ = 4 * (p.1 + b + 1) + 2 * p.2 + if sg (p.1 + b - b) then 1 else 0
    rw [Nat.add_sub_cancel]
    omega
theorem tk_congr {sg sg' : Nat → Bool} : ∀ A : rn_L, (∀ p : Nat × Nat, p ∈ A.flatten → sg p.1 = sg' p.1) → tk sg A = tk sg' A
  | [], _ => rfl
  | B :: A, h => by
    rw [List.flatten_cons] at h
    rw [tk_cons, tk_cons, tk_congr A (fun p hp => h p (List.mem_append_right _ hp))]
    congr 1
    refine List.map_congr_left (fun p hp => ?_)
    unfold tkv
    rw [h p (List.mem_append_left _ hp)]
theorem okF_sh {A : rn_L} {b c : Nat} (h : okF A.flatten c) : okB (shN b A).flatten b c := by
  rw [shN_fl]
  refine ⟨nodup_map h.1 (fun p q _ _ e => ?_), fun p => ?_⟩
  · have e1 : p.1 + b = q.1 + b := (Prod.mk.inj e).1
    have e2 : p.2 = q.2 := (Prod.mk.inj e).2
    exact Prod.ext (by omega) e2
  · rw [List.mem_map]
    constructor
    · intro ⟨q, hq, e⟩
      obtain ⟨h1, h2⟩ := (h.2 q).mp hq
      rw [← e]
      exact ⟨by show b ≤ q.1 + b; omega, by show q.1 + b < b + c; omega, h2⟩
    · intro ⟨h1, h2, h3⟩
      exact ⟨(p.1 - b, p.2), (h.2 _).mpr ⟨by show p.1 - b < c; omega, h3⟩, Prod.ext (by show p.1 - b + b = p.1; omega) rfl⟩
theorem okB_app {F G : List (Nat × Nat)} {b c d : Nat} (h1 : okB F b c) (h2 : okB G (b + c) d) : okB (F ++ G) b (c + d) := by
  refine ⟨?_, fun p => ?_⟩
  · rw [List.nodup_append]
    refine ⟨h1.1, h2.1, fun p hp q hq e => ?_⟩
    have a1 := (h1.2 p).mp hp
    have a2 := (h2.2 q).mp hq
    rw [← e] at a2
    omega
  · rw [List.mem_append, h1.2, h2.2]
    omega
/-- rows of nets give a row of a net -/
theorem pkT_ok {R : List (Nat × List Nat)} (hR : ∀ r, r ∈ R → ∃ (A : rn_L) (sg : Nat → Bool) (c : Nat), r.2 = tk sg A ∧ okF A.flatten c ∧ r.1 = 2 * c) : ∀ (ps : List Nat) (b : Nat), (∀ p, p ∈ ps → p < R.length) → ∃ (A : rn_L) (sg : Nat → Bool) (c : Nat), pkT R b ps = tk sg A ∧ okB A.flatten b c ∧ 2 * c = (ps.map (fun p => (rAt R p).1)).sum
  | [], b, _ => ⟨[], fun _ => false, 0, rfl, ⟨List.nodup_nil, fun p => ⟨fun h => by simp at h, fun h => by omega⟩⟩, rfl⟩
  | p :: ps, b, h => by
    have hp := h p List.mem_cons_self
    have hm : rAt R p ∈ R := List.mem_of_getElem? (rAt_of hp)
    obtain ⟨A1, sg1, c1, e1, o1, l1⟩ := hR _ hm
    have hb : (rAt R p).1 / 2 = c1 := by omega
    obtain ⟨A2, sg2, c2, e2, o2, l2⟩ := pkT_ok hR ps (b + c1) (fun q hq => h q (List.mem_cons_of_mem _ hq))
    have o1' := okF_sh (b := b) o1
    refine ⟨shN b A1 ++ A2, fun x => if x < b + c1 then sg1 (x - b) else sg2 x, c1 + c2, ?_, ?_, ?_⟩
    · unfold pkT
      rw [hb, e1, e2, sft_tk, tk_app]
      congr 1
      · refine tk_congr _ (fun q hq => ?_)
        have := (o1'.2 q).mp hq
        show sg1 (q.1 - b) = if q.1 < b + c1 then sg1 (q.1 - b) else sg2 q.1
        rw [if_pos this.2.1]
      · refine tk_congr _ (fun q hq => ?_)
        have := (o2.2 q).mp hq
        show sg2 q.1 = if q.1 < b + c1 then sg1 (q.1 - b) else sg2 q.1
        rw [if_neg (by omega)]
    · rw [List.flatten_append]
      exact okB_app o1' o2
    · rw [List.map_cons, List.sum_cons, ← l2]
      omega
theorem tk_nil {sg : Nat → Bool} : ∀ k, tk sg (List.replicate k []) = List.replicate k 0
  | 0 => rfl
  | k + 1 => by
    rw [List.replicate_succ, tk_cons, tk_nil k]
    rfl
theorem fl_nil : ∀ k, (List.replicate k ([] : List (Nat × Nat))).flatten = []
  | 0 => rfl
  | k + 1 => by
    rw [List.replicate_succ, List.flatten_cons, fl_nil k]
    rfl
/-- pack makes the row of a net -/
theorem pkR_ok {A : rn_L} {sg : Nat → Bool} {m : Nat → Nat} {P : Nat} (hF : wkF A.flatten) (hk : mk A m P) : ∃ (A' : rn_L) (sg' : Nat → Bool) (c : Nat), pkR A sg m P = tk sg' A' ∧ okF A'.flatten c ∧ 2 * c = A.flatten.length ∧ A'.length = A.length := by
  have hd := wkF_ok hF
  have hR : ∀ r, r ∈ rwL A sg m P → ∃ (A1 : rn_L) (sg1 : Nat → Bool) (c : Nat), r.2 = tk sg1 A1 ∧ okF A1.flatten c ∧ r.1 = 2 * c := by
    intro r hr
    obtain ⟨p, v, h1, h2, h3, h4⟩ := rwL_mem P hr
    obtain ⟨t1, t2, t3, t4⟩ := trS_all hd h2
    have ok := rnN_ok hF t1 t2
    refine ⟨_, rnG A sg (vsO A (trS A v)), _, ?_, ok, ?_⟩
    · rw [h4]
      exact tks_tk _ (fun v hv => hv)
    · rw [h4, ← h3]
      show (pvl A m (m (rn_c A v)) A.flatten.length).length = _
      rw [← (trS_len hd hk h2).2, ← okF_len ok, rnN_fl, List.length_map]
  have h0 : rem (fun _ => false) (fun _ => 1) (rwL A sg m P).length = (rwL A sg m P).length := rem_1 _
  obtain ⟨s1, s2⟩ := sel_sum (R := rwL A sg m P) (fun r => r.1) _ (fun _ => false) h0
  obtain ⟨s3, -⟩ := sel_sum (R := rwL A sg m P) (fun r => r.2.length) _ (fun _ => false) h0
  obtain ⟨A1, sg1, c, e, o, l⟩ := pkT_ok hR _ 0 s2
  obtain ⟨t1, t2⟩ := rwL_tot (sg := sg) hd hk
  have hlen := congrArg List.length e
  rw [pkT_len, s3, rem_sum (fun r => r.2.length), tk_len] at hlen
  rw [s1, rem_sum (fun r => r.1), t2] at l
  have oF : okF A1.flatten c := ⟨o.1, fun p => by rw [o.2]; omega⟩
  have hl1 := okF_len oF
  refine ⟨A1 ++ List.replicate (cir A m P) [], sg1, c, ?_, ?_, l, ?_⟩
  · unfold pkR
    rw [tk_app, tk_nil, ← e]
  · rw [List.flatten_append, fl_nil, List.append_nil]
    exact oF
  · rw [List.length_append, List.length_replicate]
    omega
end
section
/-! 99zzj.pack -/
/-! pack -/
theorem mk_of {z : ow_MS} {n P : Nat} {A : rn_L} (hcn : A.length ≤ 39) (h : rn_pt z n A P) : ∃ m, mk A m P ∧ ∀ c, c < A.length → z.2.1 (n + 12) c = nI (m c) := by
  obtain ⟨h1, h2, ⟨s1, s2, s3, s4⟩, h4⟩ := h
  have hM : ∀ c, c < A.length → z.2.1 (n + 12) c = nI (z.2.1 (n + 12) c).toNatClampNeg ∧ (z.2.1 (n + 12) c).toNatClampNeg < P := by
    intro c hc
    obtain ⟨p, hp, e⟩ := (s1 c hc).resolve_left (h4 c hc)
    rw [e, nI_clamp (by omega)]
    exact ⟨rfl, hp⟩
  refine ⟨fun c => (z.2.1 (n + 12) c).toNatClampNeg, ⟨fun c hc => (hM c hc).2, fun a b hab => ?_, fun a b ha hb e => ?_, fun p hp => ?_⟩, fun c hc => (hM c hc).1⟩
  · obtain ⟨v, w, hm, e1, e2⟩ := hab
    have ha : a < A.length := by rw [← e1]; exact (rn_c_in A v (rn_mt_lt hm).1).1
    obtain ⟨g1, g2⟩ := hM a ha
    have := s2 a b _ g2 ⟨v, w, hm, e1, e2⟩ g1
    show _ = (z.2.1 (n + 12) b).toNatClampNeg
    rw [this, nI_clamp (by omega)]
  · obtain ⟨g1, g2⟩ := hM a ha
    have g3 := (hM b hb).1
    have e : (z.2.1 (n + 12) a).toNatClampNeg = (z.2.1 (n + 12) b).toNatClampNeg := e
    rw [← e] at g3
    exact s3 a b _ g2 ha hb g1 g3
  · obtain ⟨a, ha, e⟩ := s4 p hp
    refine ⟨a, ha, ?_⟩
    show (z.2.1 (n + 12) a).toNatClampNeg = p
    rw [e, nI_clamp (by omega)]
def lI (l : Option Nat) : Int32 := match l with
  | none => -1
  | some q => nI q
def rwI (z : ow_MS) (R : List (Nat × List Nat)) (w : Nat → Bool) : Prop := ∀ k, k < R.length → z.2.1 8 k = nI (rAt R k).1 ∧ rc_At z 7 (32 * k) (rAt R k).2 ∧ z.2.1 9 k = bZ (w k)
theorem rwI_fr {P : Nat → Prop} {z z1 : ow_MS} {R : List (Nat × List Nat)} {w : Nat → Bool} (hf : fr P z z1) (h7 : ¬ P 7) (h8 : ¬ P 8) (h9 : ¬ P 9) (h : rwI z R w) : rwI z1 R w := fun k hk => by
  obtain ⟨a1, a2, a3⟩ := h k hk
  exact ⟨by rw [(hf 8 h8).2.1]; exact a1, rc_fr hf h7 a2, by rw [(hf 9 h9).2.1]; exact a3⟩
theorem rAt_app {R : List (Nat × List Nat)} {r : Nat × List Nat} {k : Nat} (hk : k < R.length) : rAt (R ++ [r]) k = rAt R k := by
  unfold rAt
  rw [List.getElem?_append_left hk]
theorem rAt_new {R : List (Nat × List Nat)} {r : Nat × List Nat} : rAt (R ++ [r]) R.length = r := by
  unfold rAt
  rw [List.getElem?_append_right (Nat.le_refl _), Nat.sub_self]
  rfl
theorem rlt_a {a b : Nat × List Nat} (h : a.1 < b.1) : rlt a b = true := by
  unfold rlt
  rw [decide_eq_true h]
  rfl
theorem rlt_b {a b : Nat × List Nat} (h : a.1 = b.1) : rlt a b = lxb a.2 b.2 := by
  unfold rlt
  rw [decide_eq_false (by omega), decide_eq_true h]
  rfl
theorem rlt_c {a b : Nat × List Nat} (h : b.1 < a.1) : rlt a b = false := by
  unfold rlt
  rw [decide_eq_false (by omega), decide_eq_false (by omega)]
  rfl
theorem pkA_w {R : List (Nat × List Nat)} {w : Nat → Bool} {l : Option Nat} {p : Nat} (h : w p = true) : pkA R w l p = l := by
  unfold pkA
  rw [if_pos h]
theorem pkA_n {R : List (Nat × List Nat)} {w : Nat → Bool} {p : Nat} (h : w p = false) : pkA R w none p = some p := by
  unfold pkA
  rw [h]
  rfl
theorem pkA_t {R : List (Nat × List Nat)} {w : Nat → Bool} {p q : Nat} (h : w p = false) (hr : rlt (rAt R p) (rAt R q) = true) : pkA R w (some q) p = some p := by
  unfold pkA
  rw [h]
  show (if rlt (rAt R p) (rAt R q) = true then some p else some q) = _
  rw [if_pos hr]
theorem pkA_f {R : List (Nat × List Nat)} {w : Nat → Bool} {p q : Nat} (h : w p = false) (hr : rlt (rAt R p) (rAt R q) = false) : pkA R w (some q) p = some q := by
  unfold pkA
  rw [h]
  show (if rlt (rAt R p) (rAt R q) = true then some p else some q) = _
  rw [hr]
  rfl
theorem tk_200 {sg : Nat → Bool} : ∀ A : rn_L, (∀ p : Nat × Nat, p ∈ A.flatten → p.1 < 40 ∧ p.2 < 2) → ∀ t, t ∈ tk sg A → t < 200
  | [], _, t, ht => by simp [tk] at ht
  | B :: A, h, t, ht => by
    rw [List.flatten_cons] at h
    rw [tk_cons, List.mem_append, List.mem_cons] at ht
    rcases ht with ht | ht | ht
    · obtain ⟨p, hp, e⟩ := List.mem_map.mp ht
      have := h p (List.mem_append_left _ hp)
      rw [← e]
      unfold tkv
      by_cases hb : sg p.1 = true
      · rw [if_pos hb]; omega
      · rw [if_neg hb]; omega
    · omega
    · exact tk_200 A (fun p hp => h p (List.mem_append_right _ hp)) t ht
abbrev frQ (n h g : Nat) : Prop := 2 ≤ g ∧ g ≤ 9 ∨ g = h ∨ n + 7 ≤ g ∧ g ≤ n + 13
theorem add_ap {T : List Nat} {z : ow_MS} {h o t : Nat} (hT : ∀ k u, T[k]? = some u → z.2.1 h (o + (k + 1)) = nI u) : ∀ k u, (T ++ [t])[k]? = some u → (usI z h (o + (T.length + 1)) (nI t)).2.1 h (o + (k + 1)) = nI u := by
  intro k u hk
  by_cases hkl : k < T.length
  · rw [List.getElem?_append_left hkl] at hk
    exact rd_ne (by omega) (hT k u hk)
  · have hk2 : k = T.length := by
      have := (List.getElem?_eq_some_iff.mp hk).1
      rw [List.length_append] at this
      simp at this
      omega
    subst hk2
    rw [List.getElem?_append_right (Nat.le_refl _), Nat.sub_self] at hk
    cases hk
    exact po_usI_at
theorem e_X13_pack {r1 : Nat} {r2 : Nat} {x3 : Int32} {z : ow_MS} {Q : ow_MS → Prop} (H : Tt (fun K k => q_X13_pack K k 0 x3 0 0 0 0 0 0 0 0 r1 r2 0 0 z) Q) : Te (fun K => qe_X13_pack K r1 r2 x3 z) Q := w_te H
theorem u_X13_pack_0 {x3 : Int32} {x4 : Int32} {x5 : Int32} {x6 : Int32} {x7 : Int32} {x8 : Int32} {x9 : Int32} {x10 : Int32} {x11 : Int32} {r1 : Nat} {r2 : Nat} {t0 : Int32} {t1 : Int32} {z : ow_MS} {Q : ow_MS → Prop} (H : Tt (fun K k => qm_X13_pack_0 K (q_X13_pack K k) x3 x4 x5 x6 x7 x8 x9 x10 x11 r1 r2 t0 t1 z) Q) : Tt (fun K k => q_X13_pack K k 0 x3 x4 x5 x6 x7 x8 x9 x10 x11 r1 r2 t0 t1 z) Q := w_un (fun _ _ => rfl) H
theorem u_X13_pack_9 {x3 : Int32} {x4 : Int32} {x5 : Int32} {x6 : Int32} {x7 : Int32} {x8 : Int32} {x9 : Int32} {x10 : Int32} {x11 : Int32} {r1 : Nat} {r2 : Nat} {t0 : Int32} {t1 : Int32} {z : ow_MS} {Q : ow_MS → Prop} (H : Tt (fun K k => qm_X13_pack_9 K (q_X13_pack K k) x3 x4 x5 x6 x7 x8 x9 x10 x11 r1 r2 t0 t1 z) Q) : Tt (fun K k => q_X13_pack K k 9 x3 x4 x5 x6 x7 x8 x9 x10 x11 r1 r2 t0 t1 z) Q := w_un (fun _ _ => rfl) H
theorem u_X13_pack_3 {x3 : Int32} {x4 : Int32} {x5 : Int32} {x6 : Int32} {x7 : Int32} {x8 : Int32} {x9 : Int32} {x10 : Int32} {x11 : Int32} {r1 : Nat} {r2 : Nat} {t0 : Int32} {t1 : Int32} {z : ow_MS} {Q : ow_MS → Prop} (H : Tt (fun K k => qm_X13_pack_3 K (q_X13_pack K k) x3 x4 x5 x6 x7 x8 x9 x10 x11 r1 r2 t0 t1 z) Q) : Tt (fun K k => q_X13_pack K k 3 x3 x4 x5 x6 x7 x8 x9 x10 x11 r1 r2 t0 t1 z) Q := w_un (fun _ _ => rfl) H
theorem u_X13_pack_7 {x3 : Int32} {x4 : Int32} {x5 : Int32} {x6 : Int32} {x7 : Int32} {x8 : Int32} {x9 : Int32} {x10 : Int32} {x11 : Int32} {r1 : Nat} {r2 : Nat} {t0 : Int32} {t1 : Int32} {z : ow_MS} {Q : ow_MS → Prop} (H : Tt (fun K k => qm_X13_pack_7 K (q_X13_pack K k) x3 x4 x5 x6 x7 x8 x9 x10 x11 r1 r2 t0 t1 z) Q) : Tt (fun K k => q_X13_pack K k 7 x3 x4 x5 x6 x7 x8 x9 x10 x11 r1 r2 t0 t1 z) Q := w_un (fun _ _ => rfl) H
theorem u_X13_pack_8 {x3 : Int32} {x4 : Int32} {x5 : Int32} {x6 : Int32} {x7 : Int32} {x8 : Int32} {x9 : Int32} {x10 : Int32} {x11 : Int32} {r1 : Nat} {r2 : Nat} {t0 : Int32} {t1 : Int32} {z : ow_MS} {Q : ow_MS → Prop} (H : Tt (fun K k => qm_X13_pack_8 K (q_X13_pack K k) x3 x4 x5 x6 x7 x8 x9 x10 x11 r1 r2 t0 t1 z) Q) : Tt (fun K k => q_X13_pack K k 8 x3 x4 x5 x6 x7 x8 x9 x10 x11 r1 r2 t0 t1 z) Q := w_un (fun _ _ => rfl) H
theorem u_X13_pack_4 {x3 : Int32} {x4 : Int32} {x5 : Int32} {x6 : Int32} {x7 : Int32} {x8 : Int32} {x9 : Int32} {x10 : Int32} {x11 : Int32} {r1 : Nat} {r2 : Nat} {t0 : Int32} {t1 : Int32} {z : ow_MS} {Q : ow_MS → Prop} (H : Tt (fun K k => qm_X13_pack_4 K (q_X13_pack K k) x3 x4 x5 x6 x7 x8 x9 x10 x11 r1 r2 t0 t1 z) Q) : Tt (fun K k => q_X13_pack K k 4 x3 x4 x5 x6 x7 x8 x9 x10 x11 r1 r2 t0 t1 z) Q := w_un (fun _ _ => rfl) H
theorem u_X13_pack_6 {x3 : Int32} {x4 : Int32} {x5 : Int32} {x6 : Int32} {x7 : Int32} {x8 : Int32} {x9 : Int32} {x10 : Int32} {x11 : Int32} {r1 : Nat} {r2 : Nat} {t0 : Int32} {t1 : Int32} {z : ow_MS} {Q : ow_MS → Prop} (H : Tt (fun K k => qm_X13_pack_6 K (q_X13_pack K k) x3 x4 x5 x6 x7 x8 x9 x10 x11 r1 r2 t0 t1 z) Q) : Tt (fun K k => q_X13_pack K k 6 x3 x4 x5 x6 x7 x8 x9 x10 x11 r1 r2 t0 t1 z) Q := w_un (fun _ _ => rfl) H
theorem u_X13_pack_5 {x3 : Int32} {x4 : Int32} {x5 : Int32} {x6 : Int32} {x7 : Int32} {x8 : Int32} {x9 : Int32} {x10 : Int32} {x11 : Int32} {r1 : Nat} {r2 : Nat} {t0 : Int32} {t1 : Int32} {z : ow_MS} {Q : ow_MS → Prop} (H : Tt (fun K k => qm_X13_pack_5 K (q_X13_pack K k) x3 x4 x5 x6 x7 x8 x9 x10 x11 r1 r2 t0 t1 z) Q) : Tt (fun K k => q_X13_pack K k 5 x3 x4 x5 x6 x7 x8 x9 x10 x11 r1 r2 t0 t1 z) Q := w_un (fun _ _ => rfl) H
theorem u_X13_pack_1 {x3 : Int32} {x4 : Int32} {x5 : Int32} {x6 : Int32} {x7 : Int32} {x8 : Int32} {x9 : Int32} {x10 : Int32} {x11 : Int32} {r1 : Nat} {r2 : Nat} {t0 : Int32} {t1 : Int32} {z : ow_MS} {Q : ow_MS → Prop} (H : Tt (fun K k => qm_X13_pack_1 K (q_X13_pack K k) x3 x4 x5 x6 x7 x8 x9 x10 x11 r1 r2 t0 t1 z) Q) : Tt (fun K k => q_X13_pack K k 1 x3 x4 x5 x6 x7 x8 x9 x10 x11 r1 r2 t0 t1 z) Q := w_un (fun _ _ => rfl) H
theorem u_X13_pack_2 {x3 : Int32} {x4 : Int32} {x5 : Int32} {x6 : Int32} {x7 : Int32} {x8 : Int32} {x9 : Int32} {x10 : Int32} {x11 : Int32} {r1 : Nat} {r2 : Nat} {t0 : Int32} {t1 : Int32} {z : ow_MS} {Q : ow_MS → Prop} (H : Tt (fun K k => qm_X13_pack_2 K (q_X13_pack K k) x3 x4 x5 x6 x7 x8 x9 x10 x11 r1 r2 t0 t1 z) Q) : Tt (fun K k => q_X13_pack K k 2 x3 x4 x5 x6 x7 x8 x9 x10 x11 r1 r2 t0 t1 z) Q := w_un (fun _ _ => rfl) H
theorem tr_pack {n h o la : Nat} {z : ow_MS} {A : rn_L} {sg : Nat → Bool} (hn : mw_net n) (hh : 10 ≤ h ∧ h < 1000) (hla : (mX.2 h).2.1 = la) (ha : la < 2 ^ 30) (ho : o + 32 ≤ la) (hVC : A.flatten.length + A.length ≤ 31) (hcn : A.length ≤ 19) (hF : wkF A.flatten) (hA : rn_At z n A []) (hG : rn_sg z n A.flatten sg) : Te (fun K => qe_X13_pack K n h (nI o) z) (fun z1 => ∃ m P, mk A m P ∧ rc_At z1 h o (pkR A sg m P) ∧ fr (frQ n h) z z1 ∧ (∀ i, i < o ∨ o + 32 ≤ i → z1.2.1 h i = z.2.1 h i) ∧ rn_lk z1 n A ∧ rn_pt z1 n A P) := by
  have hm := net_mod hn
  have hd := wkF_ok hF
  refine e_X13_pack ?_
  refine u_X13_pack_0 ?_; unfold qm_X13_pack_0
  refine w_cs0 (tn_link hn (by omega) (by omega) hd.1 hA) (fun zl ⟨fl, al, il⟩ => w_cs0 (tn_split hn (by omega) (by omega) hd ⟨al, il⟩) (fun z0 ⟨f0, P, hpt⟩ => ?_))
  have hL0 : rn_lk z0 n A := fr_lk f0 (fun g hg => by rcases hg with hg | hg <;> omega) ⟨al, il⟩
  have f00 : fr (frQ n h) z z0 := fr_tr (fr_mono (fun g hg => Or.inr (Or.inr (by have := hg.1; have := hg.2; omega))) fl) (fr_mono (fun g hg => Or.inr (Or.inr (by rcases hg with hg | hg <;> omega))) f0)
  have hG0 : rn_sg z0 n A.flatten sg := fun p hp => by
    rw [(f00 (n + 6) (by omega)).2.1]
    exact hG p hp
  obtain ⟨m, hk, hmz⟩ := mk_of (by omega) hpt
  have hP := hpt.2.1
  obtain ⟨tot, -⟩ := rwL_tot (sg := sg) hd hk
  obtain ⟨R, hR⟩ : ∃ R, R = rwL A sg m P := ⟨_, rfl⟩
  rw [← hR] at tot
  have hRl := rwL_len (A := A) (sg := sg) (m := m) P
  rw [← hR] at hRl
  obtain ⟨A', sg', c', eP, okP, cP, lP⟩ := pkR_ok (sg := sg) hF hk
  have t200 : ∀ t, t ∈ pkR A sg m P → t < 200 := by
    rw [eP]
    exact tk_200 A' (fun p hp => by
      obtain ⟨a1, a2⟩ := (okP.2 p).mp hp
      exact ⟨by omega, a2⟩)
  have lenP : (pkR A sg m P).length = A.flatten.length + A.length := by
    rw [eP, tk_len, lP, okF_len okP]
    omega
  -- what stays
  have frN : ∀ {y : ow_MS}, fr (fun g => 2 ≤ g ∧ g ≤ 9 ∨ g = h) z0 y → rn_lk y n A ∧ rn_sg y n A.flatten sg ∧ rn_pt y n A P ∧ (∀ c, c < A.length → y.2.1 (n + 12) c = nI (m c)) ∧ fr (frQ n h) z y := fun {y} hf => by
    have e12 := (hf (n + 12) (by omega)).2.1
    refine ⟨fr_lk hf (fun g hg => by omega) hL0, fun p hp => ?_, ?_, fun c hc => ?_, fr_tr f00 (fr_mono (fun g hg => by unfold frQ; omega) hf)⟩
    · rw [(hf (n + 6) (by omega)).2.1]
      exact hG0 p hp
    · obtain ⟨a1, a2, a3, a4⟩ := hpt
      exact ⟨by rw [(hf (n + 13) (by omega)).1]; exact a1, a2, by rw [e12]; exact a3, by rw [e12]; exact a4⟩
    · rw [e12]
      exact hmz c hc
  let Q : ow_MS → Prop := fun z1 => ∃ m P, mk A m P ∧ rc_At z1 h o (pkR A sg m P) ∧ fr (frQ n h) z z1 ∧ (∀ i, i < o ∨ o + 32 ≤ i → z1.2.1 h i = z.2.1 h i) ∧ rn_lk z1 n A ∧ rn_pt z1 n A P
  have eh : z0.2.1 h = z.2.1 h := by
    rw [(f0 h (by rintro (h9 | h9) <;> omega)).2.1, (fl h (fun h9 => by have := h9.1; omega)).2.1]
  -- circles
  have cirL : ∀ (d k : Nat) (T : List Nat) (x4 x7 : Int32) (z1 : ow_MS), k + d = cir A m P → T ++ List.replicate d 0 = pkR A sg m P → fr (fun g => 2 ≤ g ∧ g ≤ 9 ∨ g = h) z0 z1 → (∀ i, i < o ∨ o + 32 ≤ i → z1.2.1 h i = z.2.1 h i) → (∀ i u, T[i]? = some u → z1.2.1 h (o + (i + 1)) = nI u) → Tt (fun K i => q_X13_pack K i 9 (nI o) x4 (nI (cir A m P)) (nI T.length) x7 (nI k) 0 0 0 n h 0 0 z1) Q := by
    intro d
    induction d with
    | zero =>
      intro k T x4 x7 z1 hkd hT hf hi hw
      rw [List.replicate_zero, List.append_nil] at hT
      obtain ⟨b1, b2, b3, b4, b5⟩ := frN (y := usI z1 h o (nI T.length)) (fr_I2 hf (Or.inr rfl))
      have hTl : T.length ≤ 31 := by rw [hT, lenP]; exact hVC
      refine u_X13_pack_9 ?_; unfold qm_X13_pack_9
      refine w_leT (by omega) (by omega) (w_wrI hla rfl (by omega) (w_some ⟨m, P, hk, ⟨by rw [lenP]; exact hVC, t200, ?_, fun i u hi9 => ?_⟩, b5, fun i hi9 => rd_ne (by omega) (hi i hi9), b1, b3⟩))
      · rw [po_usI_at, hT]
      · rw [← hT] at hi9
        exact rd_ne (by omega) (hw i u hi9)
    | succ d ih =>
      intro k T x4 x7 z1 hkd hT hf hi hw
      have hTl : T.length + 1 ≤ 31 := by
        have := congrArg List.length hT
        rw [List.length_append, List.length_replicate, lenP] at this
        omega
      refine u_X13_pack_9 ?_; unfold qm_X13_pack_9
      rw [nI_1, nI_1, nI_add]
      refine w_leF (by omega) (by omega) (w_wrI hla rfl (by omega) ?_)
      have := ih (k + 1) (T ++ [0]) x4 x7 (usI z1 h (o + (T.length + 1)) (nI 0)) (by omega) (by rw [← hT, List.replicate_succ, List.append_assoc]; rfl) (fr_I2 hf (Or.inr rfl)) (fun i hi9 => rd_ne (by omega) (hi i hi9)) (add_ap hw)
      rw [List.length_append] at this
      exact this
  -- the rows in order
  have ordL : ∀ (k : Nat) (w : Nat → Bool) (T : List Nat) (b : Nat) (z1 : ow_MS), rem w (fun _ => 1) R.length = k → T ++ pkT R b (sel R k w) ++ List.replicate (cir A m P) 0 = pkR A sg m P → fr (fun g => 2 ≤ g ∧ g ≤ 9 ∨ g = h) z0 z1 → (∀ i, i < o ∨ o + 32 ≤ i → z1.2.1 h i = z.2.1 h i) → (∀ i u, T[i]? = some u → z1.2.1 h (o + (i + 1)) = nI u) → rwI z1 R w → Tt (fun K i => q_X13_pack K i 3 (nI o) (nI R.length) (nI (cir A m P)) (nI T.length) (nI b) (nI (R.length - k)) 0 0 0 n h 0 0 z1) Q := by
    intro k
    induction k with
    | zero =>
      intro w T b z1 hr hT hf hi hw hI
      refine u_X13_pack_3 ?_; unfold qm_X13_pack_3
      refine w_leT (by omega) (by omega) ?_
      have e : sel R 0 w = [] := rfl
      rw [e] at hT
      have e2 : pkT R b [] = [] := rfl
      rw [e2, List.append_nil] at hT
      exact cirL (cir A m P) 0 T (nI R.length) (nI b) z1 (by omega) hT hf hi hw
    | succ k ih =>
      intro w T b z1 hr hT hf hi hw hI
      have hkR : k + 1 ≤ R.length := by
        have : ∀ (g : Nat → Bool) n, rem g (fun _ => 1) n ≤ n := by
          intro g n
          induction n with
          | zero => exact Nat.le_refl _
          | succ n ih =>
            unfold rem
            by_cases h9 : g n = true
            · rw [if_pos h9]; omega
            · rw [if_neg h9]; omega
        have := this w R.length
        omega
      obtain ⟨q, hq⟩ : ∃ q, pk1 R w R.length = some q := by
        cases hp : pk1 R w R.length with
        | some q => exact ⟨q, rfl⟩
        | none =>
          have h0 := pk1_none R.length hp
          have : ∀ n, n ≤ R.length → rem w (fun _ => 1) n = 0 := by
            intro n
            induction n with
            | zero => intro _; rfl
            | succ n ih =>
              intro hn
              unfold rem
              rw [ih (by omega), h0 n (by omega)]
              rfl
          have := this _ (Nat.le_refl _)
          omega
      obtain ⟨hq1, hq2⟩ := pk1_in R.length hq
      rw [sel_some hq] at hT
      have eT : T ++ (sft b (rAt R q).2 ++ pkT R (b + (rAt R q).1 / 2) (sel R k (fun i => w i || decide (i = q)))) ++ List.replicate (cir A m P) 0 = pkR A sg m P := hT
      have r1 := rem_st (g' := fun i => w i || decide (i = q)) (f := fun _ => 1) hq2 (fun b => rfl) R.length hq1
      have r1' : rem (fun i => w i || decide (i = q)) (fun _ => 1) R.length + 1 = rem w (fun _ => 1) R.length := r1
      have hTtot := congrArg List.length eT
      rw [List.length_append, List.length_append, List.length_append, sft_len, List.length_replicate, lenP] at hTtot
      obtain ⟨v1, v2, v3⟩ := hI q hq1
      have hR20 : R.length ≤ 19 := by omega
      have hb1 : ∀ j, j < R.length → (rAt R j).1 < 2 ^ 20 := by
        intro j hj
        have hmem : rAt R j ∈ rwL A sg m P := by rw [← hR]; exact List.mem_of_getElem? (rAt_of hj)
        obtain ⟨p, v, g1, g2, g3, g4⟩ := rwL_mem P hmem
        rw [g4]
        have : (pvl A m p A.flatten.length).length ≤ A.flatten.length := Nat.le_trans (List.length_filter_le _ _) (by rw [List.length_range]; exact Nat.le_refl _)
        show (pvl A m p A.flatten.length).length < 2 ^ 20
        omega
      -- the row q is put
      have put : ∀ (d i : Nat) (z2 : ow_MS), i + d = (rAt R q).2.length → fr (fun g => 2 ≤ g ∧ g ≤ 9 ∨ g = h) z0 z2 → (∀ i, i < o ∨ o + 32 ≤ i → z2.2.1 h i = z.2.1 h i) → (∀ j u, (T ++ sft b ((rAt R q).2.take i))[j]? = some u → z2.2.1 h (o + (j + 1)) = nI u) → rwI z2 R (fun i => w i || decide (i = q)) → Tt (fun K i9 => q_X13_pack K i9 7 (nI o) (nI R.length) (nI (cir A m P)) (nI (T ++ sft b ((rAt R q).2.take i)).length) (nI b) (nI (R.length - (k + 1))) (nI q) (nI (i + 1)) 0 n h 0 0 z2) Q := by
        intro d
        induction d with
        | zero =>
          intro i z2 hid hf2 hi2 hw2 hI2
          obtain ⟨u1, u2, u3⟩ := hI2 q hq1
          have hql := u2.1
          refine u_X13_pack_7 ?_; unfold qm_X13_pack_7
          rw [show (32 : Int32) * nI q = nI (32 * q) from pk_mul 32 q]
          refine w_rdI ml7 rfl (by omega) u2.2.2.1 (w_ltT (by omega) (by omega) (w_rdI ml8 rfl (by omega) u1 (w_nzI (by decide) ?_)))
          have hdv : nI (rAt R q).1 / 2 = nI ((rAt R q).1 / 2) := pk_div (d := 2) (by have := hb1 q hq1; omega) (by omega) (by omega)
          rw [hdv, nI_add, nI_1]
          rw [List.take_of_length_le (by omega)] at hw2 ⊢
          have := ih (fun i => w i || decide (i = q)) (T ++ sft b (rAt R q).2) (b + (rAt R q).1 / 2) z2 (by omega) (by rw [← eT]; simp only [List.append_assoc]) hf2 hi2 hw2 hI2
          rw [show R.length - (k + 1) + 1 = R.length - k by omega]
          exact this
        | succ d ihd =>
          intro i z2 hid hf2 hi2 hw2 hI2
          obtain ⟨u1, u2, u3⟩ := hI2 q hq1
          have hql := u2.1
          obtain ⟨t, a1, a2, a3⟩ := rc_get u2 (k := i) (by omega)
          have hTl : (T ++ sft b ((rAt R q).2.take i)).length = T.length + i := by
            rw [List.length_append, sft_len, List.length_take]
            omega
          obtain ⟨T2, hT2⟩ : ∃ T2, T2 = T ++ sft b ((rAt R q).2.take i) := ⟨_, rfl⟩
          rw [← hT2] at hTl hw2 ⊢
          have est : T ++ sft b ((rAt R q).2.take (i + 1)) = T2 ++ [if t = 0 then 0 else t + 4 * b] := by
            obtain ⟨g1, g2⟩ := List.getElem?_eq_some_iff.mp a1
            rw [List.take_succ_eq_append_getElem g1, g2, hT2]
            unfold sft
            rw [List.map_append, List.append_assoc]
            rfl
          have c8 : Tt (fun K i9 => q_X13_pack K i9 8 (nI o) (nI R.length) (nI (cir A m P)) (nI (T2.length + 1)) (nI b) (nI (R.length - (k + 1))) (nI q) (nI (i + 1)) (nI t) n h (nI (if t = 0 then 0 else t + 4 * b)) (nI (o + (T2.length + 1))) z2) Q := by
            refine u_X13_pack_8 ?_; unfold qm_X13_pack_8
            refine w_wrI hla rfl (by omega) ?_
            rw [nI_1]
            have := ihd (i + 1) (usI z2 h (o + (T2.length + 1)) (nI (if t = 0 then 0 else t + 4 * b))) (by omega) (fr_I2 hf2 (Or.inr rfl)) (fun j hj => rd_ne (by omega) (hi2 j hj)) (by rw [est]; exact add_ap hw2) (rwI_fr (P := fun g => g = h) (fr_I rfl) (by omega) (by omega) (by omega) hI2)
            rw [est, List.length_append] at this
            exact this
          refine u_X13_pack_7 ?_; unfold qm_X13_pack_7
          rw [show (32 : Int32) * nI q = nI (32 * q) from pk_mul 32 q, nI_add, nI_1 T2.length, nI_add]
          refine w_rdI ml7 rfl (by omega) u2.2.2.1 (w_ltF (by omega) (by omega) (w_rdI ml7 rfl (by omega) a3 (w_eqN (b := 0) (by omega) (by omega) (fun h9 => ?_) (fun h9 => ?_))))
          · rw [if_pos h9] at c8
            exact c8
          · rw [if_neg h9] at c8
            rw [show (4 : Int32) * nI b = nI (4 * b) from pk_mul 4 b, nI_add]
            exact c8
      -- the least row is looked for
      have pick : ∀ (d p : Nat), p + d = R.length → Tt (fun K i9 => q_X13_pack K i9 4 (nI o) (nI R.length) (nI (cir A m P)) (nI T.length) (nI b) (nI (R.length - (k + 1))) (lI (pk1 R w p)) (nI p) 0 n h 0 0 z1) Q := by
        intro d
        induction d with
        | zero =>
          intro p hp
          have hpR : p = R.length := by omega
          rw [hpR, hq]
          show Tt (fun K i9 => q_X13_pack K i9 4 (nI o) (nI R.length) (nI (cir A m P)) (nI T.length) (nI b) (nI (R.length - (k + 1))) (nI q) (nI R.length) 0 n h 0 0 z1) Q
          refine u_X13_pack_4 ?_; unfold qm_X13_pack_4
          refine w_leT (by omega) (Nat.le_refl _) (w_wrZ ml9 rfl (by omega) ?_)
          have e0 : T ++ sft b ((rAt R q).2.take 0) = T := List.append_nil _
          have := put (rAt R q).2.length 0 (usI z1 9 q (vp_nar .boolean 1)) (by omega) (fr_I2 hf (Or.inl (by decide))) (fun i hi9 => rd_ot (by omega) (hi i hi9)) (by rw [e0]; exact fun j u hj => rd_ot (by omega) (hw j u hj)) (fun j hj => by
            obtain ⟨g1, g2, g3⟩ := hI j hj
            refine ⟨rd_ot (by decide) g1, rc_fr (P := fun g => g = 9) (fr_I rfl) (by decide) g2, ?_⟩
            by_cases hjq : j = q
            · show _ = bZ (w j || decide (j = q))
              rw [hjq, po_usI_at, decide_eq_true rfl, Bool.or_true]
              rfl
            · show _ = bZ (w j || decide (j = q))
              rw [po_usI_ne hjq, decide_eq_false hjq, Bool.or_false]
              exact g3)
          rw [e0] at this
          exact this
        | succ d ihd =>
          intro p hp
          have hpR : p < R.length := by omega
          obtain ⟨g1, g2, g3⟩ := hI p hpR
          have c6 : ∀ l : Option Nat, pk1 R w (p + 1) = l → Tt (fun K i9 => q_X13_pack K i9 6 (nI o) (nI R.length) (nI (cir A m P)) (nI T.length) (nI b) (nI (R.length - (k + 1))) (lI l) (nI p) 0 n h 0 0 z1) Q := by
            intro l hl
            refine u_X13_pack_6 ?_; unfold qm_X13_pack_6
            rw [nI_1, ← hl]
            exact ihd (p + 1) (by omega)
          have c5 : ∀ (x9 : Int32), pk1 R w (p + 1) = some p → Tt (fun K i9 => q_X13_pack K i9 5 (nI o) (nI R.length) (nI (cir A m P)) (nI T.length) (nI b) (nI (R.length - (k + 1))) x9 (nI p) 0 n h 0 0 z1) Q := by
            intro x9 hl
            refine u_X13_pack_5 ?_; unfold qm_X13_pack_5
            exact c6 _ hl
          refine u_X13_pack_4 ?_; unfold qm_X13_pack_4
          refine w_leF (by omega) hpR (w_rdI ml9 rfl (by omega) g3 ?_)
          cases hwp : w p with
          | true => exact w_ifF (by decide) (c6 _ (by rw [pk1_s, pkA_w hwp]))
          | false =>
            refine w_ifT rfl ?_
            cases hl : pk1 R w p with
            | none => exact w_ifT rfl (c5 _ (by rw [pk1_s, hl, pkA_n hwp]))
            | some q9 =>
              obtain ⟨j1, j2⟩ := pk1_in p hl
              obtain ⟨i1, i2, i3⟩ := hI q9 (by omega)
              have b1 := hb1 p hpR
              have b2 := hb1 q9 (by omega)
              have l1 := g2.1
              have l2 := i2.1
              rw [show lI (some q9) = nI q9 from rfl]
              refine w_ifF (rn_neg1 (by omega)) (w_rdI ml8 rfl (by omega) g1 (w_rdI ml8 rfl (by omega) i1 (w_lt (by omega) (by omega) (fun h9 => c5 _ (by rw [pk1_s, hl, pkA_t hwp (rlt_a h9)])) (fun h9 => w_rdI ml8 rfl (by omega) g1 (w_rdI ml8 rfl (by omega) i1 (w_eqN (by omega) (by omega) (fun h8 => ?_) (fun h8 => c6 (some q9) (by rw [pk1_s, hl, pkA_f hwp (rlt_c (by omega))]))))))))
              rw [show (32 : Int32) * nI p = nI (32 * p) from pk_mul 32 p, show (32 : Int32) * nI q9 = nI (32 * q9) from pk_mul 32 q9]
              refine w_cs1 (tr_below ml7 ml7 (by omega) (by omega) (by omega) (by omega) g2 i2) (fun a z2 e => ?_)
              cases e
              cases hlx : lxb (rAt R p).2 (rAt R q9).2 with
              | true => exact w_ifF (by decide) (c5 _ (by rw [pk1_s, hl, pkA_t hwp (by rw [rlt_b h8, hlx])]))
              | false => exact w_ifT rfl (c6 (some q9) (by rw [pk1_s, hl, pkA_f hwp (by rw [rlt_b h8, hlx])]))
      refine u_X13_pack_3 ?_; unfold qm_X13_pack_3
      refine w_leF (by omega) (by omega) ?_
      exact pick R.length 0 (by omega)
  -- the parts
  have partL : ∀ (d p : Nat) (z1 : ow_MS), p + d = P → fr (fun g => 2 ≤ g ∧ g ≤ 9 ∨ g = h) z0 z1 → z1.2.1 h = z.2.1 h → rwI z1 (rwL A sg m p) (fun _ => false) → Tt (fun K i => q_X13_pack K i 1 (nI o) (nI (rwL A sg m p).length) (nI (cir A m p)) (nI p) 0 0 0 0 0 n h 0 0 z1) Q := by
    intro d
    induction d with
    | zero =>
      intro p z1 hp hf hz hI
      have hpP : p = P := by omega
      rw [hpP, ← hR] at hI ⊢
      refine u_X13_pack_1 ?_; unfold qm_X13_pack_1
      refine w_rdF (frN hf).2.2.1.1 (w_leT (by omega) (by omega) ?_)
      have h0 : rem (fun _ => false) (fun _ => 1) R.length = R.length := rem_1 _
      have := ordL R.length (fun _ => false) [] 0 z1 h0 (by rw [List.nil_append]; unfold pkR; rw [← hR]) hf (fun i hi => by rw [hz]) (fun i u hi => by simp at hi) hI
      rw [Nat.sub_self] at this
      exact this
    | succ d ih =>
      intro p z1 hp hf hz hI
      obtain ⟨b1, b2, b3, b4, b5⟩ := frN hf
      have hRp := rwL_len (A := A) (sg := sg) (m := m) p
      have hlen : (pvl A m p A.flatten.length).length ≤ A.flatten.length := Nat.le_trans (List.length_filter_le _ _) (by rw [List.length_range]; exact Nat.le_refl _)
      refine u_X13_pack_1 ?_; unfold qm_X13_pack_1
      rw [show (32 : Int32) * nI (rwL A sg m p).length = nI (32 * (rwL A sg m p).length) from pk_mul 32 _]
      refine w_rdF b3.1 (w_leF (by omega) (by omega) (w_cs1 (tr_leastOf hn hVC hd b1 b2 (fun c hc => ⟨b4 c hc, by have := hk.1 c hc; omega⟩) (by omega) (by omega)) (fun a z2 ⟨r1, r2, r3, r4⟩ => ?_)))
      have r1 : a = nI (pvl A m p A.flatten.length).length := r1
      have r2 : fr frR7 z1 z2 := r2
      have r3 : ∀ i, i < 32 * (rwL A sg m p).length ∨ 32 * (rwL A sg m p).length + 32 ≤ i → z2.2.1 7 i = z1.2.1 7 i := r3
      have r4 : ∀ T, lsC A sg (pvl A m p A.flatten.length) = some T → rc_At z2 7 (32 * (rwL A sg m p).length) T := r4
      have hf2 : fr (fun g => 2 ≤ g ∧ g ≤ 9 ∨ g = h) z0 z2 := fr_tr hf (fr_mono (fun g hg => Or.inl (by have := hg.1; have := hg.2; omega)) r2)
      have hz2 : z2.2.1 h = z.2.1 h := by
        rw [(r2 h (fun h9 => by have := h9.2; omega)).2.1]
        exact hz
      have e8 := (r2 8 (by decide)).2.1
      have e9 := (r2 9 (by decide)).2.1
      have hI2 : rwI z2 (rwL A sg m p) (fun _ => false) := fun k hk9 => by
        obtain ⟨g1, g2, g3⟩ := hI k hk9
        refine ⟨by rw [e8]; exact g1, ⟨g2.1, g2.2.1, ?_, fun i t hi => ?_⟩, by rw [e9]; exact g3⟩
        · rw [r3 _ (Or.inl (by omega))]
          exact g2.2.2.1
        · have := (List.getElem?_eq_some_iff.mp hi).1
          have := g2.1
          rw [r3 _ (Or.inl (by omega))]
          exact g2.2.2.2 i t hi
      rw [r1]
      refine w_eqN (b := 0) (by omega) (by omega) (fun h9 => ?_) (fun h9 => ?_)
      · have hnil : pvl A m p A.flatten.length = [] := List.length_eq_zero_iff.mp h9
        have eR : rwL A sg m (p + 1) = rwL A sg m p := by
          rw [rwL_s]
          unfold rwA
          rw [hnil]
          rfl
        have eC : cir A m (p + 1) = cir A m p + 1 := by
          show cir A m p + (if pvl A m p A.flatten.length = [] then 1 else 0) = _
          rw [if_pos hnil]
        refine u_X13_pack_2 ?_; unfold qm_X13_pack_2
        rw [nI_1, nI_1]
        have := ih (p + 1) z2 (by omega) hf2 hz2 (by rw [eR]; exact hI2)
        rw [eR, eC] at this
        exact this
      · have hne : pvl A m p A.flatten.length ≠ [] := fun e => h9 (by rw [e]; rfl)
        obtain ⟨T, hT⟩ := lsC_ne (sg := sg) hne
        have eR : rwL A sg m (p + 1) = rwL A sg m p ++ [((pvl A m p A.flatten.length).length, T)] := by
          rw [rwL_s]
          unfold rwA
          rw [hT]
        have eC : cir A m (p + 1) = cir A m p := by
          show cir A m p + (if pvl A m p A.flatten.length = [] then 1 else 0) = _
          rw [if_neg hne]
          rfl
        refine w_wrI ml8 rfl (by omega) (w_wrZ ml9 rfl (by omega) ?_)
        refine u_X13_pack_2 ?_; unfold qm_X13_pack_2
        rw [nI_1, nI_1]
        have := ih (p + 1) (usI (usI z2 8 (rwL A sg m p).length (nI (pvl A m p A.flatten.length).length)) 9 (rwL A sg m p).length (vp_nar .boolean 0)) (by omega) (fr_I2 (fr_I2 hf2 (Or.inl (by decide))) (Or.inl (by decide))) (by rw [po_usI_ot (by omega), po_usI_ot (by omega)]; exact hz2) (by
          rw [eR]
          intro k hk9
          rw [List.length_append] at hk9
          simp only [List.length_cons, List.length_nil] at hk9
          by_cases hke : k = (rwL A sg m p).length
          · rw [hke, rAt_new]
            exact ⟨rd_ot (by decide) po_usI_at, rc_fr (P := fun g => g = 8 ∨ g = 9) (fr_I2 (fr_I (Or.inl rfl)) (Or.inr rfl)) (by decide) (r4 T hT), po_usI_at⟩
          · have hk8 : k < (rwL A sg m p).length := by omega
            obtain ⟨g1, g2, g3⟩ := hI2 k hk8
            rw [rAt_app hk8]
            exact ⟨rd_ot (by decide) (rd_ne hke g1), rc_fr (P := fun g => g = 8 ∨ g = 9) (fr_I2 (fr_I (Or.inl rfl)) (Or.inr rfl)) (by decide) g2, rd_ne hke (rd_ot (by decide) g3)⟩)
        rw [eR, eC, List.length_append] at this
        exact this
  exact partL P 0 z0 (by omega) fr_rf eh (fun k hk9 => by simp [rwL] at hk9)
end
section
/-! 99zzk.state -/
/-! the reference's state between calls -/
/-- a diagram's row, or an empty one (A = []) -/
def vRow (z : ow_MS) (h o : Nat) (A : rn_L) (sg : Nat → Bool) : Prop := rc_At z h o (tk sg A) ∧ (∃ c, okF A.flatten c ∧ c ≤ 12) ∧ A.length ≤ 6
def dRow (z : ow_MS) (h o : Nat) : Prop := ∃ A sg, vRow z h o A sg
theorem dRow_fr {P : Nat → Prop} {z z1 : ow_MS} {h o : Nat} (hf : fr P z z1) (hP : ¬ P h) (hr : dRow z h o) : dRow z1 h o := by
  obtain ⟨A, sg, h1, h2⟩ := hr
  exact ⟨A, sg, rc_fr hf hP h1, h2⟩
theorem dRow_eq {z z1 : ow_MS} {h o : Nat} (he : ∀ i, o ≤ i → i < o + 32 → z1.2.1 h i = z.2.1 h i) (hr : dRow z h o) : dRow z1 h o := by
  obtain ⟨A, sg, ⟨h1, h2, h3, h4⟩, h5⟩ := hr
  refine ⟨A, sg, ⟨h1, h2, by rw [he o (by omega) (by omega)]; exact h3, fun k t hk => ?_⟩, h5⟩
  have := (List.getElem?_eq_some_iff.mp hk).1
  rw [he _ (by omega) (by omega)]
  exact h4 k t hk
theorem dRow_0 {z : ow_MS} {h o : Nat} (h0 : z.2.1 h o = 0) : dRow z h o := ⟨[], fun _ => false, ⟨Nat.zero_le _, fun t ht => by simp [tk] at ht, h0, fun k t hk => by simp [tk] at hk⟩, ⟨0, ⟨List.nodup_nil, fun p => ⟨fun h9 => by simp at h9, fun h9 => by omega⟩⟩, by omega⟩, Nat.zero_le _⟩
/-- handles whose content is kept from call to call -/
abbrev per (g : Nat) : Prop := g = 11 ∨ g = 12 ∨ 20 ≤ g ∧ g ≤ 22 ∨ g = 35 ∨ g = 36 ∨ g = 39 ∨ g = 43 ∨ g = 45 ∨ g = 50 ∨ g = 53 ∨ g = 65 ∨ g = 67 ∨ 73 ≤ g ∧ g ≤ 76 ∨ 94 ≤ g ∧ g ≤ 105
def gTape (z : ow_MS) : Prop := ∃ t, t ≤ 400 ∧ z.1 11 = nI t
def gRows (z : ow_MS) : Prop := ∀ d, d < 40 → dRow z 12 (32 * d)
def gList (z : ow_MS) : Prop := ∃ L, L ≤ 2700 ∧ z.1 22 = nI L ∧ (∀ k, k < L → ∃ j, j < L ∧ z.2.1 21 k = nI j) ∧ ∀ j, j < L → dRow z 20 (32 * j)
def gSum (z : ow_MS) : Prop := ∃ L, L ≤ 16 ∧ z.1 36 = nI L ∧ (∀ k, k < L → ∃ j, j < L ∧ z.2.1 39 k = nI j) ∧ ∀ j, j < L → dRow z 35 (32 * j)
def gCash (z : ow_MS) : Prop := (∃ T, rc_At z 43 0 T) ∧ (∃ T, rc_At z 45 0 T) ∧ (∃ T, rc_At z 50 0 T) ∧ (∃ T, rc_At z 65 0 T) ∧ ∃ c, c ≤ 40 ∧ z.1 67 = nI c
/-- a braid's place: l letters on n strands; n = 0: empty -/
def gBr (z : ow_MS) (b : Nat) : Prop := ∃ n l, n ≤ 5 ∧ n ≠ 1 ∧ z.2.1 96 b = nI n ∧ (0 < n → l ≤ 16 ∧ z.2.1 95 b = nI l ∧ ∀ i, i < l → ∃ a, a + 1 < n ∧ (z.2.1 94 (16 * b + i) = nI (a + 1) ∨ z.2.1 94 (16 * b + i) = -1 - nI a))
def gBrs (z : ow_MS) : Prop := ∀ b, b < 20 → gBr z b
def gI (X : (Nat → Nat → Int32) → Prop) (z : ow_MS) : Prop := gTape z ∧ gRows z ∧ gList z ∧ gSum z ∧ gCash z ∧ gBrs z ∧ X (fun g => z.2.1 (if g = 53 ∨ 73 ≤ g ∧ g ≤ 76 ∨ 97 ≤ g ∧ g ≤ 105 then g else 73))
section GI
variable {X : (Nat → Nat → Int32) → Prop} {P : Nat → Prop} {z z1 : ow_MS}
theorem gTape_fr (hf : fr P z z1) (hP : ¬ P 11) (h : gTape z) : gTape z1 := by
  obtain ⟨t, h1, h2⟩ := h
  exact ⟨t, h1, by rw [(hf 11 hP).1]; exact h2⟩
theorem gRows_fr (hf : fr P z z1) (hP : ¬ P 12) (h : gRows z) : gRows z1 := fun d hd => dRow_fr hf hP (h d hd)
theorem gList_fr (hf : fr P z z1) (h0 : ¬ P 20) (h1 : ¬ P 21) (h2 : ¬ P 22) (h : gList z) : gList z1 := by
  obtain ⟨L, a1, a2, a3, a4⟩ := h
  exact ⟨L, a1, by rw [(hf 22 h2).1]; exact a2, fun k hk => by rw [(hf 21 h1).2.1]; exact a3 k hk, fun j hj => dRow_fr hf h0 (a4 j hj)⟩
theorem gSum_fr (hf : fr P z z1) (h0 : ¬ P 35) (h1 : ¬ P 39) (h2 : ¬ P 36) (h : gSum z) : gSum z1 := by
  obtain ⟨L, a1, a2, a3, a4⟩ := h
  exact ⟨L, a1, by rw [(hf 36 h2).1]; exact a2, fun k hk => by rw [(hf 39 h1).2.1]; exact a3 k hk, fun j hj => dRow_fr hf h0 (a4 j hj)⟩
theorem gCash_fr (hf : fr P z z1) (h0 : ¬ P 43) (h1 : ¬ P 45) (h2 : ¬ P 50) (h3 : ¬ P 65) (h4 : ¬ P 67) (h : gCash z) : gCash z1 := by
  obtain ⟨⟨T1, a1⟩, ⟨T2, a2⟩, ⟨T3, a3⟩, ⟨T4, a4⟩, c, a5, a6⟩ := h
  exact ⟨⟨T1, rc_fr hf h0 a1⟩, ⟨T2, rc_fr hf h1 a2⟩, ⟨T3, rc_fr hf h2 a3⟩, ⟨T4, rc_fr hf h3 a4⟩, c, a5, by rw [(hf 67 h4).1]; exact a6⟩
theorem gBr_fr {b : Nat} (hf : fr P z z1) (h0 : ¬ P 94) (h1 : ¬ P 95) (h2 : ¬ P 96) (h : gBr z b) : gBr z1 b := by
  obtain ⟨n, l, a1, a2, a3, a4⟩ := h
  refine ⟨n, l, a1, a2, by rw [(hf 96 h2).2.1]; exact a3, fun hn => ?_⟩
  obtain ⟨b1, b2, b3⟩ := a4 hn
  exact ⟨b1, by rw [(hf 95 h1).2.1]; exact b2, fun i hi => by rw [(hf 94 h0).2.1]; exact b3 i hi⟩
theorem gBrs_fr (hf : fr P z z1) (h0 : ¬ P 94) (h1 : ¬ P 95) (h2 : ¬ P 96) (h : gBrs z) : gBrs z1 := fun b hb => gBr_fr hf h0 h1 h2 (h b hb)
theorem gX_fr (hf : fr P z z1) (hP : ∀ g, P g → ¬ (g = 53 ∨ 73 ≤ g ∧ g ≤ 76 ∨ 97 ≤ g ∧ g ≤ 105)) (h : X (fun g => z.2.1 (if g = 53 ∨ 73 ≤ g ∧ g ≤ 76 ∨ 97 ≤ g ∧ g ≤ 105 then g else 73))) : X (fun g => z1.2.1 (if g = 53 ∨ 73 ≤ g ∧ g ≤ 76 ∨ 97 ≤ g ∧ g ≤ 105 then g else 73)) := by
  have e : (fun g => z1.2.1 (if g = 53 ∨ 73 ≤ g ∧ g ≤ 76 ∨ 97 ≤ g ∧ g ≤ 105 then g else 73)) = fun g => z.2.1 (if g = 53 ∨ 73 ≤ g ∧ g ≤ 76 ∨ 97 ≤ g ∧ g ≤ 105 then g else 73) := by
    funext g
    refine (hf _ (fun h9 => hP _ h9 ?_)).2.1
    by_cases hg : g = 53 ∨ 73 ≤ g ∧ g ≤ 76 ∨ 97 ≤ g ∧ g ≤ 105
    · rw [if_pos hg]; exact hg
    · rw [if_neg hg]; omega
  rw [e]
  exact h
/-- what only scratch has changed -/
theorem gI_fr (hf : fr P z z1) (hP : ∀ g, P g → ¬ per g) (h : gI X z) : gI X z1 := by
  obtain ⟨h1, h2, h3, h4, h5, h6, h7⟩ := h
  have no : ∀ g, per g → ¬ P g := fun g hg h9 => hP g h9 hg
  exact ⟨gTape_fr hf (no 11 (by decide)) h1, gRows_fr hf (no 12 (by decide)) h2, gList_fr hf (no 20 (by decide)) (no 21 (by decide)) (no 22 (by decide)) h3, gSum_fr hf (no 35 (by decide)) (no 39 (by decide)) (no 36 (by decide)) h4, gCash_fr hf (no 43 (by decide)) (no 45 (by decide)) (no 50 (by decide)) (no 65 (by decide)) (no 67 (by decide)) h5, gBrs_fr hf (no 94 (by decide)) (no 95 (by decide)) (no 96 (by decide)) h6, gX_fr hf (fun g hg h9 => hP g hg (by unfold per; omega)) h7⟩
end GI
/-! the nets -/
theorem pn1 : mw_net 1000 := ⟨0, by omega, rfl⟩
theorem pn2 : mw_net 2000 := ⟨1, by omega, rfl⟩
theorem pn3 : mw_net 3000 := ⟨2, by omega, rfl⟩
/-! small methods -/
theorem e_X13_fails {x1 : Int32} {z : ow_MS} {Q : (Int32 × ow_MS) → Prop} (H : Tt (fun K _ => qm_X13_fails_0 K x1 z) Q) : Te (fun K => qe_X13_fails K x1 z) Q := w_te0 H
theorem tm_fails {c : Int32} {z : ow_MS} : Te (fun K => qe_X13_fails K c z) (fun r => r = (0, usF z 1 c)) := by
  refine e_X13_fails ?_; unfold qm_X13_fails_0
  exact w_wrF (w_some rfl)
theorem e_X13_has {x1 : Int32} {z : ow_MS} {Q : (Int32 × ow_MS) → Prop} (H : Tt (fun K _ => qm_X13_has_0 K x1 z) Q) : Te (fun K => qe_X13_has K x1 z) Q := w_te0 H
/-- has -/
theorem tm_has {x : Int32} {z : ow_MS} (h : gRows z) : Te (fun K => qe_X13_has K x z) (fun r => r.2 = z ∧ (r.1 = 0 ∨ r.1 = 1 ∧ ∃ d A sg, d < 40 ∧ x = nI d ∧ vRow z 12 (32 * d) A sg ∧ A ≠ [])) := by
  refine e_X13_has ?_; unfold qm_X13_has_0
  refine w_if (fun _ => w_okZ (Or.inl rfl) (w_some ⟨rfl, Or.inl rfl⟩)) (fun h0 => w_if (fun _ => w_okZ (Or.inl rfl) (w_some ⟨rfl, Or.inl rfl⟩)) (fun h1 => ?_))
  obtain ⟨d, hd, rfl⟩ : ∃ d, d < 40 ∧ x = nI d := by
    rcases pk_ix x (n := 40) (by omega) with h9 | h9 | h9
    · exact absurd h9 h0
    · exact absurd h9 h1
    · exact h9
  obtain ⟨A, sg, hv⟩ := h d hd
  have hl := hv.1.1
  rw [show (32 : Int32) * nI d = nI (32 * d) from pk_mul 32 d]
  refine w_rdI ml12 rfl (by omega) hv.1.2.2.1 (w_le (b := 0) (by omega) (by omega) (fun _ => w_okZ (Or.inl rfl) (w_some ⟨rfl, Or.inl rfl⟩)) (fun h9 => w_okZ (Or.inr rfl) (w_some ⟨rfl, Or.inr ⟨rfl, d, A, sg, hd, rfl, hv, fun e => ?_⟩⟩)))
  rw [e] at h9
  exact absurd h9 (by simp [tk])
/-- a place is free -/
def frD (z : ow_MS) : Prop := ∃ d, d < 40 ∧ z.2.1 12 (32 * d) ≤ 0
theorem u_X13_free_1 {x1 : Int32} {z : ow_MS} {Q : (Int32 × ow_MS) → Prop} (H : Tt (fun K k => qm_X13_free_1 K (q_X13_free K k) x1 z) Q) : Tt (fun K k => q_X13_free K k 1 x1 z) Q := w_un (fun _ _ => rfl) H
theorem u_X13_free_2 {x1 : Int32} {z : ow_MS} {Q : (Int32 × ow_MS) → Prop} (H : Tt (fun K k => qm_X13_free_2 K (q_X13_free K k) x1 z) Q) : Tt (fun K k => q_X13_free K k 2 x1 z) Q := w_un (fun _ _ => rfl) H
theorem e_X13_free {z : ow_MS} {Q : (Int32 × ow_MS) → Prop} (H : Tt (fun K k => q_X13_free K k 0 0 z) Q) : Te (fun K => qe_X13_free K z) Q := w_te H
theorem u_X13_free_0 {x1 : Int32} {z : ow_MS} {Q : (Int32 × ow_MS) → Prop} (H : Tt (fun K k => qm_X13_free_0 K (q_X13_free K k) x1 z) Q) : Tt (fun K k => q_X13_free K k 0 x1 z) Q := w_un (fun _ _ => rfl) H
theorem tm_free {z : ow_MS} : Te (fun K => qe_X13_free K z) (fun r => r.2 = z ∧ (r.1 = -1 ∧ ¬ frD z ∨ ∃ d, d < 40 ∧ r.1 = nI d ∧ z.2.1 12 (32 * d) ≤ 0 ∧ ∀ e, e < d → ¬ z.2.1 12 (32 * e) ≤ 0)) := by
  have key : ∀ (k d : Nat), d + k = 40 → (∀ e, e < d → ¬ z.2.1 12 (32 * e) ≤ 0) → Tt (fun K i => q_X13_free K i 1 (nI d) z) (fun r => r.2 = z ∧ (r.1 = -1 ∧ ¬ frD z ∨ ∃ d, d < 40 ∧ r.1 = nI d ∧ z.2.1 12 (32 * d) ≤ 0 ∧ ∀ e, e < d → ¬ z.2.1 12 (32 * e) ≤ 0)) := by
    intro k
    induction k with
    | zero =>
      intro d hd hall
      refine u_X13_free_1 ?_; unfold qm_X13_free_1
      refine w_leT (a := 40) (by omega) (by omega) ?_
      refine u_X13_free_2 ?_; unfold qm_X13_free_2
      exact w_leT (a := 40) (by omega) (by omega) (w_some ⟨rfl, Or.inl ⟨rfl, fun ⟨e, he, h9⟩ => hall e (by omega) h9⟩⟩)
    | succ k ih =>
      intro d hd hall
      refine u_X13_free_1 ?_; unfold qm_X13_free_1
      rw [show (32 : Int32) * nI d = nI (32 * d) from pk_mul 32 d, nI_1]
      refine w_leF (a := 40) (by omega) (by omega) (w_rdI ml12 rfl (by omega) rfl (w_if (fun h9 => ?_) (fun h9 => ih (d + 1) (by omega) (fun e he => ?_))))
      · refine u_X13_free_2 ?_; unfold qm_X13_free_2
        exact w_leF (a := 40) (by omega) (by omega) (w_some ⟨rfl, Or.inr ⟨d, by omega, rfl, h9, hall⟩⟩)
      · by_cases hed : e = d
        · rw [hed]; exact h9
        · exact hall e (by omega)
  refine e_X13_free ?_
  refine u_X13_free_0 ?_; unfold qm_X13_free_0
  exact key 40 0 (by omega) (fun e he => by omega)
theorem frD_eq {z z1 : ow_MS} (he : z1.2.1 12 = z.2.1 12) (h : frD z) : frD z1 := by
  obtain ⟨d, h1, h2⟩ := h
  exact ⟨d, h1, by rw [he]; exact h2⟩
/-- what a net must be to be kept -/
def mNet (z : ow_MS) (n : Nat) : Prop := ∃ A sg, rn_At z n A [] ∧ rn_sg z n A.flatten sg ∧ wkF A.flatten ∧ A.flatten.length ≤ 24 ∧ A.length ≤ 6
theorem dRow_pack {z : ow_MS} {h o : Nat} {A : rn_L} {sg : Nat → Bool} {m : Nat → Nat} {P : Nat} (hF : wkF A.flatten) (hk : mk A m P) (hl : A.flatten.length ≤ 24) (hc : A.length ≤ 6) (hr : rc_At z h o (pkR A sg m P)) : dRow z h o := by
  obtain ⟨A', sg', c, e, ok, l1, l2⟩ := pkR_ok (sg := sg) hF hk
  rw [e] at hr
  exact ⟨A', sg', hr, ⟨c, ok, by omega⟩, by omega⟩
/-- pack into a row of diagrams -/
theorem tm_pack {n h o la : Nat} {z : ow_MS} (hn : mw_net n) (hh : 10 ≤ h ∧ h < 1000) (hla : (mX.2 h).2.1 = la) (ha : la < 2 ^ 30) (ho : o + 32 ≤ la) (hM : mNet z n) : Te (fun K => qe_X13_pack K n h (nI o) z) (fun z1 => dRow z1 h o ∧ fr (frQ n h) z z1 ∧ ∀ i, i < o ∨ o + 32 ≤ i → z1.2.1 h i = z.2.1 h i) := by
  obtain ⟨A, sg, h1, h2, h3, h4, h5⟩ := hM
  refine w_monoE (tr_pack hn hh hla ha ho (by omega) (by omega) h3 h1 h2) (fun z1 hz => ?_)
  obtain ⟨m, P, hk, hr, hf, hi, -, -⟩ := hz
  exact ⟨dRow_pack h3 hk h4 h5 hr, hf, hi⟩
theorem gRows_put {z z1 : ow_MS} {d : Nat} (hd : dRow z1 12 (32 * d)) (he : ∀ i, i < 32 * d ∨ 32 * d + 32 ≤ i → z1.2.1 12 i = z.2.1 12 i) (h : gRows z) : gRows z1 := fun e he9 => by
  by_cases hde : e = d
  · rw [hde]; exact hd
  · exact dRow_eq (fun i h1 h2 => he i (by omega)) (h e he9)
/-- the state when rows alone have changed -/
theorem gI_rows {X : (Nat → Nat → Int32) → Prop} {P : Nat → Prop} {z z1 : ow_MS} (hf : fr P z z1) (hP : ∀ g, P g → g = 12 ∨ ¬ per g) (hr : gRows z1) (h : gI X z) : gI X z1 := by
  obtain ⟨h1, h2, h3, h4, h5, h6, h7⟩ := h
  have no : ∀ g, per g → g ≠ 12 → ¬ P g := fun g hg hne h9 => (hP g h9).elim hne (fun h8 => h8 hg)
  exact ⟨gTape_fr hf (no 11 (by decide) (by decide)) h1, hr, gList_fr hf (no 20 (by decide) (by decide)) (no 21 (by decide) (by decide)) (no 22 (by decide) (by decide)) h3, gSum_fr hf (no 35 (by decide) (by decide)) (no 39 (by decide) (by decide)) (no 36 (by decide) (by decide)) h4, gCash_fr hf (no 43 (by decide) (by decide)) (no 45 (by decide) (by decide)) (no 50 (by decide) (by decide)) (no 65 (by decide) (by decide)) (no 67 (by decide) (by decide)) h5, gBrs_fr hf (no 94 (by decide) (by decide)) (no 95 (by decide) (by decide)) (no 96 (by decide) (by decide)) h6, gX_fr hf (fun g hg h9 => (hP g hg).elim (fun e => by omega) (fun h8 => h8 (by unfold per; omega))) h7⟩
theorem e_X13_keep {z : ow_MS} {Q : (Int32 × ow_MS) → Prop} (H : Tt (fun K _ => qm_X13_keep_0 K z) Q) : Te (fun K => qe_X13_keep K z) Q := w_te0 H
/-- keep -/
theorem tm_keep {X : (Nat → Nat → Int32) → Prop} {z : ow_MS} (hI : gI X z) (hfree : frD z) (hM : mNet z 3000) : Te (fun K => qe_X13_keep K z) (fun r => gI X r.2 ∧ ∃ d, d < 40 ∧ r.1 = nI d) := by
  obtain ⟨r, hr, h1, h2⟩ := tm_free (z := z)
  obtain ⟨d, hd, e, -, -⟩ := h2.resolve_left (fun h9 => h9.2 hfree)
  refine e_X13_keep ?_; unfold qm_X13_keep_0
  refine w_cs1 (R := fun r => r = (nI d, z)) ⟨r, hr, Prod.ext e h1⟩ (fun a z1 e9 => ?_)
  cases e9
  rw [show (32 : Int32) * nI d = nI (32 * d) from pk_mul 32 d]
  refine w_cs0 (tm_pack pn3 (by omega) ml12 (by omega) (by omega) hM) (fun z1 ⟨g1, g2, g3⟩ => w_some ⟨?_, d, hd, rfl⟩)
  refine gI_rows g2 (fun g hg => ?_) (gRows_put g1 g3 hI.2.1) hI
  unfold per
  unfold frQ at hg
  omega
theorem u_X13_keepRow_1 {x2 : Int32} {x3 : Int32} {x4 : Int32} {r1 : Nat} {z : ow_MS} {Q : (Int32 × ow_MS) → Prop} (H : Tt (fun K k => qm_X13_keepRow_1 K (q_X13_keepRow K k) x2 x3 x4 r1 z) Q) : Tt (fun K k => q_X13_keepRow K k 1 x2 x3 x4 r1 z) Q := w_un (fun _ _ => rfl) H
theorem e_X13_keepRow {r1 : Nat} {x2 : Int32} {z : ow_MS} {Q : (Int32 × ow_MS) → Prop} (H : Tt (fun K k => q_X13_keepRow K k 0 x2 0 0 r1 z) Q) : Te (fun K => qe_X13_keepRow K r1 x2 z) Q := w_te H
theorem u_X13_keepRow_0 {x2 : Int32} {x3 : Int32} {x4 : Int32} {r1 : Nat} {z : ow_MS} {Q : (Int32 × ow_MS) → Prop} (H : Tt (fun K k => qm_X13_keepRow_0 K (q_X13_keepRow K k) x2 x3 x4 r1 z) Q) : Tt (fun K k => q_X13_keepRow K k 0 x2 x3 x4 r1 z) Q := w_un (fun _ _ => rfl) H
theorem tm_keepRow {X : (Nat → Nat → Int32) → Prop} {z : ow_MS} {h o la : Nat} (hI : gI X z) (hfree : frD z) (hh : h ≠ 12) (hla : (mX.2 h).2.1 = la) (ha : la < 2 ^ 30) (ho : o + 32 ≤ la) (hM : dRow z h o) : Te (fun K => qe_X13_keepRow K h (nI o) z) (fun r => gI X r.2 ∧ ∃ d, d < 40 ∧ r.1 = nI d) := by
  obtain ⟨r, hr, h1, h2⟩ := tm_free (z := z)
  obtain ⟨d, hd, e, -, -⟩ := h2.resolve_left (fun h9 => h9.2 hfree)
  obtain ⟨A, sg, hv, h5⟩ := hM
  have hl := hv.1
  have key : ∀ (j k : Nat) (z1 : ow_MS), k + j = (tk sg A).length + 1 → fr (fun g => g = 12) z z1 → (∀ i, i < k → z1.2.1 12 (32 * d + i) = z.2.1 h (o + i)) → (∀ i, i < 32 * d ∨ 32 * d + 32 ≤ i → z1.2.1 12 i = z.2.1 12 i) → Tt (fun K i => q_X13_keepRow K i 1 (nI o) (nI d) (nI k) h z1) (fun r => gI X r.2 ∧ ∃ d, d < 40 ∧ r.1 = nI d) := by
    intro j
    induction j with
    | zero =>
      intro k z1 hk hf hc hi
      have e0 : z1.2.1 h o = nI (tk sg A).length := by rw [(hf h hh).2.1]; exact hv.2.2.1
      refine u_X13_keepRow_1 ?_; unfold qm_X13_keepRow_1
      refine w_rdI hla rfl (by omega) e0 (w_ltT (by omega) (by omega) (w_some ⟨gI_rows hf (fun g hg => Or.inl hg) (gRows_put ⟨A, sg, ⟨hl, hv.2.1, ?_, fun i t hi9 => ?_⟩, h5⟩ hi hI.2.1) hI, d, hd, rfl⟩))
      · have := hc 0 (by omega)
        rw [Nat.add_zero, Nat.add_zero] at this
        rw [this]
        exact hv.2.2.1
      · have := (List.getElem?_eq_some_iff.mp hi9).1
        rw [hc (i + 1) (by omega)]
        exact hv.2.2.2 i t hi9
    | succ j ih =>
      intro k z1 hk hf hc hi
      have e0 : z1.2.1 h o = nI (tk sg A).length := by rw [(hf h hh).2.1]; exact hv.2.2.1
      refine u_X13_keepRow_1 ?_; unfold qm_X13_keepRow_1
      rw [nI_add, show (32 : Int32) * nI d = nI (32 * d) from pk_mul 32 d, nI_add, nI_1]
      refine w_rdI hla rfl (by omega) e0 (w_ltF (by omega) (by omega) (w_rdI hla rfl (by omega) (by rw [(hf h hh).2.1]) (w_wrI ml12 rfl (by omega) ?_)))
      refine ih (k + 1) _ (by omega) (fr_I2 hf rfl) (fun i hi9 => ?_) (fun i hi9 => rd_ne (by omega) (hi i hi9))
      by_cases hik : i = k
      · rw [hik, po_usI_at]
      · exact rd_ne (by omega) (hc i (by omega))
  refine e_X13_keepRow ?_
  refine u_X13_keepRow_0 ?_; unfold qm_X13_keepRow_0
  refine w_cs1 (R := fun r => r = (nI d, z)) ⟨r, hr, Prod.ext e h1⟩ (fun a z1 e9 => ?_)
  cases e9
  exact key ((tk sg A).length + 1) 0 z (by omega) fr_rf (fun i hi => by omega) (fun i _ => rfl)
theorem e_X13_open {x1 : Int32} {r2 : Nat} {z : ow_MS} {Q : ow_MS → Prop} (H : Tt (fun K _ => qm_X13_open_0 K x1 r2 z) Q) : Te (fun K => qe_X13_open K x1 r2 z) Q := w_te0 H
/-- open: the net of a place -/
theorem tm_open {z : ow_MS} {n d : Nat} {A : rn_L} {sg : Nat → Bool} (hn : mw_net n) (hd : d < 40) (hv : vRow z 12 (32 * d) A sg) : Te (fun K => qe_X13_open K (nI d) n z) (fun z1 => rn_lk z1 n A ∧ rn_sg z1 n A.flatten sg ∧ fr (fun g => n + 1 ≤ g ∧ g ≤ n + 11) z z1) := by
  obtain ⟨h1, ⟨c, h2, h3⟩, h4⟩ := hv
  have hl := okF_len h2
  have hll := h1.1
  have hw := okF_wk (by omega) h2
  refine e_X13_open ?_; unfold qm_X13_open_0
  rw [show (32 : Int32) * nI d = nI (32 * d) from pk_mul 32 d]
  refine w_cs0 (tr_unpack hn (by omega) ml12 (by omega) (by omega) (by omega) (by omega) (fun p hp => ⟨(hw.2 p hp).1, (hw.2 p hp).2.1⟩) h1) (fun z1 ⟨g1, g2, g3⟩ => w_cs0 (tn_link hn (by omega) (by omega) (wkF_ok hw).1 g1) (fun z2 ⟨f1, f2, f3⟩ => w_some ⟨⟨f2, f3⟩, fun p hp => ?_, fr_tr (fr_mono (fun g hg => by omega) g3) (fr_mono (fun g hg => by have := hg.1; have := hg.2; omega) f1)⟩))
  rw [(f1 (n + 6) (fun h9 => by have := h9.1; omega)).2.1]
  exact g2 p hp
end
