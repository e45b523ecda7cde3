/-! pure functions that have an answer: small rules -/
def po_Ok {O : Type} (o : Option O) (Q : O → Prop) : Prop := ∃ r, o = some r ∧ Q r
section PO
variable {O : Type} {X : ow_Tb} {z : ow_MS} {h i j : Nat} {x : Int32} {Q : O → Prop}
theorem po_rdI {K : Int32 → Option O} (hl : i < (X.2 h).2.1) (hi : i < 2 ^ 31) : rdI X z h (nI i) K = K (z.2.1 h i) := by
  unfold rdI
  rw [nI_clamp hi, if_neg (fun h9 => h9.elim (nI_pos hi) (by omega))]
theorem po_wrI {K : ow_MS → Option O} (hl : i < (X.2 h).2.1) (hi : i < 2 ^ 31) : wrI X z h (nI i) x K = K (usI z h i x) := by
  unfold wrI
  rw [nI_clamp hi, if_neg (fun h9 => h9.elim (nI_pos hi) (by omega))]
theorem po_rdJ {K : Int64 → Option O} (hl : i < (X.2 h).2.1) (hi : i < 2 ^ 31) : rdJ X z h (nI i) K = K (z.2.2 h i) := by
  unfold rdJ
  rw [nI_clamp hi, if_neg (fun h9 => h9.elim (nI_pos hi) (by omega))]
theorem po_wrJ {y : Int64} {K : ow_MS → Option O} (hl : i < (X.2 h).2.1) (hi : i < 2 ^ 31) : wrJ X z h (nI i) y K = K (usJ z h i y) := by
  unfold wrJ
  rw [nI_clamp hi, if_neg (fun h9 => h9.elim (nI_pos hi) (by omega))]
theorem po_lt {A B : Option O} {a b : Nat} (hb : b < 2 ^ 31) (h9 : a < b) : (if nI a < nI b then A else B) = A := if_pos (nI_lt h9 hb)
theorem po_ltN {A B : Option O} {a b : Nat} (ha : a < 2 ^ 31) (h9 : b ≤ a) : (if nI a < nI b then A else B) = B := if_neg (nI_nlt h9 ha)
theorem po_le {A B : Option O} {a b : Nat} (hb : b < 2 ^ 31) (h9 : a ≤ b) : (if nI a ≤ nI b then A else B) = A := if_pos (nI_le h9 hb)
theorem po_leN {A B : Option O} {a b : Nat} (ha : a < 2 ^ 31) (h9 : b < a) : (if nI a ≤ nI b then A else B) = B := if_neg (nI_ge h9 ha)
theorem po_cs0 {o : Option ow_MS} {z1 : ow_MS} {K : ow_MS → Option O} (h9 : o = some z1) : cs0 o K = K z1 := by
  rw [h9]
  rfl
theorem po_cs1 {α : Type} {o : Option (α × ow_MS)} {r : α} {z1 : ow_MS} {K : α → ow_MS → Option O} (h9 : o = some (r, z1)) : cs1 o K = K r z1 := by
  rw [h9]
  rfl
theorem po_usI_at : (usI z h i x).2.1 h i = x := by
  show (if h = h then upd (z.2.1 h) i x else z.2.1 h) i = x
  rw [if_pos rfl]
  exact pk_us
theorem po_usI_ne (hj : j ≠ i) : (usI z h i x).2.1 h j = z.2.1 h j := by
  show (if h = h then upd (z.2.1 h) i x else z.2.1 h) j = z.2.1 h j
  rw [if_pos rfl]
  exact pk_un hj
theorem po_usI_ot {g : Nat} (hg : g ≠ h) : (usI z h i x).2.1 g = z.2.1 g := if_neg hg
theorem po_usI1 : (usI z h i x).1 = z.1 := rfl
theorem po_usF2 : (usF z h x).2 = z.2 := rfl
theorem po_usF_at : (usF z h x).1 h = x := if_pos rfl
theorem po_usF_ot {g : Nat} (hg : g ≠ h) : (usF z h x).1 g = z.1 g := if_neg hg
end PO
/-! what comes to an end, whatever the fuel (from some fuel on) -/
def Tt {O : Type} (f : Nat → Nat → Option O) (Q : O → Prop) : Prop := ∃ r, (∃ b, ∀ K k, b ≤ K → b ≤ k → f K k = some r) ∧ Q r
def Te {O : Type} (f : Nat → Option O) (Q : O → Prop) : Prop := ∃ r, (∃ b, ∀ K, b ≤ K → f K = some r) ∧ Q r
section WP
variable {O : Type} {X : ow_Tb} {z : ow_MS} {h i len : Nat} {j x : Int32} {y : Int64} {Q : O → Prop}
theorem w_mono {f : Nat → Nat → Option O} {R : O → Prop} (H : Tt f R) (hR : ∀ r, R r → Q r) : Tt f Q := by
  obtain ⟨r, h1, h2⟩ := H
  exact ⟨r, h1, hR r h2⟩
theorem w_monoE {f : Nat → Option O} {R : O → Prop} (H : Te f R) (hR : ∀ r, R r → Q r) : Te f Q := by
  obtain ⟨r, h1, h2⟩ := H
  exact ⟨r, h1, hR r h2⟩
theorem w_some {r : O} (H : Q r) : Tt (fun _ _ => some r) Q := ⟨r, ⟨0, fun _ _ _ _ => rfl⟩, H⟩
theorem w_someE {r : O} (H : Q r) : Te (fun _ => some r) Q := ⟨r, ⟨0, fun _ _ => rfl⟩, H⟩
theorem w_un {f g : Nat → Nat → Option O} (he : ∀ K k, f K (k + 1) = g K k) (H : Tt g Q) : Tt f Q := by
  obtain ⟨r, ⟨b, h1⟩, h2⟩ := H
  refine ⟨r, ⟨b + 1, fun K k hK hk => ?_⟩, h2⟩
  obtain ⟨k, rfl⟩ : ∃ k', k = k' + 1 := ⟨k - 1, by omega⟩
  rw [he]
  exact h1 K k (by omega) (by omega)
theorem w_te {f : Nat → Nat → Option O} (H : Tt f Q) : Te (fun K => f K K) Q := by
  obtain ⟨r, ⟨b, h1⟩, h2⟩ := H
  exact ⟨r, ⟨b, fun K hK => h1 K K hK hK⟩, h2⟩
theorem w_te0 {f : Nat → Option O} (H : Tt (fun K _ => f K) Q) : Te f Q := by
  obtain ⟨r, ⟨b, h1⟩, h2⟩ := H
  exact ⟨r, ⟨b, fun K hK => h1 K K hK hK⟩, h2⟩
theorem w_et {f : Nat → Option O} (H : Te f Q) : Tt (fun K _ => f K) Q := by
  obtain ⟨r, ⟨b, h1⟩, h2⟩ := H
  exact ⟨r, ⟨b, fun K _ hK _ => h1 K hK⟩, h2⟩
theorem w_if {c : Prop} [Decidable c] {A B : Nat → Nat → Option O} (H1 : c → Tt A Q) (H2 : ¬ c → Tt B Q) : Tt (fun K k => if c then A K k else B K k) Q := by
  by_cases hc : c
  · simp only [if_pos hc]
    exact H1 hc
  · simp only [if_neg hc]
    exact H2 hc
theorem w_ifT {c : Prop} [Decidable c] {A B : Nat → Nat → Option O} (hc : c) (H : Tt A Q) : Tt (fun K k => if c then A K k else B K k) Q := by
  simp only [if_pos hc]
  exact H
theorem w_ifF {c : Prop} [Decidable c] {A B : Nat → Nat → Option O} (hc : ¬ c) (H : Tt B Q) : Tt (fun K k => if c then A K k else B K k) Q := by
  simp only [if_neg hc]
  exact H
theorem w_lt {a b : Nat} {A B : Nat → Nat → Option O} (ha : a < 2 ^ 31) (hb : b < 2 ^ 31) (H1 : a < b → Tt A Q) (H2 : b ≤ a → Tt B Q) : Tt (fun K k => if nI a < nI b then A K k else B K k) Q := w_if (fun h9 => H1 ((nI_ltI ha hb).mp h9)) (fun h9 => H2 (Nat.le_of_not_lt (fun h8 => h9 ((nI_ltI ha hb).mpr h8))))
theorem w_le {a b : Nat} {A B : Nat → Nat → Option O} (ha : a < 2 ^ 31) (hb : b < 2 ^ 31) (H1 : a ≤ b → Tt A Q) (H2 : b < a → Tt B Q) : Tt (fun K k => if nI a ≤ nI b then A K k else B K k) Q := w_if (fun h9 => H1 ((nI_leI ha hb).mp h9)) (fun h9 => H2 (Nat.lt_of_not_le (fun h8 => h9 ((nI_leI ha hb).mpr h8))))
theorem w_eqN {a b : Nat} {A B : Nat → Nat → Option O} (ha : a < 2 ^ 31) (hb : b < 2 ^ 31) (H1 : a = b → Tt A Q) (H2 : a ≠ b → Tt B Q) : Tt (fun K k => if nI a = nI b then A K k else B K k) Q := w_if (fun h9 => H1 ((nI_eq ha hb).mp h9)) (fun h9 => H2 (fun h8 => h9 ((nI_eq ha hb).mpr h8)))
theorem w_ltT {a b : Nat} {A B : Nat → Nat → Option O} (hb : b < 2 ^ 31) (hc : a < b) (H : Tt A Q) : Tt (fun K k => if nI a < nI b then A K k else B K k) Q := w_ifT (nI_lt hc hb) H
theorem w_ltF {a b : Nat} {A B : Nat → Nat → Option O} (ha : a < 2 ^ 31) (hc : b ≤ a) (H : Tt B Q) : Tt (fun K k => if nI a < nI b then A K k else B K k) Q := w_ifF (nI_nlt hc ha) H
theorem w_leT {a b : Nat} {A B : Nat → Nat → Option O} (hb : b < 2 ^ 31) (hc : a ≤ b) (H : Tt A Q) : Tt (fun K k => if nI a ≤ nI b then A K k else B K k) Q := w_ifT (nI_le hc hb) H
theorem w_leF {a b : Nat} {A B : Nat → Nat → Option O} (ha : a < 2 ^ 31) (hc : b < a) (H : Tt B Q) : Tt (fun K k => if nI a ≤ nI b then A K k else B K k) Q := w_ifF (nI_ge hc ha) H
theorem w_rdF {E : Int32 → Nat → Nat → Option O} (he : z.1 h = x) (H : Tt (E x) Q) : Tt (fun K k => rdF z h (fun v => E v K k)) Q := by
  subst he
  exact H
theorem w_wrF {E : ow_MS → Nat → Nat → Option O} (H : Tt (E (usF z h x)) Q) : Tt (fun K k => wrF z h x (fun v => E v K k)) Q := H
theorem w_rdI {E : Int32 → Nat → Nat → Option O} (hL : (X.2 h).2.1 = len) (hj : j = nI i) (hi : i < len) (he : z.2.1 h i = x) (H : Tt (E x) Q) (hb : len < 2 ^ 31 := by omega) : Tt (fun K k => rdI X z h j (fun v => E v K k)) Q := by
  subst he
  have e : (fun K k => rdI X z h j (fun v => E v K k)) = E (z.2.1 h i) := by
    funext K k
    rw [hj]
    exact po_rdI (K := fun v => E v K k) (by rw [hL]; exact hi) (by omega)
  rw [e]
  exact H
theorem w_wrI {E : ow_MS → Nat → Nat → Option O} (hL : (X.2 h).2.1 = len) (hj : j = nI i) (hi : i < len) (H : Tt (E (usI z h i x)) Q) (hb : len < 2 ^ 31 := by omega) : Tt (fun K k => wrI X z h j x (fun v => E v K k)) Q := by
  have e : (fun K k => wrI X z h j x (fun v => E v K k)) = E (usI z h i x) := by
    funext K k
    rw [hj]
    exact po_wrI (K := fun v => E v K k) (by rw [hL]; exact hi) (by omega)
  rw [e]
  exact H
theorem w_wrZ {E : ow_MS → Nat → Nat → Option O} (hL : (X.2 h).2.1 = len) (hj : j = nI i) (hi : i < len) (H : Tt (E (usI z h i (vp_nar .boolean x))) Q) (hb : len < 2 ^ 31 := by omega) : Tt (fun K k => wrZ X z h j x (fun v => E v K k)) Q := w_wrI (x := vp_nar .boolean x) hL hj hi H hb
theorem w_wrB {E : ow_MS → Nat → Nat → Option O} (hL : (X.2 h).2.1 = len) (hj : j = nI i) (hi : i < len) (H : Tt (E (usI z h i (vp_nar .byte x))) Q) (hb : len < 2 ^ 31 := by omega) : Tt (fun K k => wrB X z h j x (fun v => E v K k)) Q := w_wrI (x := vp_nar .byte x) hL hj hi H hb
theorem w_rdJ {E : Int64 → Nat → Nat → Option O} (hL : (X.2 h).2.1 = len) (hj : j = nI i) (hi : i < len) (he : z.2.2 h i = y) (H : Tt (E y) Q) (hb : len < 2 ^ 31 := by omega) : Tt (fun K k => rdJ X z h j (fun v => E v K k)) Q := by
  subst he
  have e : (fun K k => rdJ X z h j (fun v => E v K k)) = E (z.2.2 h i) := by
    funext K k
    rw [hj]
    exact po_rdJ (K := fun v => E v K k) (by rw [hL]; exact hi) (by omega)
  rw [e]
  exact H
theorem w_wrJ {E : ow_MS → Nat → Nat → Option O} (hL : (X.2 h).2.1 = len) (hj : j = nI i) (hi : i < len) (H : Tt (E (usJ z h i y)) Q) (hb : len < 2 ^ 31 := by omega) : Tt (fun K k => wrJ X z h j y (fun v => E v K k)) Q := by
  have e : (fun K k => wrJ X z h j y (fun v => E v K k)) = E (usJ z h i y) := by
    funext K k
    rw [hj]
    exact po_wrJ (K := fun v => E v K k) (by rw [hL]; exact hi) (by omega)
  rw [e]
  exact H
theorem w_nzI {A : Nat → Nat → Option O} (hx : x ≠ 0) (H : Tt A Q) : Tt (fun K k => nzI x (A K k)) Q := w_ifF hx H
theorem w_nzJ {A : Nat → Nat → Option O} (hx : y ≠ 0) (H : Tt A Q) : Tt (fun K k => nzJ y (A K k)) Q := w_ifF hx H
theorem w_okZ {A : Nat → Nat → Option O} (hx : x = 0 ∨ x = 1) (H : Tt A Q) : Tt (fun K k => okZ x (A K k)) Q := w_ifT hx H
theorem w_nm1 {α : Type} {a : α} {E : α → Nat → Nat → Option O} (H : Tt (E a) Q) : Tt (fun K k => nm1 a (fun v => E v K k)) Q := H
theorem w_cs0 {f : Nat → Option ow_MS} {R : ow_MS → Prop} {E : ow_MS → Nat → Nat → Option O} (hc : Te f R) (H : ∀ z1, R z1 → Tt (E z1) Q) : Tt (fun K k => cs0 (f K) (fun v => E v K k)) Q := by
  obtain ⟨r, ⟨b, h1⟩, h2⟩ := hc
  obtain ⟨r2, ⟨b2, h3⟩, h4⟩ := H r h2
  refine ⟨r2, ⟨b + b2, fun K k hK hk => ?_⟩, h4⟩
  show cs0 (f K) (fun v => E v K k) = some r2
  rw [h1 K (by omega)]
  exact h3 K k (by omega) (by omega)
theorem w_cs1 {α : Type} {f : Nat → Option (α × ow_MS)} {R : α × ow_MS → Prop} {E : α → ow_MS → Nat → Nat → Option O} (hc : Te f R) (H : ∀ a z1, R (a, z1) → Tt (E a z1) Q) : Tt (fun K k => cs1 (f K) (fun a v => E a v K k)) Q := by
  obtain ⟨r, ⟨b, h1⟩, h2⟩ := hc
  obtain ⟨r2, ⟨b2, h3⟩, h4⟩ := H r.1 r.2 h2
  refine ⟨r2, ⟨b + b2, fun K k hK hk => ?_⟩, h4⟩
  show cs1 (f K) (fun a v => E a v K k) = some r2
  rw [h1 K (by omega)]
  exact h3 K k (by omega) (by omega)
end WP
/-! frames: nothing but the handles in P is changed -/
def fr (P : Nat → Prop) (z z1 : ow_MS) : Prop := ∀ g, ¬ P g → z1.1 g = z.1 g ∧ z1.2.1 g = z.2.1 g ∧ z1.2.2 g = z.2.2 g
section FR
variable {P P2 : Nat → Prop} {z z1 z2 : ow_MS} {h i g j : Nat} {x y : Int32}
theorem fr_rf : fr P z z := fun _ _ => ⟨rfl, rfl, rfl⟩
theorem fr_tr (h1 : fr P z z1) (h2 : fr P z1 z2) : fr P z z2 := fun g hg => ⟨(h2 g hg).1.trans (h1 g hg).1, (h2 g hg).2.1.trans (h1 g hg).2.1, (h2 g hg).2.2.trans (h1 g hg).2.2⟩
theorem fr_mono (hP : ∀ g, P g → P2 g) (h1 : fr P z z1) : fr P2 z z1 := fun g hg => h1 g (fun h9 => hg (hP g h9))
theorem fr_I (hh : P h) : fr P z (usI z h i x) := fun g hg => ⟨rfl, if_neg (fun e => hg (by rw [e]; exact hh)), rfl⟩
theorem fr_J {y : Int64} (hh : P h) : fr P z (usJ z h i y) := fun g hg => ⟨rfl, rfl, if_neg (fun e => hg (by rw [e]; exact hh))⟩
theorem fr_F (hh : P h) : fr P z (usF z h x) := fun g hg => ⟨if_neg (fun e => hg (by rw [e]; exact hh)), rfl, rfl⟩
theorem fr_I2 (h1 : fr P z z1) (hh : P h) : fr P z (usI z1 h i x) := fr_tr h1 (fr_I hh)
theorem fr_J2 {y : Int64} (h1 : fr P z z1) (hh : P h) : fr P z (usJ z1 h i y) := fr_tr h1 (fr_J hh)
theorem fr_F2 (h1 : fr P z z1) (hh : P h) : fr P z (usF z1 h x) := fr_tr h1 (fr_F hh)
theorem rd_ot (hg : g ≠ h) (e : z.2.1 g j = y) : (usI z h i x).2.1 g j = y := (congrFun (po_usI_ot hg) j).trans e
theorem rd_ne (hj : j ≠ i) (e : z.2.1 h j = y) : (usI z h i x).2.1 h j = y := (po_usI_ne hj).trans e
theorem rf_ot (hg : g ≠ h) (e : z.1 g = y) : (usF z h x).1 g = y := (po_usF_ot hg).trans e
theorem po_usI_row : (usI z h i x).2.1 h = upd (z.2.1 h) i x := if_pos rfl
end FR
theorem po_netk {n k : Nat} (hn : mw_net n) (hk : k < 1000) : (n + k) / 1000 = n / 1000 := by
  obtain ⟨o, _, rfl⟩ := hn
  omega
theorem po_len {n : Nat} (hn : mw_net n) : (mX.2 (n + 3)).2.1 = 40 ∧ (mX.2 (n + 4)).2.1 = 40 ∧ (mX.2 (n + 5)).2.1 = 40 ∧ (mX.2 (n + 6)).2.1 = 40 ∧ (mX.2 (n + 7)).2.1 = 40 ∧ (mX.2 (n + 8)).2.1 = 40 ∧ (mX.2 (n + 9)).2.1 = 40 ∧ (mX.2 (n + 10)).2.1 = 40 ∧ (mX.2 (n + 11)).2.1 = 40 ∧ (mX.2 (n + 12)).2.1 = 40 ∧ (mX.2 (n + 14)).2.1 = 80 ∧ (mX.2 (n + 15)).2.1 = 80 := by
  obtain ⟨o, ho, rfl⟩ := hn
  have key : ∀ o, o < 18 → ((mX.2 (1000 * (o + 1) + 3)).2.1 = 40 ∧ (mX.2 (1000 * (o + 1) + 4)).2.1 = 40 ∧ (mX.2 (1000 * (o + 1) + 5)).2.1 = 40 ∧ (mX.2 (1000 * (o + 1) + 6)).2.1 = 40 ∧ (mX.2 (1000 * (o + 1) + 7)).2.1 = 40 ∧ (mX.2 (1000 * (o + 1) + 8)).2.1 = 40 ∧ (mX.2 (1000 * (o + 1) + 9)).2.1 = 40 ∧ (mX.2 (1000 * (o + 1) + 10)).2.1 = 40 ∧ (mX.2 (1000 * (o + 1) + 11)).2.1 = 40 ∧ (mX.2 (1000 * (o + 1) + 12)).2.1 = 40 ∧ (mX.2 (1000 * (o + 1) + 14)).2.1 = 80 ∧ (mX.2 (1000 * (o + 1) + 15)).2.1 = 80) := by decide +kernel
  exact key o ho
