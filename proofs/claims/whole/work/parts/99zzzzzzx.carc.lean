/-! the class: the arcs -/
def oM (o : Option Nat) : Int32 := match o with
  | none => -1
  | some l => nI l
def stO (f : Nat → Option Nat) (v l : Nat) : Nat → Option Nat := fun x => if x = v then some l else f x
theorem stO_at {f : Nat → Option Nat} {v l : Nat} : stO f v l v = some l := if_pos rfl
theorem stO_ne {f : Nat → Option Nat} {v l x : Nat} (h : x ≠ v) : stO f v l x = f x := if_neg h
def ucn (f : Nat → Option Nat) : Nat → Nat
  | 0 => 0
  | n + 1 => ucn f n + if f n = none then 1 else 0
theorem ucn_le (f : Nat → Option Nat) : ∀ n, ucn f n ≤ n
  | 0 => Nat.le_refl _
  | n + 1 => by
    have := ucn_le f n
    show ucn f n + _ ≤ n + 1
    split <;> omega
theorem ucn_ge {f : Nat → Option Nat} {v l : Nat} : ∀ n, n ≤ v → ucn (stO f v l) n = ucn f n
  | 0, _ => rfl
  | n + 1, h => by
    show ucn (stO f v l) n + _ = ucn f n + _
    rw [ucn_ge n (by omega), stO_ne (show n ≠ v by omega)]
theorem ucn_st {f : Nat → Option Nat} {v l : Nat} (hv : f v = none) : ∀ n, v < n → ucn (stO f v l) n + 1 = ucn f n
  | 0, h => absurd h (by omega)
  | n + 1, h => by
    show ucn (stO f v l) n + _ + 1 = ucn f n + _
    by_cases e : n = v
    · subst e
      rw [ucn_ge n (Nat.le_refl _), stO_at, hv, if_neg (by simp), if_pos rfl]
    · have := ucn_st (l := l) hv n (by omega)
      rw [stO_ne e]
      omega
theorem ucn_0 {f : Nat → Option Nat} : ∀ n, ucn f n = 0 → ∀ v, v < n → f v ≠ none
  | 0, _, v, h => absurd h (by omega)
  | n + 1, e, v, h => by
    have e : ucn f n + (if f n = none then 1 else 0) = 0 := e
    by_cases h1 : v = n
    · subst h1
      intro h9
      rw [if_pos h9] at e
      omega
    · exact ucn_0 n (by omega) v (by omega)
section ARC
variable {S : ow_NP} {c : Nat} {f : Nat → Option Nat} {q : Nat → Nat}
def ar1 (S : ow_NP) (c k : Nat) (f : Nat → Option Nat) : Prop := (∀ x, x < k → f (2 * x + 1) = some x) ∧ (∀ x, k ≤ x → f (2 * x + 1) = none) ∧ (∀ v l, v < 2 * c → f v = some l → l < k ∧ (S.1 v % 2 = 0 → f (S.1 v) = some l)) ∧ ∀ v l, v < 2 * c → v % 2 = 0 → f v = some l → f (S.2 v) = some l
def ax1 (S : ow_NP) (c k : Nat) (f : Nat → Option Nat) (v : Nat) : Prop := (∀ x, x < k + 1 → f (2 * x + 1) = some x) ∧ (∀ x, k + 1 ≤ x → f (2 * x + 1) = none) ∧ (∀ u l, u < 2 * c → f u = some l → l < k + 1 ∧ (S.1 u % 2 = 0 → f (S.1 u) = some l ∨ (S.1 u = v ∧ l = k))) ∧ (∀ v l, v < 2 * c → v % 2 = 0 → f v = some l → f (S.2 v) = some l) ∧ f (S.2 v) = some k
theorem ax1_0 {k : Nat} (hv : vn c S) (hk : k < c) (h : ar1 S c k f) : ax1 S c k (stO f (2 * k + 1) k) (S.1 (2 * k + 1)) := by
  obtain ⟨a1, a2, a3, a4⟩ := h
  obtain ⟨v1, v2, v3, v4⟩ := hv (2 * k + 1) (by omega)
  have n0 := a2 k (Nat.le_refl _)
  refine ⟨fun x hx => ?_, fun x hx => ?_, fun u l hu hl => ?_, fun u l hu he hl => ?_, ?_⟩
  · by_cases e : x = k
    · rw [e, stO_at]
    · rw [stO_ne (by omega), a1 x (by omega)]
  · rw [stO_ne (by omega), a2 x (by omega)]
  · by_cases e : u = 2 * k + 1
    · rw [e, stO_at] at hl
      injection hl with hl
      subst hl
      exact ⟨by omega, fun _ => Or.inr ⟨by rw [e], rfl⟩⟩
    · rw [stO_ne e] at hl
      obtain ⟨b1, b2⟩ := a3 u l hu hl
      refine ⟨by omega, fun h9 => Or.inl ?_⟩
      rw [stO_ne (by omega)]
      exact b2 h9
  · rw [stO_ne (by omega)] at hl
    have := a4 u l hu he hl
    rw [stO_ne (fun h9 => by rw [h9, n0] at this; cases this)]
    exact this
  · rw [v3, stO_at]
theorem ax1_s {k v : Nat} (hv : vn c S) (hk : v < 2 * c) (he : v % 2 = 0) (hn : f v = none) (h : ax1 S c k f v) : ax1 S c k (stO f v k) (S.1 v) := by
  obtain ⟨a1, a2, a3, a4, a5⟩ := h
  obtain ⟨v1, v2, v3, v4⟩ := hv v hk
  refine ⟨fun x hx => ?_, fun x hx => ?_, fun u l hu hl => ?_, fun u l hu he2 hl => ?_, ?_⟩
  · rw [stO_ne (by omega), a1 x hx]
  · rw [stO_ne (by omega), a2 x hx]
  · by_cases e : u = v
    · rw [e, stO_at] at hl
      injection hl with hl
      subst hl
      exact ⟨by omega, fun _ => Or.inr ⟨by rw [e], rfl⟩⟩
    · rw [stO_ne e] at hl
      obtain ⟨b1, b2⟩ := a3 u l hu hl
      refine ⟨b1, fun h9 => Or.inl ?_⟩
      by_cases e2 : S.1 u = v
      · rw [e2, stO_at]
        rcases b2 h9 with h8 | h8
        · rw [e2, hn] at h8
          cases h8
        · rw [h8.2]
      · rw [stO_ne e2]
        rcases b2 h9 with h8 | h8
        · exact h8
        · exact absurd h8.1 e2
  · by_cases e : u = v
    · rw [e, stO_at] at hl
      injection hl with hl
      subst hl
      rw [e]
      by_cases e2 : S.2 v = v
      · rw [e2, stO_at]
      · rw [stO_ne e2]
        exact a5
    · rw [stO_ne e] at hl
      have := a4 u l hu he2 hl
      rw [stO_ne (fun h9 => by rw [h9, hn] at this; cases this)]
      exact this
  · rw [v3, stO_at]
theorem ax1_e {k v : Nat} (hv : vn c S) (hk : v < 2 * c) (hx : v % 2 = 1 ∨ f v ≠ none) (h : ax1 S c k f v) : ar1 S c (k + 1) f := by
  obtain ⟨a1, a2, a3, a4, a5⟩ := h
  refine ⟨a1, a2, fun u l hu hl => ?_, a4⟩
  obtain ⟨b1, b2⟩ := a3 u l hu hl
  refine ⟨b1, fun h9 => ?_⟩
  rcases b2 h9 with h8 | ⟨h8, h7⟩
  · exact h8
  · rw [h8] at h9 ⊢
    rcases hx with hx | hx
    · omega
    · cases hf : f v with
      | none => exact absurd hf hx
      | some l' =>
        have := a4 v l' hk h9 hf
        rw [a5] at this
        rw [h7]
        exact this.symm
/-- both ways closed; the rings without visits under have labels of their own -/
def ar2 (S : ow_NP) (c : Nat) (q : Nat → Nat) (s : Nat) (U : List Nat) (f : Nat → Option Nat) : Prop := (∀ x, x < c → f (2 * x + 1) = some x) ∧ (∀ v l, v < 2 * c → f v = some l → l < c + U.length ∧ (∃ l', f (S.1 v) = some l') ∧ (S.1 v % 2 = 0 → f (S.1 v) = some l)) ∧ (∀ v l, v < 2 * c → v % 2 = 0 → f v = some l → f (S.2 v) = some l) ∧ (∀ v, v < 2 * c → f v ≠ none → f (S.2 v) ≠ none) ∧ (U.Nodup ∧ (∀ r, r ∈ U → ∃ v, v < 2 * c ∧ q v = r) ∧ (∀ v l, v < 2 * c → f v = some l → c ≤ l → U[l - c]? = some (q v)) ∧ ∀ v, v < 2 * c → q v ∈ U → f v ≠ none) ∧ ∀ v, v < 2 * c → v < s → v % 2 = 0 → f v ≠ none
theorem clo_it (hv : vn c S) (h : ∀ v, v < 2 * c → f v ≠ none → f (S.1 v) ≠ none) {v : Nat} (hv2 : v < 2 * c) (h0 : f v ≠ none) : ∀ i, f (it S.1 i v) ≠ none
  | 0 => h0
  | i + 1 => by
    have := clo_it hv h hv2 h0 i
    have e : it S.1 (i + 1) v = S.1 (it S.1 i v) := by
      rw [Nat.add_comm, it_add]
      rfl
    rw [e]
    exact h _ (it_lt hv hv2 i) this
theorem clo_pv (hv : vn c S) (h : ∀ v, v < 2 * c → f v ≠ none → f (S.1 v) ≠ none) {v : Nat} (hv2 : v < 2 * c) (h0 : f v ≠ none) : f (S.2 v) ≠ none := by
  obtain ⟨m, hm, hr⟩ := ring_ex hv hv2
  obtain ⟨m1, rfl⟩ : ∃ m1, m = m1 + 1 := ⟨m - 1, by have := hr.1; omega⟩
  have e : it S.1 (m1 + 1) v = S.1 (it S.1 m1 v) := by
    rw [Nat.add_comm, it_add]
    rfl
  have e2 : S.1 (it S.1 m1 v) = v := by
    rw [← e]
    exact hr.2.1
  have e3 : S.2 v = it S.1 m1 v := by
    rw [← (hv _ (it_lt hv hv2 m1)).2.2.1, e2]
  rw [e3]
  exact clo_it hv h hv2 h0 m1
theorem ar2_0 (hv : vn c S) (h : ar1 S c c f) : ar2 S c q 0 [] f := by
  obtain ⟨a1, a2, a3, a4⟩ := h
  have nx : ∀ v l, v < 2 * c → f v = some l → ∃ l', f (S.1 v) = some l' := by
    intro v l hv2 hl
    obtain ⟨v1, -, -, -⟩ := hv v hv2
    by_cases e : S.1 v % 2 = 0
    · exact ⟨l, (a3 v l hv2 hl).2 e⟩
    · refine ⟨S.1 v / 2, ?_⟩
      have := a1 (S.1 v / 2) (by omega)
      rw [show 2 * (S.1 v / 2) + 1 = S.1 v by omega] at this
      exact this
  refine ⟨a1, fun v l hv2 hl => ⟨by have := (a3 v l hv2 hl).1; rw [List.length_nil]; omega, nx v l hv2 hl, (a3 v l hv2 hl).2⟩, a4, fun v hv2 h0 => clo_pv hv (fun u hu h9 => ?_) hv2 h0, ⟨List.nodup_nil, fun r hr => (by cases hr), fun v l hv2 hl h9 => ?_, fun v _ h9 => (by cases h9)⟩, fun v _ h9 => absurd h9 (by omega)⟩
  · cases hf : f u with
    | none => exact absurd hf h9
    | some l =>
      obtain ⟨l', e⟩ := nx u l hu hf
      rw [e]
      simp
  · have := (a3 v l hv2 hl).1
    omega
def ax2 (S : ow_NP) (c : Nat) (q : Nat → Nat) (s : Nat) (U : List Nat) (f : Nat → Option Nat) (v : Nat) : Prop := (∀ x, x < c → f (2 * x + 1) = some x) ∧ (∀ u l, u < 2 * c → f u = some l → l < c + U.length + 1 ∧ ((∃ l', f (S.1 u) = some l') ∧ (S.1 u % 2 = 0 → f (S.1 u) = some l) ∨ S.1 u = v ∧ l = c + U.length)) ∧ (∀ x l, x < 2 * c → x % 2 = 0 → f x = some l → f (S.2 x) = some l ∨ x = s) ∧ (∀ x, x < 2 * c → f x ≠ none → f (S.2 x) ≠ none ∨ x = s) ∧ (U.Nodup ∧ (∀ r, r ∈ U → ∃ v, v < 2 * c ∧ q v = r) ∧ (∀ v l, v < 2 * c → f v = some l → c ≤ l → l < c + U.length → U[l - c]? = some (q v)) ∧ (∀ v, v < 2 * c → f v = some (c + U.length) → q v = q s) ∧ (∀ v, v < 2 * c → q v ∈ U → f v ≠ none) ∧ q s ∉ U) ∧ (∀ v, v < 2 * c → v < s → v % 2 = 0 → f v ≠ none) ∧ (f (S.2 v) = some (c + U.length) ∧ f s = some (c + U.length) ∧ (f v = none ∨ v = s) ∧ q v = q s)
theorem ax2_0 {s : Nat} {U : List Nat} (hv : vn c S) (hq : ∀ v, v < 2 * c → q (S.1 v) = q v) (hs : s < 2 * c) (he : s % 2 = 0) (hn : f s = none) (h : ar2 S c q s U f) : ax2 S c q s U (stO f s (c + U.length)) (S.1 s) := by
  obtain ⟨a1, a2, a3, a4, ⟨u1, u2, u3, u4⟩, a6⟩ := h
  obtain ⟨v1, v2, v3, v4⟩ := hv s hs
  have ss : ∀ x, x < 2 * c → x ≠ s → f x ≠ none → S.2 x ≠ s := by
    intro x hx _ h0 e
    have := a4 x hx h0
    rw [e] at this
    exact this hn
  refine ⟨fun x hx => ?_, fun u l hu hl => ?_, fun x l hx hx2 hl => ?_, fun x hx h0 => ?_, ⟨u1, u2, fun v l hv2 hl h1 h2 => ?_, fun v hv2 hl => ?_, fun v hv2 hm => ?_, fun hm => u4 s hs hm hn⟩, fun v hv2 h1 h2 => ?_, ?_, stO_at, ?_, hq s hs⟩
  · rw [stO_ne (by omega), a1 x hx]
  · by_cases e : u = s
    · rw [e, stO_at] at hl
      injection hl with hl
      exact ⟨by omega, Or.inr ⟨by rw [e], hl.symm⟩⟩
    · rw [stO_ne e] at hl
      obtain ⟨b1, ⟨l', b2⟩, b3⟩ := a2 u l hu hl
      have hne : S.1 u ≠ s := fun h9 => by
        rw [h9, hn] at b2
        cases b2
      refine ⟨by omega, Or.inl ⟨⟨l', by rw [stO_ne hne]; exact b2⟩, fun h9 => by rw [stO_ne hne]; exact b3 h9⟩⟩
  · by_cases e : x = s
    · exact Or.inr e
    · rw [stO_ne e] at hl
      refine Or.inl ?_
      rw [stO_ne (ss x hx e (by rw [hl]; simp))]
      exact a3 x l hx hx2 hl
  · by_cases e : x = s
    · exact Or.inr e
    · rw [stO_ne e] at h0
      refine Or.inl ?_
      rw [stO_ne (ss x hx e h0)]
      exact a4 x hx h0
  · by_cases e : v = s
    · rw [e, stO_at] at hl
      injection hl with hl
      omega
    · rw [stO_ne e] at hl
      exact u3 v l hv2 hl h1
  · by_cases e : v = s
    · rw [e]
    · rw [stO_ne e] at hl
      have := (a2 v _ hv2 hl).1
      omega
  · by_cases e : v = s
    · rw [e, stO_at]
      simp
    · rw [stO_ne e]
      exact u4 v hv2 hm
  · rw [stO_ne (by omega)]
    exact a6 v hv2 h1 h2
  · rw [v3, stO_at]
  · by_cases e : S.1 s = s
    · exact Or.inr e
    · refine Or.inl ?_
      rw [stO_ne e]
      cases hf : f (S.1 s) with
      | none => rfl
      | some l =>
        have := a4 (S.1 s) v1 (by rw [hf]; simp)
        rw [v3] at this
        exact absurd hn this
theorem ax2_s {s v : Nat} {U : List Nat} (hv : vn c S) (hq : ∀ v, v < 2 * c → q (S.1 v) = q v) (hs : s < 2 * c) (hvc : v < 2 * c) (hn : f v = none) (h : ax2 S c q s U f v) : ax2 S c q s U (stO f v (c + U.length)) (S.1 v) := by
  obtain ⟨a1, a2, a3, a4, ⟨u1, u2, u3, u4, u5, u6⟩, a6, a7, a8, a9, a10⟩ := h
  obtain ⟨v1, v2, v3, v4⟩ := hv v hvc
  have hvs : v ≠ s := fun e => by rw [e, a8] at hn; cases hn
  have hodd : v % 2 = 0 := by
    rcases Nat.mod_two_eq_zero_or_one v with h9 | h9
    · exact h9
    · have := a1 (v / 2) (by omega)
      rw [show 2 * (v / 2) + 1 = v by omega, hn] at this
      cases this
  have h2v : S.2 v ≠ v := fun e => by rw [e, hn] at a7; cases a7
  refine ⟨fun x hx => ?_, fun u l hu hl => ?_, fun x l hx hx2 hl => ?_, fun x hx h0 => ?_, ⟨u1, u2, fun w l hw hl h1 h2 => ?_, fun w hw hl => ?_, fun w hw hm => ?_, u6⟩, fun w hw h1 h2 => ?_, ?_, ?_, ?_, ?_⟩
  · rw [stO_ne (by omega), a1 x hx]
  · by_cases e : u = v
    · rw [e, stO_at] at hl
      injection hl with hl
      exact ⟨by omega, Or.inr ⟨by rw [e], hl.symm⟩⟩
    · rw [stO_ne e] at hl
      obtain ⟨b1, b2⟩ := a2 u l hu hl
      refine ⟨b1, Or.inl ?_⟩
      by_cases e2 : S.1 u = v
      · rw [e2, stO_at]
        rcases b2 with ⟨⟨l', b3⟩, -⟩ | ⟨-, b3⟩
        · rw [e2, hn] at b3
          cases b3
        · exact ⟨⟨_, rfl⟩, fun _ => by rw [b3]⟩
      · rw [stO_ne e2]
        rcases b2 with b2 | b2
        · exact b2
        · exact absurd b2.1 e2
  · by_cases e : x = v
    · rw [e, stO_at] at hl
      rw [e, stO_ne h2v, a7]
      exact Or.inl hl
    · rw [stO_ne e] at hl
      rcases a3 x l hx hx2 hl with h9 | h9
      · refine Or.inl ?_
        rw [stO_ne (fun e9 => by rw [e9, hn] at h9; cases h9)]
        exact h9
      · exact Or.inr h9
  · by_cases e : x = v
    · rw [e, stO_ne h2v, a7]
      exact Or.inl (by simp)
    · rw [stO_ne e] at h0
      rcases a4 x hx h0 with h9 | h9
      · refine Or.inl ?_
        rw [stO_ne (fun e9 => by rw [e9] at h9; exact h9 hn)]
        exact h9
      · exact Or.inr h9
  · by_cases e : w = v
    · rw [e, stO_at] at hl
      injection hl with hl
      omega
    · rw [stO_ne e] at hl
      exact u3 w l hw hl h1 h2
  · by_cases e : w = v
    · rw [e]
      exact a10
    · rw [stO_ne e] at hl
      exact u4 w hw hl
  · by_cases e : w = v
    · rw [e, stO_at]
      simp
    · rw [stO_ne e]
      exact u5 w hw hm
  · by_cases e : w = v
    · rw [e, stO_at]
      simp
    · rw [stO_ne e]
      exact a6 w hw h1 h2
  · rw [v3, stO_at]
  · rw [stO_ne (fun e => hvs e.symm)]
    exact a8
  · by_cases e : S.1 v = s
    · exact Or.inr e
    · refine Or.inl ?_
      have hne : S.1 v ≠ v := fun e9 => h2v (by rw [← e9, v3, e9])
      rw [stO_ne hne]
      cases hf : f (S.1 v) with
      | none => rfl
      | some l =>
        rcases a4 (S.1 v) v1 (by rw [hf]; simp) with h9 | h9
        · rw [v3] at h9
          exact absurd hn h9
        · exact absurd h9 e
  · rw [hq v hvc]
    exact a10
theorem ax2_e {s v : Nat} {U : List Nat} (hv : vn c S) (hr : ∀ v w, v < 2 * c → w < 2 * c → q v = q w → ∃ i, it S.1 i v = w) (hs : s < 2 * c) (he : s % 2 = 0) (hn : f v ≠ none) (h : ax2 S c q s U f v) : ar2 S c q (s + 2) (U ++ [q s]) f := by
  obtain ⟨a1, a2, a3, a4, ⟨u1, u2, u3, u4, u5, u6⟩, a6, a7, a8, a9, a10⟩ := h
  have hvs : v = s := a9.resolve_left hn
  subst hvs
  obtain ⟨v1, v2, v3, v4⟩ := hv v hs
  have nx : ∀ u l, u < 2 * c → f u = some l → (∃ l', f (S.1 u) = some l') ∧ (S.1 u % 2 = 0 → f (S.1 u) = some l) := by
    intro u l hu hl
    rcases (a2 u l hu hl).2 with b2 | ⟨b2, b3⟩
    · exact b2
    · rw [b2, a8, b3]
      exact ⟨⟨_, rfl⟩, fun _ => rfl⟩
  have nz : ∀ u, u < 2 * c → f u ≠ none → f (S.1 u) ≠ none := by
    intro u hu h9
    cases hf : f u with
    | none => exact absurd hf h9
    | some l =>
      obtain ⟨⟨l', e⟩, -⟩ := nx u l hu hf
      rw [e]
      simp
  refine ⟨a1, fun u l hu hl => ⟨by have := (a2 u l hu hl).1; rw [List.length_append, List.length_singleton]; omega, nx u l hu hl⟩, fun x l hx hx2 hl => ?_, fun x hx h0 => ?_, ⟨?_, fun r hr2 => ?_, fun w l hw hl h1 => ?_, fun w hw hm => ?_⟩, fun w hw h1 h2 => ?_⟩
  · rcases a3 x l hx hx2 hl with h9 | h9
    · exact h9
    · rw [h9, a8] at hl
      rw [h9, a7]
      exact hl
  · rcases a4 x hx h0 with h9 | h9
    · exact h9
    · rw [h9, a7]
      simp
  · rw [List.nodup_append]
    refine ⟨u1, List.pairwise_singleton _ _, fun a ha b hb e => ?_⟩
    rw [List.mem_singleton] at hb
    rw [e, hb] at ha
    exact u6 ha
  · rcases List.mem_append.mp hr2 with h9 | h9
    · exact u2 r h9
    · rw [List.mem_singleton] at h9
      exact ⟨v, hs, h9.symm⟩
  · rcases Nat.lt_or_ge l (c + U.length) with h2 | h2
    · rw [List.getElem?_append_left (by omega)]
      exact u3 w l hw hl h1 h2
    · have : l = c + U.length := by
        have := (a2 w l hw hl).1
        omega
      subst this
      rw [List.getElem?_append_right (by omega), u4 w hw hl, show c + U.length - c - U.length = 0 by omega]
      rfl
  · rcases List.mem_append.mp hm with h9 | h9
    · exact u5 w hw h9
    · rw [List.mem_singleton] at h9
      obtain ⟨i, hi⟩ := hr v w hs hw h9.symm
      rw [← hi]
      exact clo_it hv nz hs hn i
  · by_cases e : w = v
    · rw [e]
      exact hn
    · exact a6 w hw (by omega) h2
theorem ar2_k {s : Nat} {U : List Nat} (hn : s < 2 * c → f s ≠ none) (h : ar2 S c q s U f) (he : s % 2 = 0) : ar2 S c q (s + 2) U f := by
  obtain ⟨a1, a2, a3, a4, a5, a6⟩ := h
  refine ⟨a1, a2, a3, a4, a5, fun w hw h1 h2 => ?_⟩
  by_cases e : w = s
  · rw [e]
    exact hn (by omega)
  · exact a6 w hw (by omega) h2
end ARC
