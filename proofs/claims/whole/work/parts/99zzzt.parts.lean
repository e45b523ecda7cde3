/-! classes of ends: partitions by labels -/
/-- how many classes a label makes of the numbers below V -/
def cN (V : Nat) (L : Nat → Nat) : Nat := ((List.range V).filter (fun x => decide (∀ y, y < x → L y ≠ L x))).length
theorem cN_rep {V : Nat} {L : Nat → Nat} : ∀ x, x < V → ∃ r, r ∈ (List.range V).filter (fun x => decide (∀ y, y < x → L y ≠ L x)) ∧ L r = L x := by
  intro x
  induction x using Nat.strongRecOn with
  | ind x ih =>
  intro hx
  by_cases h : ∀ y, y < x → L y ≠ L x
  · exact ⟨x, List.mem_filter.mpr ⟨List.mem_range.mpr hx, decide_eq_true h⟩, rfl⟩
  · obtain ⟨y, hy⟩ := Classical.not_forall.mp h
    obtain ⟨hy1, hy2⟩ := Classical.not_imp.mp hy
    have hy2 : L y = L x := Classical.not_not.mp hy2
    obtain ⟨r, h1, h2⟩ := ih y hy1 (by omega)
    exact ⟨r, h1, h2.trans hy2⟩
theorem cN_dLe {V : Nat} {L : Nat → Nat} : dLe V L (cN V L) := by
  refine ⟨((List.range V).filter (fun x => decide (∀ y, y < x → L y ≠ L x))).map L, by rw [List.length_map]; exact Nat.le_refl _, fun x hx => ?_⟩
  obtain ⟨r, h1, h2⟩ := cN_rep (L := L) x hx
  rw [← h2]
  exact List.mem_map.mpr ⟨r, h1, rfl⟩
theorem cN_le {V k : Nat} {L : Nat → Nat} (h : dLe V L k) : cN V L ≤ k := by
  obtain ⟨R, h1, h2⟩ := h
  have hn : (((List.range V).filter (fun x => decide (∀ y, y < x → L y ≠ L x))).map L).Nodup := by
    refine nodup_map (List.nodup_range.filter _) (fun i j hi hj e => ?_)
    have hi := of_decide_eq_true (List.mem_filter.mp hi).2
    have hj := of_decide_eq_true (List.mem_filter.mp hj).2
    rcases Nat.lt_trichotomy i j with h9 | h9 | h9
    · exact absurd e (hj i h9)
    · exact h9
    · exact absurd e.symm (hi j h9)
  have := nodup_le _ R hn (fun a ha => by
    obtain ⟨x, hx, e⟩ := List.mem_map.mp ha
    rw [← e]
    exact h2 x (List.mem_range.mp (List.mem_filter.mp hx).1))
  rw [List.length_map] at this
  exact Nat.le_trans this h1
/-- a coarser label makes no more classes -/
theorem cN_mono {V : Nat} {L K : Nat → Nat} (h : ∀ x y, x < V → y < V → L x = L y → K x = K y) : cN V K ≤ cN V L := by
  refine cN_le ⟨((List.range V).filter (fun x => decide (∀ y, y < x → L y ≠ L x))).map K, by rw [List.length_map]; exact Nat.le_refl _, fun x hx => ?_⟩
  obtain ⟨r, h1, h2⟩ := cN_rep (L := L) x hx
  rw [← h r x (List.mem_range.mp (List.mem_filter.mp h1).1) hx h2]
  exact List.mem_map.mpr ⟨r, h1, rfl⟩
theorem cN_eq {V : Nat} {L K : Nat → Nat} (h : ∀ x y, x < V → y < V → (L x = L y ↔ K x = K y)) : cN V K = cN V L := Nat.le_antisymm (cN_mono (fun x y hx hy => (h x y hx hy).mp)) (cN_mono (fun x y hx hy => (h x y hx hy).mpr))
/-- two classes become one -/
theorem cN_mg {V a b : Nat} {L : Nat → Nat} (ha : a < V) (hb : b < V) (hne : L a ≠ L b) : cN V (fun x => if L x = L a then L b else L x) + 1 = cN V L := by
  have h1 : cN V L ≤ cN V (fun x => if L x = L a then L b else L x) + 1 := by
    obtain ⟨R, r1, r2⟩ := cN_dLe (V := V) (L := fun x => if L x = L a then L b else L x)
    refine cN_le ⟨L a :: R, by rw [List.length_cons]; omega, fun x hx => ?_⟩
    have := r2 x hx
    by_cases h9 : L x = L a
    · rw [h9]; exact List.mem_cons_self
    · have this : (if L x = L a then L b else L x) ∈ R := this
      rw [if_neg h9] at this
      exact List.mem_cons_of_mem _ this
  have h2 : cN V (fun x => if L x = L a then L b else L x) ≤ cN V L - 1 := by
    obtain ⟨R, r1, r2⟩ := cN_dLe (V := V) (L := L)
    have hm := r2 a ha
    refine cN_le ⟨R.erase (L a), by rw [List.length_erase_of_mem hm]; omega, fun x hx => ?_⟩
    show (if L x = L a then L b else L x) ∈ R.erase (L a)
    by_cases h9 : L x = L a
    · rw [if_pos h9]
      exact (List.mem_erase_of_ne (fun e => hne e.symm)).mpr (r2 b hb)
    · rw [if_neg h9]
      exact (List.mem_erase_of_ne h9).mpr (r2 x hx)
  have h3 : 0 < cN V L := by
    obtain ⟨r, k1, -⟩ := cN_rep (L := L) a ha
    exact List.length_pos_of_mem k1
  omega
/-- the label of a list of joins is the finest one -/
theorem mgL_min {K : Nat → Nat} : ∀ (E : List (Nat × Nat)) (L : Nat → Nat), (∀ x y, L x = L y → K x = K y) → (∀ a b, (a, b) ∈ E → K a = K b) → ∀ x y, mgL L E x = mgL L E y → K x = K y
  | [], L, h1, _, x, y, e => h1 x y e
  | (a, b) :: E, L, h1, h2, x, y, e => by
    have hab := h2 a b List.mem_cons_self
    refine mgL_min E (fun x => if L x = L a then L b else L x) (fun x y e => ?_) (fun a b h => h2 a b (List.mem_cons_of_mem _ h)) x y e
    have e : (if L x = L a then L b else L x) = if L y = L a then L b else L y := e
    by_cases hx : L x = L a
    · rw [if_pos hx] at e
      by_cases hy : L y = L a
      · exact h1 x y (hx.trans hy.symm)
      · rw [if_neg hy] at e
        rw [h1 x a hx, hab]
        exact h1 b y e
    · rw [if_neg hx] at e
      by_cases hy : L y = L a
      · rw [if_pos hy] at e
        rw [h1 y a hy, hab]
        exact h1 x b e
      · rw [if_neg hy] at e
        exact h1 x y e
/-! crossings with four ends, and modes: 0 nothing is joined, 1 along, 2 the other way, 3 both -/
section MODE
variable {A B C D : Nat → Nat} {c V : Nat}
abbrev En4 := (Nat → Nat) × (Nat → Nat) × (Nat → Nat) × (Nat → Nat)
def prs (q : En4) (x k : Nat) : List (Nat × Nat) := (if k = 1 ∨ k = 3 then [(q.1 x, q.2.2.2 x), (q.2.2.1 x, q.2.1 x)] else []) ++ if k = 2 ∨ k = 3 then [(q.1 x, q.2.2.1 x), (q.2.1 x, q.2.2.2 x)] else []
def eL (q : En4) (m : Nat → Nat) : Nat → List (Nat × Nat)
  | 0 => []
  | x + 1 => eL q m x ++ prs q x (m x)
def lab (q : En4) (c : Nat) (m : Nat → Nat) : Nat → Nat := mgL (fun x => x) (eL q m c)
def sat (q : En4) (c : Nat) (m K : Nat → Nat) : Prop := ∀ x, x < c → ((m x = 1 ∨ m x = 3) → K (q.1 x) = K (q.2.2.2 x) ∧ K (q.2.2.1 x) = K (q.2.1 x)) ∧ ((m x = 2 ∨ m x = 3) → K (q.1 x) = K (q.2.2.1 x) ∧ K (q.2.1 x) = K (q.2.2.2 x))
theorem eL_mem {q : En4} {m : Nat → Nat} {p : Nat × Nat} : ∀ {c : Nat}, p ∈ eL q m c ↔ ∃ x, x < c ∧ p ∈ prs q x (m x)
  | 0 => ⟨fun h => (by cases h), fun ⟨x, h, _⟩ => absurd h (by omega)⟩
  | c + 1 => by
    show p ∈ eL q m c ++ prs q c (m c) ↔ _
    rw [List.mem_append, eL_mem (c := c)]
    constructor
    · rintro (⟨x, h1, h2⟩ | h)
      · exact ⟨x, by omega, h2⟩
      · exact ⟨c, by omega, h⟩
    · rintro ⟨x, h1, h2⟩
      by_cases hx : x = c
      · rw [hx] at h2; exact Or.inr h2
      · exact Or.inl ⟨x, by omega, h2⟩
theorem lab_sat {q : En4} {m : Nat → Nat} : sat q c m (lab q c m) := by
  intro x hx
  have key : ∀ p, p ∈ prs q x (m x) → lab q c m p.1 = lab q c m p.2 := fun p hp => mgL_m _ _ p.1 p.2 (eL_mem.mpr ⟨x, hx, hp⟩)
  refine ⟨fun h => ?_, fun h => ?_⟩
  · have h1 := key (q.1 x, q.2.2.2 x) (by unfold prs; rw [if_pos h]; exact List.mem_append_left _ List.mem_cons_self)
    have h2 := key (q.2.2.1 x, q.2.1 x) (by unfold prs; rw [if_pos h]; exact List.mem_append_left _ (List.mem_cons_of_mem _ List.mem_cons_self))
    exact ⟨h1, h2⟩
  · have h1 := key (q.1 x, q.2.2.1 x) (by unfold prs; rw [if_pos h]; exact List.mem_append_right _ List.mem_cons_self)
    have h2 := key (q.2.1 x, q.2.2.2 x) (by unfold prs; rw [if_pos h]; exact List.mem_append_right _ (List.mem_cons_of_mem _ List.mem_cons_self))
    exact ⟨h1, h2⟩
theorem lab_min {q : En4} {m K : Nat → Nat} (h : sat q c m K) {x y : Nat} (e : lab q c m x = lab q c m y) : K x = K y := by
  refine mgL_min (K := K) (eL q m c) (fun x => x) (fun x y e => by rw [show x = y from e]) (fun a b hab => ?_) x y e
  obtain ⟨t, ht, hp⟩ := eL_mem.mp hab
  obtain ⟨s1, s2⟩ := h t ht
  unfold prs at hp
  rcases List.mem_append.mp hp with hp | hp
  · by_cases h9 : m t = 1 ∨ m t = 3
    · rw [if_pos h9] at hp
      rcases List.mem_cons.mp hp with hp | hp
      · obtain ⟨rfl, rfl⟩ := Prod.mk.inj hp
        exact (s1 h9).1
      · obtain ⟨rfl, rfl⟩ := Prod.mk.inj (List.mem_singleton.mp hp)
        exact (s1 h9).2
    · rw [if_neg h9] at hp
      cases hp
  · by_cases h9 : m t = 2 ∨ m t = 3
    · rw [if_pos h9] at hp
      rcases List.mem_cons.mp hp with hp | hp
      · obtain ⟨rfl, rfl⟩ := Prod.mk.inj hp
        exact (s2 h9).1
      · obtain ⟨rfl, rfl⟩ := Prod.mk.inj (List.mem_singleton.mp hp)
        exact (s2 h9).2
    · rw [if_neg h9] at hp
      cases hp
/-- the count of classes does not hang on how the joins are written -/
theorem lab_cN {q : En4} {m n : Nat → Nat} (h1 : sat q c m (lab q c n)) (h2 : sat q c n (lab q c m)) : cN V (lab q c m) = cN V (lab q c n) := cN_eq (fun x y _ _ => ⟨fun e => lab_min h2 e, fun e => lab_min h1 e⟩)
def upm (m : Nat → Nat) (j k : Nat) : Nat → Nat := fun x => if x = j then k else m x
/-- each label stands at an even number of ends -/
def evn (q : En4) (c : Nat) : Prop := ∀ (K : Nat → Nat) (j : Nat), j < c → (∀ x, x < c → x ≠ j → (K (q.1 x) = K (q.2.2.2 x) ∧ K (q.2.2.1 x) = K (q.2.1 x)) ∨ (K (q.1 x) = K (q.2.2.1 x) ∧ K (q.2.1 x) = K (q.2.2.2 x))) → (K (q.1 j) = K (q.2.1 j) ∧ K (q.2.2.1 j) = K (q.2.2.2 j)) ∨ (K (q.1 j) = K (q.2.2.1 j) ∧ K (q.2.1 j) = K (q.2.2.2 j)) ∨ (K (q.1 j) = K (q.2.2.2 j) ∧ K (q.2.1 j) = K (q.2.2.1 j))
def ends (q : En4) (c V : Nat) : Prop := ∀ x, x < c → q.1 x < V ∧ q.2.1 x < V ∧ q.2.2.1 x < V ∧ q.2.2.2 x < V
/-- all crossings but j are joined somehow -/
def full (c : Nat) (m : Nat → Nat) : Prop := ∀ x, x < c → m x = 1 ∨ m x = 2 ∨ m x = 3
theorem sat_up {q : En4} {m K : Nat → Nat} {j k : Nat} (hj : j < c) (h : sat q c (upm m j 0) K) (h1 : (k = 1 ∨ k = 3) → K (q.1 j) = K (q.2.2.2 j) ∧ K (q.2.2.1 j) = K (q.2.1 j)) (h2 : (k = 2 ∨ k = 3) → K (q.1 j) = K (q.2.2.1 j) ∧ K (q.2.1 j) = K (q.2.2.2 j)) : sat q c (upm m j k) K := by
  intro x hx
  by_cases hxj : x = j
  · rw [hxj]
    unfold upm
    rw [if_pos rfl]
    exact ⟨h1, h2⟩
  · have := h x hx
    unfold upm at this ⊢
    rw [if_neg hxj] at this ⊢
    exact this
theorem sat_dn {q : En4} {m K : Nat → Nat} {j k : Nat} (h : sat q c (upm m j k) K) : sat q c (upm m j 0) K := by
  intro x hx
  by_cases hxj : x = j
  · unfold upm
    rw [if_pos hxj]
    exact ⟨fun h9 => absurd h9 (by omega), fun h9 => absurd h9 (by omega)⟩
  · have := h x hx
    unfold upm at this ⊢
    rw [if_neg hxj] at this ⊢
    exact this
theorem upm_at {m : Nat → Nat} {j k : Nat} : upm m j k j = k := if_pos rfl
/-- three kinds of crossings: at an ordinary one both ways join as both together; at the others one way joins so, and the other one makes one class more, whatever the finer joins are -/
theorem kinds {q : En4} {m : Nat → Nat} {j : Nat} (hj : j < c) (hE : ends q c V) (hev : evn q c) (hm : full c m) : (cN V (lab q c (upm m j 1)) = cN V (lab q c (upm m j 3)) ∧ cN V (lab q c (upm m j 2)) = cN V (lab q c (upm m j 3))) ∨ (cN V (lab q c (upm m j 1)) = cN V (lab q c (upm m j 3)) ∧ ∀ n, full c n → (∀ K, sat q c (upm m j 0) K → sat q c (upm n j 0) K) → cN V (lab q c (upm n j 2)) = cN V (lab q c (upm n j 1)) + 1) ∨ (cN V (lab q c (upm m j 2)) = cN V (lab q c (upm m j 3)) ∧ ∀ n, full c n → (∀ K, sat q c (upm m j 0) K → sat q c (upm n j 0) K) → cN V (lab q c (upm n j 1)) = cN V (lab q c (upm n j 2)) + 1) := by
  have tri : ∀ (n : Nat → Nat), full c n → ∀ K, sat q c (upm n j 0) K → (K (q.1 j) = K (q.2.1 j) ∧ K (q.2.2.1 j) = K (q.2.2.2 j)) ∨ (K (q.1 j) = K (q.2.2.1 j) ∧ K (q.2.1 j) = K (q.2.2.2 j)) ∨ (K (q.1 j) = K (q.2.2.2 j) ∧ K (q.2.1 j) = K (q.2.2.1 j)) := by
    intro n hn K hK
    refine hev K j hj (fun x hx hxj => ?_)
    have h1 := hK x hx
    unfold upm at h1
    rw [if_neg hxj] at h1
    rcases hn x hx with h9 | h9 | h9
    · exact Or.inl (h1.1 (Or.inl h9))
    · exact Or.inr (h1.2 (Or.inl h9))
    · exact Or.inl (h1.1 (Or.inr h9))
  obtain ⟨eA, eB, eC, eD⟩ := hE j hj
  let R := lab q c (upm m j 0)
  -- what is joined in R is joined in all that is coarser
  have cor : ∀ {k : Nat} {x y : Nat}, R x = R y → lab q c (upm m j k) x = lab q c (upm m j k) y := fun e => lab_min (sat_dn lab_sat) e
  have w1 : ∀ {k : Nat}, lab q c (upm m j k) (q.1 j) = lab q c (upm m j k) (q.2.2.2 j) → lab q c (upm m j k) (q.2.2.1 j) = lab q c (upm m j k) (q.2.1 j) → lab q c (upm m j k) (q.1 j) = lab q c (upm m j k) (q.2.2.1 j) → lab q c (upm m j k) (q.2.1 j) = lab q c (upm m j k) (q.2.2.2 j) → cN V (lab q c (upm m j k)) = cN V (lab q c (upm m j 3)) ∨ k = 0 := by
    intro k g1 g2 g3 g4
    by_cases hk : k = 0
    · exact Or.inr hk
    · refine Or.inl (lab_cN (sat_up hj (sat_dn lab_sat) (fun _ => ?_) (fun _ => ?_)) (sat_up hj (sat_dn lab_sat) (fun _ => ⟨g1, g2⟩) (fun _ => ⟨g3, g4⟩)))
      · have := (lab_sat (q := q) (c := c) (m := upm m j 3) j hj).1 (by rw [upm_at]; exact Or.inr rfl)
        exact this
      · have := (lab_sat (q := q) (c := c) (m := upm m j 3) j hj).2 (by rw [upm_at]; exact Or.inr rfl)
        exact this
  have k1 := (lab_sat (q := q) (c := c) (m := upm m j 1) j hj).1 (by rw [upm_at]; exact Or.inl rfl)
  have k2 := (lab_sat (q := q) (c := c) (m := upm m j 2) j hj).2 (by rw [upm_at]; exact Or.inl rfl)
  -- one way adds nothing, the other one joins two classes
  have split : ∀ (n : Nat → Nat) (k k' : Nat), full c n → (k = 1 ∧ k' = 2 ∨ k = 2 ∧ k' = 1) → (k' = 2 → lab q c (upm n j 0) (q.1 j) = lab q c (upm n j 0) (q.2.2.1 j) ∧ lab q c (upm n j 0) (q.2.1 j) = lab q c (upm n j 0) (q.2.2.2 j)) → (k' = 1 → lab q c (upm n j 0) (q.1 j) = lab q c (upm n j 0) (q.2.2.2 j) ∧ lab q c (upm n j 0) (q.2.1 j) = lab q c (upm n j 0) (q.2.2.1 j)) → lab q c (upm n j 0) (q.1 j) ≠ lab q c (upm n j 0) (q.2.1 j) → cN V (lab q c (upm n j k')) = cN V (lab q c (upm n j k)) + 1 := by
    intro n k k' hn hk h2 h1 hne
    let R := lab q c (upm n j 0)
    have e1 : cN V (lab q c (upm n j k')) = cN V R := by
      refine lab_cN (sat_up hj (lab_sat (m := upm n j 0)) (fun h9 => ?_) (fun h9 => ?_)) (sat_dn lab_sat)
      · have : k' = 1 := by omega
        exact ⟨(h1 this).1, (h1 this).2.symm⟩
      · have : k' = 2 := by omega
        exact h2 this
    have e2 : cN V (lab q c (upm n j k)) + 1 = cN V R := by
      rw [← cN_mg (L := R) eA eB hne]
      congr 1
      have s1 : sat q c (upm n j k) (fun x => if R x = R (q.1 j) then R (q.2.1 j) else R x) := by
        refine sat_up hj (fun x hx => ?_) (fun h9 => ?_) (fun h9 => ?_)
        · obtain ⟨s1, s2⟩ := lab_sat (q := q) (c := c) (m := upm n j 0) x hx
          have s1 : _ → R (q.1 x) = R (q.2.2.2 x) ∧ R (q.2.2.1 x) = R (q.2.1 x) := s1
          have s2 : _ → R (q.1 x) = R (q.2.2.1 x) ∧ R (q.2.1 x) = R (q.2.2.2 x) := s2
          refine ⟨fun h9 => ?_, fun h9 => ?_⟩
          · show (if R (q.1 x) = _ then _ else _) = (if R (q.2.2.2 x) = _ then _ else _) ∧ (if R (q.2.2.1 x) = _ then _ else _) = if R (q.2.1 x) = _ then _ else _
            rw [(s1 h9).1, (s1 h9).2]
            exact ⟨rfl, rfl⟩
          · show (if R (q.1 x) = _ then _ else _) = (if R (q.2.2.1 x) = _ then _ else _) ∧ (if R (q.2.1 x) = _ then _ else _) = if R (q.2.2.2 x) = _ then _ else _
            rw [(s2 h9).1, (s2 h9).2]
            exact ⟨rfl, rfl⟩
        · have hk1 : k = 1 := by omega
          have hk2 : k' = 2 := by omega
          obtain ⟨g1, g2⟩ := h2 hk2
          have g1 : R (q.1 j) = R (q.2.2.1 j) := g1
          have g2 : R (q.2.1 j) = R (q.2.2.2 j) := g2
          show (if R (q.1 j) = R (q.1 j) then R (q.2.1 j) else _) = (if R (q.2.2.2 j) = R (q.1 j) then R (q.2.1 j) else R (q.2.2.2 j)) ∧ (if R (q.2.2.1 j) = R (q.1 j) then R (q.2.1 j) else _) = if R (q.2.1 j) = R (q.1 j) then R (q.2.1 j) else R (q.2.1 j)
          rw [if_pos rfl, if_pos g1.symm, ← g2]
          constructor <;> split <;> rfl
        · have hk1 : k = 2 := by omega
          have hk2 : k' = 1 := by omega
          obtain ⟨g1, g2⟩ := h1 hk2
          have g1 : R (q.1 j) = R (q.2.2.2 j) := g1
          have g2 : R (q.2.1 j) = R (q.2.2.1 j) := g2
          show (if R (q.1 j) = R (q.1 j) then R (q.2.1 j) else _) = (if R (q.2.2.1 j) = R (q.1 j) then R (q.2.1 j) else R (q.2.2.1 j)) ∧ (if R (q.2.1 j) = R (q.1 j) then R (q.2.1 j) else R (q.2.1 j)) = if R (q.2.2.2 j) = R (q.1 j) then R (q.2.1 j) else R (q.2.2.2 j)
          rw [if_pos rfl, if_pos g1.symm, ← g2]
          constructor <;> split <;> rfl
      refine cN_eq (fun x y _ _ => ⟨fun e => ?_, fun e => ?_⟩)
      · -- the merged label is not finer than that of the joins
        have hR : ∀ a b, R a = R b → lab q c (upm n j k) a = lab q c (upm n j k) b := fun a b e => lab_min (sat_dn lab_sat) e
        have hAB : lab q c (upm n j k) (q.1 j) = lab q c (upm n j k) (q.2.1 j) := by
          rcases hk with ⟨rfl, rfl⟩ | ⟨rfl, rfl⟩
          · have := (lab_sat (q := q) (c := c) (m := upm n j 1) j hj).1 (by rw [upm_at]; exact Or.inl rfl)
            rw [this.1]
            exact (hR _ _ (h2 rfl).2).symm
          · have := (lab_sat (q := q) (c := c) (m := upm n j 2) j hj).2 (by rw [upm_at]; exact Or.inl rfl)
            rw [this.1]
            exact (hR _ _ (h1 rfl).2).symm
        have e : (if R x = R (q.1 j) then R (q.2.1 j) else R x) = if R y = R (q.1 j) then R (q.2.1 j) else R y := e
        by_cases hx : R x = R (q.1 j)
        · rw [if_pos hx] at e
          by_cases hy : R y = R (q.1 j)
          · exact hR _ _ (hx.trans hy.symm)
          · rw [if_neg hy] at e
            rw [hR _ _ hx, hAB]
            exact hR _ _ e
        · rw [if_neg hx] at e
          by_cases hy : R y = R (q.1 j)
          · rw [if_pos hy] at e
            rw [hR _ _ hy, hAB]
            exact hR _ _ e
          · rw [if_neg hy] at e
            exact hR _ _ e
      · exact lab_min s1 e
    omega
  -- what a finer label says, if the coarse one parts the two sides
  have fine : ∀ n, full c n → (∀ K, sat q c (upm m j 0) K → sat q c (upm n j 0) K) → R (q.1 j) ≠ R (q.2.1 j) → ∀ {x y}, lab q c (upm n j 0) x = lab q c (upm n j 0) y → R x = R y := fun n hn hf hne x y e => lab_min (hf R lab_sat) e
  by_cases hab : R (q.1 j) = R (q.2.1 j)
  · -- ordinary
    have hcd : R (q.2.2.1 j) = R (q.2.2.2 j) := by
      rcases tri m hm R lab_sat with ⟨-, h⟩ | ⟨h1, h2⟩ | ⟨h1, h2⟩
      · exact h
      · rw [← h1, hab, h2]
      · rw [← h1, hab, h2]
    refine Or.inl ⟨?_, ?_⟩
    · have a1 := cor (k := 1) hab
      have a2 := cor (k := 1) hcd
      exact (w1 k1.1 k1.2 (by rw [k1.1, ← a2]) (by rw [← a1, k1.1])).resolve_right (by omega)
    · have a1 := cor (k := 2) hab
      have a2 := cor (k := 2) hcd
      exact (w1 (by rw [a1, k2.2]) (by rw [a2, ← k2.2]) k2.1 k2.2).resolve_right (by omega)
  · rcases tri m hm R lab_sat with ⟨h, -⟩ | ⟨h1, h2⟩ | ⟨h1, h2⟩
    · exact absurd h hab
    · refine Or.inr (Or.inl ⟨(w1 k1.1 k1.2 (cor h1) (cor h2)).resolve_right (by omega), fun n hn hf => ?_⟩)
      have hf9 : ∀ {x y : Nat}, lab q c (upm n j 0) x = lab q c (upm n j 0) y → R x = R y := fun e => fine n hn hf hab e
      have hne : lab q c (upm n j 0) (q.1 j) ≠ lab q c (upm n j 0) (q.2.1 j) := fun e => hab (hf9 e)
      refine split n 1 2 hn (Or.inl ⟨rfl, rfl⟩) (fun _ => ?_) (fun h => absurd h (by omega)) hne
      rcases tri n hn _ lab_sat with ⟨h, -⟩ | h | ⟨h, -⟩
      · exact absurd h hne
      · exact h
      · exact absurd ((hf9 h).trans h2.symm) hab
    · refine Or.inr (Or.inr ⟨(w1 (cor h1) (cor h2).symm k2.1 k2.2).resolve_right (by omega), fun n hn hf => ?_⟩)
      have hf9 : ∀ {x y : Nat}, lab q c (upm n j 0) x = lab q c (upm n j 0) y → R x = R y := fun e => fine n hn hf hab e
      have hne : lab q c (upm n j 0) (q.1 j) ≠ lab q c (upm n j 0) (q.2.1 j) := fun e => hab (hf9 e)
      refine split n 2 1 hn (Or.inr ⟨rfl, rfl⟩) (fun h => absurd h (by omega)) (fun _ => ?_) hne
      rcases tri n hn _ lab_sat with ⟨h, -⟩ | ⟨h, -⟩ | h
      · exact absurd h hne
      · exact absurd ((hf9 h).trans h2.symm) hab
      · exact h
end MODE
