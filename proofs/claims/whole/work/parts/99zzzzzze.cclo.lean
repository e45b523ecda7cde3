/-! strands linked, then closed -/
def uO (f : Nat → Option Nat) (k : Nat) (o : Option Nat) : Nat → Option Nat := fun j => if j = k then o else f j
theorem uO_at {f : Nat → Option Nat} {k : Nat} {o : Option Nat} : uO f k o k = o := if_pos rfl
theorem uO_ne {f : Nat → Option Nat} {k j : Nat} {o : Option Nat} (h : j ≠ k) : uO f k o j = f j := if_neg h
/-- open strands: La their last visits, Fi the first ones -/
def oX (D E : Nat → Prop) (s : Nat) (S : ow_NP) (La Fi : Nat → Option Nat) : Prop := (∀ k v, k < s → La k = some v → D v) ∧ (∀ k v, k < s → Fi k = some v → D v) ∧ (∀ k k' v, k < s → k' < s → La k = some v → La k' = some v → k = k') ∧ (∀ k k' v, k < s → k' < s → Fi k = some v → Fi k' = some v → k = k') ∧ (∀ v, D v → (∀ k, k < s → La k ≠ some v) → D (S.1 v) ∧ (v / 2 < S.1 v / 2 ∨ E v) ∧ S.2 (S.1 v) = v ∧ ∀ k, k < s → Fi k ≠ some (S.1 v)) ∧ ∀ v, D v → (∀ k, k < s → Fi k ≠ some v) → D (S.2 v) ∧ S.1 (S.2 v) = v ∧ ∀ k, k < s → La k ≠ some (S.2 v)
section COX
variable {D E : Nat → Prop} {s : Nat} {S : ow_NP} {La Fi : Nat → Option Nat}
theorem oX_new {k v : Nat} (h : oX D E s S La Fi) (hk : k < s) (hv : ¬ D v) (e1 : La k = none) (e2 : Fi k = none) : oX (fun u => D u ∨ u = v) E s S (uO La k (some v)) (uO Fi k (some v)) := by
  obtain ⟨h1, h2, h3, h4, h5, h6⟩ := h
  have old : ∀ {f : Nat → Option Nat} {j w : Nat}, uO f k (some v) j = some w → j = k ∧ w = v ∨ j ≠ k ∧ f j = some w := by
    intro f j w e
    by_cases ej : j = k
    · rw [ej, uO_at] at e
      cases e
      exact Or.inl ⟨ej, rfl⟩
    · rw [uO_ne ej] at e
      exact Or.inr ⟨ej, e⟩
  refine ⟨fun j w hj e => ?_, fun j w hj e => ?_, fun j j' w hj hj' e e' => ?_, fun j j' w hj hj' e e' => ?_, fun w hw hn => ?_, fun w hw hn => ?_⟩
  · rcases old e with ⟨_, q⟩ | ⟨_, q⟩
    · exact Or.inr q
    · exact Or.inl (h1 j w hj q)
  · rcases old e with ⟨_, q⟩ | ⟨_, q⟩
    · exact Or.inr q
    · exact Or.inl (h2 j w hj q)
  · rcases old e with ⟨a, q⟩ | ⟨a, q⟩ <;> rcases old e' with ⟨a', q'⟩ | ⟨a', q'⟩
    · rw [a, a']
    · exact absurd (h1 j' w hj' q') (by rw [q]; exact hv)
    · exact absurd (h1 j w hj q) (by rw [q']; exact hv)
    · exact h3 j j' w hj hj' q q'
  · rcases old e with ⟨a, q⟩ | ⟨a, q⟩ <;> rcases old e' with ⟨a', q'⟩ | ⟨a', q'⟩
    · rw [a, a']
    · exact absurd (h2 j' w hj' q') (by rw [q]; exact hv)
    · exact absurd (h2 j w hj q) (by rw [q']; exact hv)
    · exact h4 j j' w hj hj' q q'
  · have hne : w ≠ v := fun e => hn k hk (by rw [uO_at, e])
    have hD : D w := hw.resolve_right hne
    obtain ⟨q1, q2, q3, q4⟩ := h5 w hD (fun j hj e => by
      by_cases ej : j = k
      · rw [ej, e1] at e
        cases e
      · exact hn j hj (by rw [uO_ne ej]; exact e))
    refine ⟨Or.inl q1, q2, q3, fun j hj e => ?_⟩
    rcases old e with ⟨_, q⟩ | ⟨_, q⟩
    · rw [q] at q1
      exact hv q1
    · exact q4 j hj q
  · have hne : w ≠ v := fun e => hn k hk (by rw [uO_at, e])
    have hD : D w := hw.resolve_right hne
    obtain ⟨q1, q2, q3⟩ := h6 w hD (fun j hj e => by
      by_cases ej : j = k
      · rw [ej, e2] at e
        cases e
      · exact hn j hj (by rw [uO_ne ej]; exact e))
    refine ⟨Or.inl q1, q2, fun j hj e => ?_⟩
    rcases old e with ⟨_, q⟩ | ⟨_, q⟩
    · rw [q] at q1
      exact hv q1
    · exact q3 j hj q
theorem oX_ext {k u v : Nat} (h : oX D E s S La Fi) (hk : k < s) (hv : ¬ D v) (e1 : La k = some u) (huv : u / 2 < v / 2) : oX (fun w => D w ∨ w = v) E s (nl S u v) (uO La k (some v)) Fi := by
  obtain ⟨h1, h2, h3, h4, h5, h6⟩ := h
  have hDu := h1 k u hk e1
  have n1 : ∀ w, w ≠ u → (nl S u v).1 w = S.1 w := fun w hw => if_neg hw
  have n2 : ∀ w, w ≠ v → (nl S u v).2 w = S.2 w := fun w hw => if_neg hw
  have n3 : (nl S u v).1 u = v := if_pos rfl
  have n4 : (nl S u v).2 v = u := if_pos rfl
  have old : ∀ {j w : Nat}, uO La k (some v) j = some w → j = k ∧ w = v ∨ j ≠ k ∧ La j = some w := by
    intro j w e
    by_cases ej : j = k
    · rw [ej, uO_at] at e
      cases e
      exact Or.inl ⟨ej, rfl⟩
    · rw [uO_ne ej] at e
      exact Or.inr ⟨ej, e⟩
  have hne' : ∀ w, D w → w ≠ v := fun w hw e => hv (by rw [← e]; exact hw)
  refine ⟨fun j w hj e => ?_, fun j w hj e => Or.inl (h2 j w hj e), fun j j' w hj hj' e e' => ?_, h4, fun w hw hn => ?_, fun w hw hn => ?_⟩
  · rcases old e with ⟨_, q⟩ | ⟨_, q⟩
    · exact Or.inr q
    · exact Or.inl (h1 j w hj q)
  · rcases old e with ⟨a, q⟩ | ⟨a, q⟩ <;> rcases old e' with ⟨a', q'⟩ | ⟨a', q'⟩
    · rw [a, a']
    · exact absurd (h1 j' w hj' q') (by rw [q]; exact hv)
    · exact absurd (h1 j w hj q) (by rw [q']; exact hv)
    · exact h3 j j' w hj hj' q q'
  · have hne : w ≠ v := fun e => hn k hk (by rw [uO_at, e])
    have hD : D w := hw.resolve_right hne
    by_cases ew : w = u
    · rw [ew, n3, n4]
      exact ⟨Or.inr rfl, Or.inl huv, rfl, fun j hj e => hv (h2 j v hj e)⟩
    · obtain ⟨q1, q2, q3, q4⟩ := h5 w hD (fun j hj e => by
        by_cases ej : j = k
        · rw [ej, e1] at e
          cases e
          exact ew rfl
        · exact hn j hj (by rw [uO_ne ej]; exact e))
      rw [n1 w ew, n2 _ (hne' _ q1)]
      exact ⟨Or.inl q1, q2, q3, q4⟩
  · by_cases ew : w = v
    · rw [ew, n4, n3]
      refine ⟨Or.inl hDu, rfl, fun j hj e => ?_⟩
      rcases old e with ⟨_, q⟩ | ⟨a, q⟩
      · rw [q] at hDu
        exact hv hDu
      · exact a (h3 j k u hj hk q e1)
    · have hD : D w := hw.resolve_right ew
      obtain ⟨q1, q2, q3⟩ := h6 w hD hn
      have hwu : S.2 w ≠ u := fun e => q3 k hk (by rw [e1, e])
      rw [n2 w ew, n1 _ hwu]
      refine ⟨Or.inl q1, q2, fun j hj e => ?_⟩
      rcases old e with ⟨_, q⟩ | ⟨_, q⟩
      · rw [q] at q1
        exact hv q1
      · exact q3 j hj q
/-- places may change with one another -/
theorem oX_swap {j : Nat} {a b : Option Nat} (h : oX D E s S La Fi) (hj : j + 1 < s) (e1 : La j = b) (e2 : La (j + 1) = a) : oX D E s S (uO (uO La j a) (j + 1) b) Fi := by
  obtain ⟨h1, h2, h3, h4, h5, h6⟩ := h
  let σ : Nat → Nat := fun k => if k = j then j + 1 else if k = j + 1 then j else k
  have hσ : ∀ k, uO (uO La j a) (j + 1) b k = La (σ k) := by
    intro k
    show (if k = j + 1 then b else if k = j then a else La k) = La (if k = j then j + 1 else if k = j + 1 then j else k)
    by_cases q1 : k = j
    · rw [if_neg (by omega), if_pos q1, if_pos q1, e2]
    · rw [if_neg q1, if_neg q1]
      by_cases q2 : k = j + 1
      · rw [if_pos q2, if_pos q2, e1]
      · rw [if_neg q2, if_neg q2]
  have hlt : ∀ k, k < s → σ k < s := by
    intro k hk
    show (if k = j then j + 1 else if k = j + 1 then j else k) < s
    split
    · exact hj
    · split <;> omega
  have hσσ : ∀ k, σ (σ k) = k := by
    intro k
    show (if (if k = j then j + 1 else if k = j + 1 then j else k) = j then j + 1 else if (if k = j then j + 1 else if k = j + 1 then j else k) = j + 1 then j else (if k = j then j + 1 else if k = j + 1 then j else k)) = k
    by_cases q1 : k = j
    · rw [if_pos q1, if_neg (by omega), if_pos rfl, q1]
    · rw [if_neg q1]
      by_cases q2 : k = j + 1
      · rw [if_pos q2, if_pos rfl, q2]
      · rw [if_neg q2, if_neg q1, if_neg q2]
  refine ⟨fun k v hk e => h1 _ v (hlt k hk) (by rw [← hσ]; exact e), h2, fun k k' v hk hk' e e' => ?_, h4, fun v hv hn => h5 v hv (fun k hk e => ?_), fun v hv hn => ?_⟩
  · have := h3 _ _ v (hlt k hk) (hlt k' hk') (by rw [← hσ]; exact e) (by rw [← hσ]; exact e')
    rw [← hσσ k, this, hσσ]
  · exact hn (σ k) (hlt k hk) (by rw [hσ, hσσ]; exact e)
  · obtain ⟨q1, q2, q3⟩ := h6 v hv hn
    exact ⟨q1, q2, fun k hk e => q3 (σ k) (hlt k hk) (by rw [← hσ]; exact e)⟩
/-- a strand closed -/
theorem oX_close {k u w : Nat} (h : oX D E s S La Fi) (hk : k < s) (e1 : La k = some u) (e2 : Fi k = some w) (hE : E u) : oX D E s (nl S u w) (uO La k none) (uO Fi k none) := by
  obtain ⟨h1, h2, h3, h4, h5, h6⟩ := h
  have hDu := h1 k u hk e1
  have hDw := h2 k w hk e2
  have n1 : ∀ v, v ≠ u → (nl S u w).1 v = S.1 v := fun v hv => if_neg hv
  have n2 : ∀ v, v ≠ w → (nl S u w).2 v = S.2 v := fun v hv => if_neg hv
  have n3 : (nl S u w).1 u = w := if_pos rfl
  have n4 : (nl S u w).2 w = u := if_pos rfl
  have old : ∀ {f : Nat → Option Nat} {j v : Nat}, uO f k none j = some v → j ≠ k ∧ f j = some v := by
    intro f j v e
    by_cases ej : j = k
    · rw [ej, uO_at] at e
      cases e
    · rw [uO_ne ej] at e
      exact ⟨ej, e⟩
  refine ⟨fun j v hj e => h1 j v hj (old e).2, fun j v hj e => h2 j v hj (old e).2, fun j j' v hj hj' e e' => h3 j j' v hj hj' (old e).2 (old e').2, fun j j' v hj hj' e e' => h4 j j' v hj hj' (old e).2 (old e').2, fun v hv hn => ?_, fun v hv hn => ?_⟩
  · by_cases ev : v = u
    · rw [ev, n3, n4]
      refine ⟨hDw, Or.inr hE, rfl, fun j hj e => ?_⟩
      exact (old e).1 (h4 j k w hj hk (old e).2 e2)
    · obtain ⟨q1, q2, q3, q4⟩ := h5 v hv (fun j hj e => by
        by_cases ej : j = k
        · rw [ej, e1] at e
          cases e
          exact ev rfl
        · exact hn j hj (by rw [uO_ne ej]; exact e))
      have hw : S.1 v ≠ w := fun e => q4 k hk (by rw [e2, e])
      rw [n1 v ev, n2 _ hw]
      exact ⟨q1, q2, q3, fun j hj e => q4 j hj (old e).2⟩
  · by_cases ev : v = w
    · rw [ev, n4, n3]
      refine ⟨hDu, rfl, fun j hj e => ?_⟩
      exact (old e).1 (h3 j k u hj hk (old e).2 e1)
    · obtain ⟨q1, q2, q3⟩ := h6 v hv (fun j hj e => by
        by_cases ej : j = k
        · rw [ej, e2] at e
          cases e
          exact ev rfl
        · exact hn j hj (by rw [uO_ne ej]; exact e))
      have hu : S.2 v ≠ u := fun e => q3 k hk (by rw [e1, e])
      rw [n2 v ev, n1 _ hu]
      exact ⟨q1, q2, fun j hj e => q3 j hj (old e).2⟩
end COX
/-- all strands closed: a valid net, with no more rings than strands that were met -/
theorem oX_vn {c s : Nat} {S : ow_NP} {La0 La Fi : Nat → Option Nat} (hc : c ≤ 12) (h : oX (fun v => v < 2 * c) (fun v => ∃ k, k < s ∧ La0 k = some v) s S La Fi) (e1 : ∀ k, k < s → La k = none) (e2 : ∀ k, k < s → Fi k = none) : vn c S ∧ np_rg c S ≤ cntB (fun k => (La0 k).isSome) s := by
  obtain ⟨h1, h2, h3, h4, h5, h6⟩ := h
  have a1 : ∀ v, v < 2 * c → S.1 v < 2 * c ∧ (v / 2 < S.1 v / 2 ∨ ∃ k, k < s ∧ La0 k = some v) ∧ S.2 (S.1 v) = v := fun v hv => by
    obtain ⟨q1, q2, q3, -⟩ := h5 v hv (fun k hk e => by rw [e1 k hk] at e; cases e)
    exact ⟨q1, q2, q3⟩
  have a2 : ∀ v, v < 2 * c → S.2 v < 2 * c ∧ S.1 (S.2 v) = v := fun v hv => by
    obtain ⟨q1, q2, -⟩ := h6 v hv (fun k hk e => by rw [e2 k hk] at e; cases e)
    exact ⟨q1, q2⟩
  have hv : vn c S := fun v hv => ⟨(a1 v hv).1, (a2 v hv).1, (a1 v hv).2.2, (a2 v hv).2⟩
  refine ⟨hv, ?_⟩
  have hex : ∀ w, w < 2 * c → ∃ k i, k < s ∧ La0 k = some (it S.1 i w) := by
    intro w hw
    apply Classical.byContradiction
    intro hn
    have grow : ∀ i, i ≤ (it S.1 i w) / 2 := by
      intro i
      induction i with
      | zero => exact Nat.zero_le _
      | succ i ih =>
        rcases (a1 _ (it_lt hv hw i)).2.1 with q | ⟨k, k1, k2⟩
        · show i + 1 ≤ S.1 (it S.1 i w) / 2
          omega
        · exact absurd ⟨k, i, k1, k2⟩ hn
    have h9 := grow (c + 1)
    have h8 := it_lt hv hw (c + 1)
    omega
  have hx : ∀ w, ∃ k, w < 2 * c → k < s ∧ ∃ i, La0 k = some (it S.1 i w) := by
    intro w
    by_cases hw : w < 2 * c
    · obtain ⟨k, i, k1, k2⟩ := hex w hw
      exact ⟨k, fun _ => ⟨k1, i, k2⟩⟩
    · exact ⟨0, fun h9 => absurd h9 hw⟩
  let f : Nat → Nat := fun w => Classical.choose (hx w)
  have hf : ∀ w, w < 2 * c → f w < s ∧ ∃ i, La0 (f w) = some (it S.1 i w) := fun w hw => Classical.choose_spec (hx w) hw
  refine cntB_inj (2 * c) (fun k => lst S.1 k 24) (fun k => (La0 k).isSome) f (fun w hw _ => ⟨(hf w hw).1, ?_⟩) (fun w w' hw hw' l1 l2 e => ?_)
  · obtain ⟨i, hi⟩ := (hf w hw).2
    rw [hi]
    rfl
  · obtain ⟨i, hi⟩ := (hf w hw).2
    obtain ⟨j, hj⟩ := (hf w' hw').2
    rw [← e, hi] at hj
    have hij : it S.1 i w = it S.1 j w' := Option.some.inj hj
    have le : ∀ {a b i j : Nat}, a < 2 * c → b < 2 * c → lst S.1 a 24 = true → it S.1 i a = it S.1 j b → a ≤ b := by
      intro a b i j ha hb la e9
      obtain ⟨m, m1, m2⟩ := ring_ex hv hb
      obtain ⟨j', j1, j2⟩ := it_mod m2 j
      have : it S.1 (m - j' + i) a = b := by
        rw [it_add, e9, j2, ← it_add, show m - j' + j' = m by omega]
        exact m2.2.1
      have h9 := (lst_all hv hc ha).mp la (m - j' + i)
      rw [this] at h9
      exact h9
    exact Nat.le_antisymm (le hw hw' l1 hij) (le hw' hw l2 hij.symm)
