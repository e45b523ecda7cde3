/-! parting: the end is one, by first returns -/
def lbN (c : Nat) (N m : Nat → Nat) : Prop := ∀ k, k < 2 * c → m (N k) = m k ∧ m (mt k) = m k
/-- M is where N comes back to the same part of M for the first time -/
def frN (c : Nat) (N M : Nat → Nat) : Prop := ∀ a, a < 2 * c → ∃ j, it N (j + 1) a = M a ∧ ∀ k, 0 < k → k < j + 1 → ¬ ptN c M a (it N k a)
section XSV
variable {c : Nat} {N M : Nat → Nat} {v w a b : Nat}
theorem sepE (h : ¬ ptN c N a b) : ∃ m, lbN c N m ∧ m a ≠ m b := by
  refine Classical.byContradiction (fun h9 => h (fun m hm => ?_))
  exact Classical.byContradiction (fun h8 => h9 ⟨m, hm, h8⟩)
theorem leastE {P : Nat → Prop} (h : ∃ n, P n) : ∃ n, P n ∧ ∀ k, k < n → ¬ P k := by
  obtain ⟨n, hn⟩ := h
  induction n using Nat.strongRecOn with
  | _ n ih =>
    by_cases h9 : ∃ m, m < n ∧ P m
    · obtain ⟨m, m1, m2⟩ := h9
      exact ih m m1 m2
    · exact ⟨n, hn, fun m m1 m2 => h9 ⟨m, m1, m2⟩⟩
theorem it_sub (i k a : Nat) (h : k ≤ i) : it N i a = it N (i - k) (it N k a) := by
  rw [← it_add, Nat.sub_add_cancel h]
theorem injI (hb : bjN c N) : ∀ (i x y : Nat), x < 2 * c → y < 2 * c → it N i x = it N i y → x = y
  | 0, _, _, _, _, e => e
  | i + 1, x, y, hx, hy, e => injI hb i x y hx hy (hb.2 _ _ (pt_it hb i x hx).2 (pt_it hb i y hy).2 e)
theorem pr_sy (hb : bjN c N) (h : prN c N v w) : prN c N w v := by
  obtain ⟨h1, h2, h3, ⟨i, h4⟩, h5⟩ := h
  refine ⟨h2, h1, fun e => h3 e.symm, ?_, fun h => h5 ?_⟩
  · obtain ⟨n, n1, n2, n3, n4⟩ := pos_ex hb h1
    obtain ⟨j, j1, j2⟩ := n4 i
    refine ⟨n - j, ?_⟩
    rw [← h4, j2, ← it_add, Nat.sub_add_cancel (Nat.le_of_lt j1), n2]
  · rw [exN_sy h3]
    exact pt_sy h
theorem lb_run (hn : v ≠ w) {i : Nat} (hi : it N i v = w) (hl : ∀ k, k < i → it N k v ≠ w) {m : Nat → Nat} (hv : v < 2 * c) (hw : w < 2 * c) (hb : bjN c N) (hm : lbN c (exN N v w) m) : ∀ k, k < i → m (it N (k + 1) v) = m w
  | 0, _ => by
    have e := (hm w hw).1
    rw [exN_w] at e
    exact e
  | k + 1, hk => by
    have ih := lb_run hn hi hl hv hw hb hm k (by omega)
    have lt := (pt_it hb (k + 1) v hv).2
    have e := (hm _ lt).1
    rw [exN_o (fun e9 => ?_) (hl _ hk), ih] at e
    · exact e
    · have e2 := it_sub (N := N) i (k + 1) v (by omega)
      rw [e9, hi] at e2
      exact hl (i - (k + 1)) (by omega) e2.symm
theorem one_v (hb : bjN c N) (h : prN c N v w) {m : Nat → Nat} (hm : lbN c (exN N v w) m) (hd : m v ≠ m w) : ∃ i, it N (i + 1) v = exN N v w v ∧ ∀ k, 0 < k → k < i + 1 → m (it N k v) ≠ m v := by
  obtain ⟨i, hi, hl⟩ := leastE h.2.2.2.1
  refine ⟨i, ?_, fun k k1 k2 e => hd ?_⟩
  · rw [exN_v h.2.2.1, ← hi]
    rfl
  · rw [← e]
    have := lb_run h.2.2.1 hi hl h.1 h.2.1 hb hm (k - 1) (by omega)
    rw [Nat.sub_add_cancel k1] at this
    exact this
theorem one_a (hb : bjN c N) (h : prN c N v w) {m : Nat → Nat} (hm : lbN c (exN N v w) m) (hd : m v ≠ m w) (a : Nat) : ∃ i, it N (i + 1) a = exN N v w a ∧ ∀ k, 0 < k → k < i + 1 → m (it N k a) ≠ m a := by
  by_cases e1 : a = v
  · rw [e1]
    exact one_v hb h hm hd
  · by_cases e2 : a = w
    · rw [e2]
      rw [exN_sy h.2.2.1] at hm ⊢
      exact one_v hb (pr_sy hb h) hm (fun e => hd e.symm)
    · refine ⟨0, ?_, fun k k1 k2 => by omega⟩
      rw [exN_o e1 e2]
      rfl
theorem bj_pr (hb : bjN c N) (h : prN c N v w) : bjN c (exN N v w) := bj_ex hb h.1 h.2.1
theorem fr9_one (hb : bjN c N) (h : prN c N v w) : frN c N (exN N v w) := by
  intro a ha
  obtain ⟨m, hm, hd⟩ := sepE h.2.2.2.2
  obtain ⟨i, i1, i2⟩ := one_a hb h hm hd a
  exact ⟨i, i1, fun k k1 k2 p => i2 k k1 k2 (p m hm).symm⟩
theorem fr9_lb (hb : bjN c N) (h : frN c N M) {m : Nat → Nat} (hm : lbN c N m) : lbN c M m := by
  intro k hk
  refine ⟨?_, (hm k hk).2⟩
  obtain ⟨j, j1, _⟩ := h k hk
  rw [← j1]
  exact ((pt_it hb (j + 1) k hk).1 m hm).symm
theorem fr9_pt (hb : bjN c N) (h : frN c N M) (p : ptN c M a b) : ptN c N a b := fun m hm => p m (fr9_lb hb h hm)
theorem fr9_back (hb : bjN c N) (h : prN c N v w) {m : Nat → Nat} (hm : lbN c (exN N v w) m) (hd : m v ≠ m w) : ∀ (j a : Nat), a < 2 * c → m (it N (j + 1) a) = m a → ∃ j', it (exN N v w) (j' + 1) a = it N (j + 1) a ∧ ∀ k, 0 < k → k < j' + 1 → ∃ k', 0 < k' ∧ k' < j + 1 ∧ it (exN N v w) k a = it N k' a := by
  intro j
  induction j using Nat.strongRecOn with
  | _ j ih =>
    intro a ha e
    obtain ⟨i, i1, i2⟩ := one_a hb h hm hd a
    rcases Nat.lt_trichotomy i j with q | q | q
    · have hlt : exN N v w a < 2 * c := (bj_pr hb h).1 a ha
      have e9 : it N (j - i - 1 + 1) (exN N v w a) = it N (j + 1) a := by
        rw [← i1, ← it_add]
        exact congrArg (fun z => it N z a) (by omega)
      obtain ⟨j', j1, j2⟩ := ih (j - i - 1) (by omega) (exN N v w a) hlt (by rw [e9, e]; exact (hm a ha).1.symm)
      have shE : ∀ k, it (exN N v w) (k + 1) a = it (exN N v w) k (exN N v w a) := fun k => it_add (exN N v w) a k 1
      refine ⟨j' + 1, ?_, fun k k1 k2 => ?_⟩
      · rw [shE, j1, e9]
      · rcases Nat.eq_or_lt_of_le (show 1 ≤ k from k1) with q9 | q9
        · exact ⟨i + 1, by omega, by omega, by rw [← q9, i1]; rfl⟩
        · obtain ⟨k', l1, l2, l3⟩ := j2 (k - 1) (by omega) (by omega)
          refine ⟨k' + (i + 1), by omega, by omega, ?_⟩
          have := shE (k - 1)
          rw [Nat.sub_add_cancel k1] at this
          rw [this, l3, it_add, i1]
    · exact ⟨0, by rw [← q, i1]; rfl, fun k k1 k2 => by omega⟩
    · exact absurd e (i2 (j + 1) (by omega) (by omega))
theorem fr9_chg {m : Nat → Nat} (hb : bjN c N) (hm : lbN c (exN N v w) m) (ha : a < 2 * c) (n : Nat) (h : ∀ i, i < n → it N i a ≠ v ∧ it N i a ≠ w) : m (it N n a) = m a := by
  induction n with
  | zero => rfl
  | succ n ih =>
    have e := (hm _ (pt_it hb n a ha).2).1
    rw [exN_o (h n (by omega)).1 (h n (by omega)).2] at e
    exact e.trans (ih (fun i hi => h i (by omega)))
def chN (c : Nat) (N M : Nat → Nat) (b g : Nat) : Prop := ∃ j i, it N (j + 1) b = M b ∧ (∀ k, 0 < k → k < j + 1 → ¬ ptN c M b (it N k b)) ∧ i < j + 1 ∧ it N i b = g
theorem ch_one (hb : bjN c N) {x y g : Nat} (hx : x < 2 * c) (hy : y < 2 * c) (h1 : chN c N M x g) (h2 : chN c N M y g) (hp : ptN c M x y) : x = y := by
  obtain ⟨j, i, a1, a2, a3, a4⟩ := h1
  obtain ⟨j', i', b1, b2, b3, b4⟩ := h2
  rcases Nat.lt_trichotomy i i' with q | q | q
  · exfalso
    have e := it_sub (N := N) i' (i' - i) y (by omega)
    rw [b4, ← a4, show i' - (i' - i) = i by omega] at e
    have e := injI hb i _ _ hx (pt_it hb _ y hy).2 e
    exact b2 (i' - i) (by omega) (by omega) (by rw [← e]; exact pt_sy hp)
  · rw [q, ← b4] at a4
    exact injI hb i' _ _ hx hy a4
  · exfalso
    have e := it_sub (N := N) i (i - i') x (by omega)
    rw [a4, ← b4, show i - (i - i') = i' by omega] at e
    have e := injI hb i' _ _ hy (pt_it hb _ x hx).2 e
    exact a2 (i - i') (by omega) (by omega) (by rw [← e]; exact hp)
theorem ch_ex (hb : bjN c N) (hR : frN c N M) {m : Nat → Nat} (hm : lbN c (exN N v w) m) (ha : a < 2 * c) (h : m (M a) ≠ m a) : chN c N M a v ∨ chN c N M a w := by
  obtain ⟨j, j1, j2⟩ := hR a ha
  refine Classical.byContradiction (fun h9 => h ?_)
  rw [← j1]
  exact fr9_chg hb hm ha _ (fun i hi => ⟨fun e => h9 (Or.inl ⟨j, i, j1, j2, hi, e⟩), fun e => h9 (Or.inr ⟨j, i, j1, j2, hi, e⟩)⟩)
/-- a mark that one parting leaves is kept by every end -/
theorem fr9_star (hb : bjN c N) (hbM : bjN c M) (hR : frN c N M) (hi : irN c M) {m : Nat → Nat} (hm : lbN c (exN N v w) m) : ∀ a, a < 2 * c → m (M a) = m a := by
  intro x hx
  refine Classical.byContradiction (fun hne => ?_)
  obtain ⟨n, n1, n2, _, _⟩ := pos_ex hbM hx
  have ex : ∃ i, m (it M (i + 2) x) = m x := by
    refine ⟨n - 2, ?_⟩
    by_cases e : n = 1
    · rw [e] at n2
      exact absurd (congrArg m n2) hne
    · rw [show n - 2 + 2 = n by omega, n2]
  obtain ⟨i, i1, i2⟩ := leastE ex
  have off : ∀ k, k ≤ i → m (it M (k + 1) x) ≠ m x := by
    intro k hk
    cases k with
    | zero => exact hne
    | succ k => exact i2 k (by omega)
  obtain ⟨py, hy⟩ := pt_it hbM (i + 1) x hx
  generalize hY : it M (i + 1) x = y at py hy
  have my : m (M y) = m x := by
    rw [← hY]
    exact i1
  have yx : m y ≠ m x := by
    rw [← hY]
    exact off i (Nat.le_refl _)
  have ney : x ≠ y := fun e => yx (by rw [← e])
  have cx := ch_ex hb hR hm hx hne
  have cy := ch_ex hb hR hm hy (fun e => yx (e.symm.trans my))
  have two : ∀ z, z < 2 * c → ptN c M x z → m (M z) ≠ m z → z = x ∨ z = y := by
    intro z hz pz hmz
    have cz := ch_ex hb hR hm hz hmz
    have pyz : ptN c M y z := pt_tr (pt_sy py) pz
    rcases cx with cx | cx <;> rcases cy with cy | cy <;> rcases cz with cz | cz
    · exact absurd (ch_one hb hx hy cx cy py) ney
    · exact absurd (ch_one hb hx hy cx cy py) ney
    · exact Or.inl (ch_one hb hx hz cx cz pz).symm
    · exact Or.inr (ch_one hb hy hz cy cz pyz).symm
    · exact Or.inr (ch_one hb hy hz cy cz pyz).symm
    · exact Or.inl (ch_one hb hx hz cx cz pz).symm
    · exact absurd (ch_one hb hx hy cx cy py) ney
    · exact absurd (ch_one hb hx hy cx cy py) ney
  have same : ∀ k, k ≤ i → m (it M (k + 1) x) = m (M x) := by
    intro k
    induction k with
    | zero => exact fun _ => rfl
    | succ k ih =>
      intro hk
      rw [← ih (by omega)]
      refine Classical.byContradiction (fun h9 => ?_)
      obtain ⟨pz, hz⟩ := pt_it hbM (k + 1) x hx
      rcases two _ hz pz h9 with e | e
      · exact off k (by omega) (by rw [e])
      · refine off (k + 1) hk ?_
        show m (M (it M (k + 1) x)) = m x
        rw [e, my]
  have mxy : m (M x) = m y := by
    rw [← hY]
    exact (same i (Nat.le_refl _)).symm
  refine hi x y ⟨hx, hy, ney, ⟨i + 1, hY⟩, fun p => ?_⟩
  have hself : ∀ k, k < 2 * c → ptN c M k (M k) ∧ ptN c M k (mt k) := fun k hk => ⟨fun m hm => (hm k hk).1.symm, fun m hm => (hm k hk).2.symm⟩
  have hdec : DecidablePred (fun k => ptN c M x k) := fun k => Classical.propDecidable _
  have q := p (fun k => if ptN c M x k then m k + 1 else 0) (fun k hk => ⟨?_, ?_⟩)
  · rw [if_pos pt_rf, if_pos py] at q
    omega
  · by_cases e1 : k = y
    · show (if ptN c M x (exN M x y k) then m (exN M x y k) + 1 else 0) = if ptN c M x k then m k + 1 else 0
      rw [e1, exN_w, if_pos (hself x hx).1, if_pos py, mxy]
    · by_cases e2 : k = x
      · show (if ptN c M x (exN M x y k) then m (exN M x y k) + 1 else 0) = if ptN c M x k then m k + 1 else 0
        rw [e2, exN_v ney, if_pos (pt_tr py (hself y hy).1), if_pos pt_rf, my]
      · show (if ptN c M x (exN M x y k) then m (exN M x y k) + 1 else 0) = if ptN c M x k then m k + 1 else 0
        rw [exN_o e2 e1]
        by_cases e3 : ptN c M x k
        · rw [if_pos (pt_tr e3 (hself k hk).1), if_pos e3]
          refine congrArg (· + 1) (Classical.byContradiction (fun h9 => ?_))
          rcases two k hk e3 h9 with e | e
          · exact e2 e
          · exact e1 e
        · rw [if_neg (fun h9 => e3 (pt_tr h9 (pt_sy (hself k hk).1))), if_neg e3]
  · show (if ptN c M x (mt k) then m (mt k) + 1 else 0) = if ptN c M x k then m k + 1 else 0
    by_cases e3 : ptN c M x k
    · rw [if_pos (pt_tr e3 (hself k hk).2), if_pos e3, (hm k hk).2]
    · rw [if_neg (fun h9 => e3 (pt_tr h9 (pt_sy (hself k hk).2))), if_neg e3]
theorem fr9_step (hb : bjN c N) (hbM : bjN c M) (hR : frN c N M) (hi : irN c M) (h : prN c N v w) : frN c (exN N v w) M := by
  obtain ⟨m, hm, hd⟩ := sepE h.2.2.2.2
  intro a ha
  obtain ⟨j, j1, j2⟩ := hR a ha
  obtain ⟨j', l1, l2⟩ := fr9_back hb h hm hd j a ha (by rw [j1]; exact fr9_star hb hbM hR hi hm a ha)
  refine ⟨j', l1.trans j1, fun k k1 k2 => ?_⟩
  obtain ⟨k', p1, p2, p3⟩ := l2 k k1 k2
  rw [p3]
  exact j2 k' p1 p2
theorem fr9_rf : frN c N N := fun a _ => ⟨0, rfl, fun k k1 k2 => by omega⟩
theorem fr9_tr {M' : Nat → Nat} (hb : bjN c N) (hbM : bjN c M) (h1 : frN c N M) (h2 : frN c M M') : frN c N M' := by
  have key : ∀ (j a : Nat), a < 2 * c → ∃ J, it N J a = it M j a ∧ (j = 0 ↔ J = 0) ∧ ∀ K, 0 < K → K < J → (∃ k, 0 < k ∧ k < j ∧ it N K a = it M k a) ∨ ¬ ptN c M a (it N K a) := by
    intro j
    induction j with
    | zero => exact fun a _ => ⟨0, rfl, Iff.rfl, fun K k1 k2 => by omega⟩
    | succ j ih =>
      intro a ha
      obtain ⟨J, J1, J2, J3⟩ := ih a ha
      obtain ⟨pb, hlt⟩ := pt_it hbM j a ha
      obtain ⟨s, s1, s2⟩ := h1 (it M j a) hlt
      refine ⟨s + 1 + J, by rw [it_add, J1, s1]; rfl, by omega, fun K k1 k2 => ?_⟩
      rcases Nat.lt_trichotomy K J with q | q | q
      · rcases J3 K k1 q with ⟨k, l1, l2, l3⟩ | l
        · exact Or.inl ⟨k, l1, by omega, l3⟩
        · exact Or.inr l
      · refine Or.inl ⟨j, ?_, by omega, by rw [q, J1]⟩
        rcases Nat.eq_zero_or_pos j with q9 | q9
        · have := J2.1 q9
          omega
        · exact q9
      · refine Or.inr ?_
        rw [it_sub K J a (by omega), J1]
        exact fun p => s2 (K - J) (by omega) (by omega) (pt_tr (pt_sy pb) p)
  intro a ha
  obtain ⟨j, j1, j2⟩ := h2 a ha
  obtain ⟨J, J1, J2, J3⟩ := key (j + 1) a ha
  have h0 : J ≠ 0 := fun e => by
    have := J2.2 e
    omega
  refine ⟨J - 1, by rw [show J - 1 + 1 = J by omega, J1, j1], fun K k1 k2 p => ?_⟩
  rcases J3 K k1 (by omega) with ⟨k, l1, l2, l3⟩ | l
  · rw [l3] at p
    exact j2 k l1 l2 p
  · exact l (fr9_pt hbM h2 p)
theorem fr9_of : ∀ (n : Nat) (N M : Nat → Nat), bjN c N → stN c n N M → frN c N M ∧ bjN c M
  | 0, N, M, hb, h => by
    have h : N = M := h
    rw [← h]
    exact ⟨fr9_rf, hb⟩
  | n + 1, N, M, hb, h => by
    obtain ⟨v, w, h1, h2⟩ := h
    obtain ⟨r1, r2⟩ := fr9_of n _ M (bj_pr hb h1) h2
    exact ⟨fr9_tr hb (bj_pr hb h1) (fr9_one hb h1) r1, r2⟩
theorem fr9_all (hbM : bjN c M) (hi : irN c M) : ∀ (n : Nat) (N M9 : Nat → Nat), bjN c N → frN c N M → stN c n N M9 → frN c M9 M
  | 0, N, M9, hb, hR, h => by
    have h : N = M9 := h
    rw [← h]
    exact hR
  | n + 1, N, M9, hb, hR, h => by
    obtain ⟨v, w, h1, h2⟩ := h
    exact fr9_all hbM hi n _ M9 (bj_pr hb h1) (fr9_step hb hbM hR hi h1) h2
/-- the end of all parting is one -/
theorem end_one {n n' : Nat} {M' : Nat → Nat} (hb : bjN c N) (h1 : stN c n N M) (h2 : stN c n' N M') (i1 : irN c M) (i2 : irN c M') : ∀ a, a < 2 * c → M a = M' a := by
  obtain ⟨r1, b1⟩ := fr9_of n N M hb h1
  obtain ⟨r2, b2⟩ := fr9_of n' N M' hb h2
  have q1 : frN c M' M := fr9_all b1 i1 n' N M' hb r1 h2
  have q2 : frN c M M' := fr9_all b2 i2 n N M hb r2 h1
  intro a ha
  obtain ⟨j, j1, j2⟩ := q1 a ha
  rcases Nat.eq_zero_or_pos j with e | e
  · rw [← j1, e]
    rfl
  · exact absurd (fr9_pt b1 q2 (fun m hm => (hm a ha).1.symm)) (j2 1 (by omega) (by omega))
end XSV
