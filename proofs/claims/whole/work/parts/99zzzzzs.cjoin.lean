/-! the class: smooth, reverse, apart, join -/
theorem lst_all {c : Nat} {S : ow_NP} (h : vn c S) (hc : c ≤ 12) {k : Nat} (hk : k < 2 * c) : lst S.1 k 24 = true ↔ ∀ i, k ≤ it S.1 i k := by
  obtain ⟨m, hm1, hm2⟩ := ring_ex h hk
  rw [lst_t]
  refine ⟨fun q i => ?_, fun q i _ => q i⟩
  obtain ⟨j, j1, j2⟩ := it_mod hm2 i
  rw [j2]
  exact q j (by omega)
theorem turn_eq {t : Nat → Bool} {S : ow_NP} {G : Nat → Int32} : ∀ n k, (np_turn t S G n).1.1 k = (if k < n ∧ t k = true then S.2 k else S.1 k) ∧ (np_turn t S G n).1.2 k = (if k < n ∧ t k = true then S.1 k else S.2 k)
  | 0, k => by
    rw [if_neg (fun h => Nat.not_lt_zero _ h.1), if_neg (fun h => Nat.not_lt_zero _ h.1)]
    exact ⟨rfl, rfl⟩
  | n + 1, k => by
    have ih := turn_eq (t := t) (S := S) (G := G) n
    rw [np_turn]
    by_cases e : t n = true
    · rw [if_pos e]
      show nu (np_turn t S G n).1.1 n ((np_turn t S G n).1.2 n) k = _ ∧ nu (np_turn t S G n).1.2 n ((np_turn t S G n).1.1 n) k = _
      by_cases ek : k = n
      · rw [ek, nu_same, nu_same, (ih n).1, (ih n).2, if_neg (show ¬ (n < n ∧ t n = true) from fun h => Nat.lt_irrefl _ h.1), if_neg (show ¬ (n < n ∧ t n = true) from fun h => Nat.lt_irrefl _ h.1), if_pos ⟨Nat.lt_succ_self _, e⟩, if_pos ⟨Nat.lt_succ_self _, e⟩]
        exact ⟨rfl, rfl⟩
      · rw [nu_ne _ _ ek, nu_ne _ _ ek, (ih k).1, (ih k).2]
        have : (k < n ∧ t k = true) ↔ (k < n + 1 ∧ t k = true) := ⟨fun h => ⟨by omega, h.2⟩, fun h => ⟨by omega, h.2⟩⟩
        simp only [this]
        exact ⟨trivial, trivial⟩
    · rw [if_neg e, (ih k).1, (ih k).2]
      have : (k < n ∧ t k = true) ↔ (k < n + 1 ∧ t k = true) := by
        refine ⟨fun h => ⟨by omega, h.2⟩, fun h => ⟨?_, h.2⟩⟩
        rcases Nat.lt_or_ge k n with q | q
        · exact q
        · exact absurd (by rw [← show k = n by omega]; exact h.2) e
      simp only [this]
      exact ⟨trivial, trivial⟩
/-- components turned round: the net stays valid -/
theorem nv_turn {t : Nat → Bool} {T : ow_NT} {G : Nat → Int32} (hT : nv T) (ht : ∀ k, k < 2 * T.1 → t (T.2.2.1.1 k) = t k) : nv (T.1, T.2.1, (np_turn t T.2.2.1 T.2.2.2 (2 * T.1)).1, G) := by
  obtain ⟨h1, h2, h3, h4⟩ := hT
  have e1 : ∀ k, k < 2 * T.1 → (np_turn t T.2.2.1 T.2.2.2 (2 * T.1)).1.1 k = if t k = true then T.2.2.1.2 k else T.2.2.1.1 k := by
    intro k hk
    rw [(turn_eq (2 * T.1) k).1]
    by_cases e : t k = true
    · rw [if_pos ⟨hk, e⟩, if_pos e]
    · rw [if_neg (fun h => e h.2), if_neg e]
  have e2 : ∀ k, k < 2 * T.1 → (np_turn t T.2.2.1 T.2.2.2 (2 * T.1)).1.2 k = if t k = true then T.2.2.1.1 k else T.2.2.1.2 k := by
    intro k hk
    rw [(turn_eq (2 * T.1) k).2]
    by_cases e : t k = true
    · rw [if_pos ⟨hk, e⟩, if_pos e]
    · rw [if_neg (fun h => e h.2), if_neg e]
  have ht2 : ∀ k, k < 2 * T.1 → t (T.2.2.1.2 k) = t k := by
    intro k hk
    have := ht (T.2.2.1.2 k) (h1 k hk).2.1
    rw [(h1 k hk).2.2.2] at this
    exact this.symm
  have hv : vn T.1 (np_turn t T.2.2.1 T.2.2.2 (2 * T.1)).1 := by
    intro k hk
    obtain ⟨a1, a2, a3, a4⟩ := h1 k hk
    by_cases e : t k = true
    · rw [e1 k hk, e2 k hk, if_pos e, if_pos e]
      refine ⟨a2, a1, ?_, ?_⟩
      · rw [e2 _ a2, if_pos (by rw [ht2 k hk]; exact e)]
        exact a4
      · rw [e1 _ a1, if_pos (by rw [ht k hk]; exact e)]
        exact a3
    · rw [e1 k hk, e2 k hk, if_neg e, if_neg e]
      refine ⟨a1, a2, ?_, ?_⟩
      · rw [e2 _ a1, if_neg (by rw [ht k hk]; exact e)]
        exact a3
      · rw [e1 _ a2, if_neg (by rw [ht2 k hk]; exact e)]
        exact a4
  have hb : ow_b24 (np_turn t T.2.2.1 T.2.2.2 (2 * T.1)).1 := by
    refine ⟨fun k => ?_, fun k => ?_⟩
    · rw [(turn_eq (2 * T.1) k).1]
      split
      · exact h3.2 k
      · exact h3.1 k
    · rw [(turn_eq (2 * T.1) k).2]
      split
      · exact h3.1 k
      · exact h3.2 k
  refine ⟨hv, h2, hb, ?_⟩
  have htit : ∀ k, k < 2 * T.1 → ∀ i, t (it T.2.2.1.1 i k) = t k := by
    intro k hk i
    induction i with
    | zero => rfl
    | succ i ih =>
      show t (T.2.2.1.1 (it T.2.2.1.1 i k)) = _
      rw [ht _ (it_lt h1 hk i)]
      exact ih
  have hmono : np_rg T.1 (np_turn t T.2.2.1 T.2.2.2 (2 * T.1)).1 ≤ np_rg T.1 T.2.2.1 := by
    refine cntB_mono _ (fun k hk hl => ?_)
    have hl2 := (lst_all hv h2 hk).mp hl
    refine (lst_all h1 h2 hk).mpr (fun i => ?_)
    obtain ⟨m, hm1, hm2⟩ := ring_ex h1 hk
    obtain ⟨j, j1, j2⟩ := it_mod hm2 i
    rw [j2]
    by_cases e : t k = true
    · have back : ∀ q, q ≤ m → it (np_turn t T.2.2.1 T.2.2.2 (2 * T.1)).1.1 q k = it T.2.2.1.1 (m - q) k := by
        intro q
        induction q with
        | zero =>
          intro _
          rw [Nat.sub_zero, hm2.2.1]
          rfl
        | succ q ih =>
          intro hq
          show (np_turn t T.2.2.1 T.2.2.2 (2 * T.1)).1.1 (it (np_turn t T.2.2.1 T.2.2.2 (2 * T.1)).1.1 q k) = _
          have hlt := it_lt h1 hk (m - q)
          rw [ih (by omega), e1 _ hlt, if_pos (by rw [htit k hk]; exact e)]
          obtain ⟨n, hn⟩ : ∃ n, m - q = n + 1 := ⟨m - q - 1, by omega⟩
          rw [hn, show m - (q + 1) = n by omega]
          exact (h1 _ (it_lt h1 hk n)).2.2.1
      have := hl2 (m - j)
      rw [back _ (by omega), show m - (m - j) = j by omega] at this
      exact this
    · have fwd : ∀ q, it (np_turn t T.2.2.1 T.2.2.2 (2 * T.1)).1.1 q k = it T.2.2.1.1 q k := by
        intro q
        induction q with
        | zero => rfl
        | succ q ih =>
          show (np_turn t T.2.2.1 T.2.2.2 (2 * T.1)).1.1 (it (np_turn t T.2.2.1 T.2.2.2 (2 * T.1)).1.1 q k) = _
          rw [ih, e1 _ (it_lt h1 hk q), if_neg (by rw [htit k hk]; exact e)]
          rfl
      have := hl2 j
      rw [fwd] at this
      exact this
  show np_rg T.1 (np_turn t T.2.2.1 T.2.2.2 (2 * T.1)).1 + T.2.1 ≤ 6
  omega
/-- two nets one behind the other -/
def ntA (T R : ow_NT) : ow_NT := (T.1 + R.1, T.2.1 + R.2.1, (np_app T.2.2.1.1 R.2.2.1.1 (2 * T.1) (2 * R.1), np_app T.2.2.1.2 R.2.2.1.2 (2 * T.1) (2 * R.1)), va_cpy R.2.2.2 T.2.2.2 0 T.1 R.1)
theorem cntB_split {q : Nat → Bool} {a : Nat} : ∀ b, cntB q (a + b) = cntB q a + cntB (fun k => q (a + k)) b
  | 0 => rfl
  | b + 1 => by
    show cntB q (a + b) + (if q (a + b) = true then 1 else 0) = cntB q a + (cntB (fun k => q (a + k)) b + if q (a + b) = true then 1 else 0)
    rw [cntB_split b]
    omega
theorem ntA_ok {T R : ow_NT} (hT : nv T) (hR : nv R) (h12 : T.1 + R.1 ≤ 12) : vn (ntA T R).1 (ntA T R).2.2.1 ∧ ow_b24 (ntA T R).2.2.1 ∧ np_rg (ntA T R).1 (ntA T R).2.2.1 = np_rg T.1 T.2.2.1 + np_rg R.1 R.2.2.1 ∧ (∀ k i, k < 2 * T.1 → it (ntA T R).2.2.1.1 i k = it T.2.2.1.1 i k) ∧ ∀ k i, k < 2 * R.1 → it (ntA T R).2.2.1.1 i (2 * T.1 + k) = 2 * T.1 + it R.2.2.1.1 i k := by
  obtain ⟨t1, t2, t3, t4⟩ := hT
  obtain ⟨r1, r2, r3, r4⟩ := hR
  have lo : ∀ (N M : Nat → Nat) k, k < 2 * T.1 → np_app N M (2 * T.1) (2 * R.1) k = N k := fun N M k hk => if_neg (by omega)
  have hi : ∀ (N M : Nat → Nat) k, k < 2 * R.1 → np_app N M (2 * T.1) (2 * R.1) (2 * T.1 + k) = 2 * T.1 + M k := by
    intro N M k hk
    unfold np_app
    rw [if_pos (by omega), show 2 * T.1 + k - 2 * T.1 = k by omega]
  have hv : vn (T.1 + R.1) (ntA T R).2.2.1 := by
    intro k hk
    by_cases e : k < 2 * T.1
    · obtain ⟨a1, a2, a3, a4⟩ := t1 k e
      show np_app _ _ _ _ k < _ ∧ np_app _ _ _ _ k < _ ∧ np_app _ _ _ _ (np_app _ _ _ _ k) = k ∧ np_app _ _ _ _ (np_app _ _ _ _ k) = k
      rw [lo _ _ k e, lo _ _ k e, lo _ _ _ a1, lo _ _ _ a2]
      exact ⟨by omega, by omega, a3, a4⟩
    · obtain ⟨j, rfl⟩ : ∃ j, k = 2 * T.1 + j := ⟨k - 2 * T.1, by omega⟩
      have hj : j < 2 * R.1 := by omega
      obtain ⟨a1, a2, a3, a4⟩ := r1 j hj
      show np_app _ _ _ _ (2 * T.1 + j) < _ ∧ np_app _ _ _ _ (2 * T.1 + j) < _ ∧ np_app _ _ _ _ (np_app _ _ _ _ (2 * T.1 + j)) = _ ∧ np_app _ _ _ _ (np_app _ _ _ _ (2 * T.1 + j)) = _
      rw [hi _ _ j hj, hi _ _ j hj, hi _ _ _ a1, hi _ _ _ a2, a3, a4]
      exact ⟨by omega, by omega, rfl, rfl⟩
  have i1 : ∀ k i, k < 2 * T.1 → it (ntA T R).2.2.1.1 i k = it T.2.2.1.1 i k := by
    intro k i hk
    induction i with
    | zero => rfl
    | succ i ih =>
      show (ntA T R).2.2.1.1 (it (ntA T R).2.2.1.1 i k) = T.2.2.1.1 (it T.2.2.1.1 i k)
      rw [ih]
      exact lo _ _ _ (it_lt t1 hk i)
  have i2 : ∀ k i, k < 2 * R.1 → it (ntA T R).2.2.1.1 i (2 * T.1 + k) = 2 * T.1 + it R.2.2.1.1 i k := by
    intro k i hk
    induction i with
    | zero => rfl
    | succ i ih =>
      show (ntA T R).2.2.1.1 (it (ntA T R).2.2.1.1 i (2 * T.1 + k)) = 2 * T.1 + R.2.2.1.1 (it R.2.2.1.1 i k)
      rw [ih]
      exact hi _ _ _ (it_lt r1 hk i)
  refine ⟨hv, ⟨fun k => ?_, fun k => ?_⟩, ?_, i1, i2⟩
  · show (if 2 * T.1 ≤ k ∧ k < 2 * T.1 + 2 * R.1 then 2 * T.1 + R.2.2.1.1 (k - 2 * T.1) else T.2.2.1.1 k) < 24
    split
    · have := (r1 (k - 2 * T.1) (by omega)).1
      omega
    · exact t3.1 k
  · show (if 2 * T.1 ≤ k ∧ k < 2 * T.1 + 2 * R.1 then 2 * T.1 + R.2.2.1.2 (k - 2 * T.1) else T.2.2.1.2 k) < 24
    split
    · have := (r1 (k - 2 * T.1) (by omega)).2.1
      omega
    · exact t3.2 k
  · show np_rg (T.1 + R.1) (ntA T R).2.2.1 = _
    unfold np_rg
    rw [show 2 * (T.1 + R.1) = 2 * T.1 + 2 * R.1 by omega, cntB_split]
    congr 1
    · refine cntB_cg _ (fun k hk => ?_)
      have h1 := lst_all hv h12 (show k < 2 * (T.1 + R.1) by omega)
      have h2 := lst_all t1 t2 hk
      rw [Bool.eq_iff_iff, h1, h2]
      exact ⟨fun q i => by rw [← i1 k i hk]; exact q i, fun q i => by rw [i1 k i hk]; exact q i⟩
    · refine cntB_cg _ (fun k hk => ?_)
      have h1 := lst_all hv h12 (show 2 * T.1 + k < 2 * (T.1 + R.1) by omega)
      have h2 := lst_all r1 r2 hk
      rw [Bool.eq_iff_iff, h1, h2]
      exact ⟨fun q i => by have := q i; rw [i2 k i hk] at this; omega, fun q i => by have := q i; rw [i2 k i hk]; omega⟩
/-- an exchange between two rings makes one of them -/
theorem rg_merge {c v w : Nat} {S : ow_NP} (h : vn c S) (hc : c ≤ 12) (hv : v < 2 * c) (hw : w < 2 * c) (hne : ∀ i, it S.1 i v ≠ w) : np_rg c (np_exchange S v w) + 1 ≤ np_rg c S := by
  have hx := vn_exchange h hv hw
  obtain ⟨mv, hmv1, hmv2⟩ := ring_ex h hv
  obtain ⟨mw, hmw1, hmw2⟩ := ring_ex h hw
  have hne2 : ∀ i, it S.1 i w ≠ v := by
    intro i e
    obtain ⟨j, j1, j2⟩ := it_mod hmw2 i
    rw [e] at j2
    have : it S.1 (mw - j) v = w := by
      rw [j2, ← it_add, show mw - j + j = mw by omega]
      exact hmw2.2.1
    exact hne _ this
  -- along the rings
  have e1 : ∀ j, 1 ≤ j → j ≤ mw → it (np_exchange S v w).1 j v = it S.1 j w := by
    intro j
    induction j with
    | zero => intro h9; omega
    | succ j ih =>
      intro _ hj
      show (np_exchange S v w).1 (it (np_exchange S v w).1 j v) = S.1 (it S.1 j w)
      by_cases ej : j = 0
      · rw [ej]
        show (np_exchange S v w).1 v = S.1 w
        rw [np_exchange_1]
        have : v ≠ w := fun e9 => hne 0 e9
        rw [if_neg this, if_pos rfl]
      · rw [ih (by omega) (by omega), np_exchange_1, if_neg, if_neg (hne2 j)]
        exact hmw2.2.2 j (by omega) (by omega)
  have e2 : ∀ j, 1 ≤ j → j ≤ mv → it (np_exchange S v w).1 j w = it S.1 j v := by
    intro j
    induction j with
    | zero => intro h9; omega
    | succ j ih =>
      intro _ hj
      show (np_exchange S v w).1 (it (np_exchange S v w).1 j w) = S.1 (it S.1 j v)
      by_cases ej : j = 0
      · rw [ej]
        show (np_exchange S v w).1 w = S.1 v
        rw [np_exchange_1, if_pos rfl]
      · rw [ih (by omega) (by omega), np_exchange_1, if_neg (hne j), if_neg]
        exact hmv2.2.2 j (by omega) (by omega)
  have hvw : it (np_exchange S v w).1 mw v = w := by
    rw [e1 mw hmw2.1 (Nat.le_refl _)]
    exact hmw2.2.1
  have hwv : it (np_exchange S v w).1 mv w = v := by
    rw [e2 mv hmv2.1 (Nat.le_refl _)]
    exact hmv2.2.1
  -- what both rings hold is on the new ring, from any of its visits
  have allv : ∀ i, ∃ j, it (np_exchange S v w).1 j v = it S.1 i v := by
    intro i
    obtain ⟨j, j1, j2⟩ := it_mod hmv2 i
    rw [j2]
    by_cases ej : j = 0
    · rw [ej]
      exact ⟨0, rfl⟩
    · exact ⟨j + mw, by rw [it_add, hvw]; exact e2 j (by omega) (by omega)⟩
  have allw : ∀ i, ∃ j, it (np_exchange S v w).1 j v = it S.1 i w := by
    intro i
    obtain ⟨j, j1, j2⟩ := it_mod hmw2 i
    rw [j2]
    by_cases ej : j = 0
    · rw [ej]
      exact ⟨mw, hvw⟩
    · exact ⟨j, e1 j (by omega) (by omega)⟩
  obtain ⟨lv, lv1, ⟨a, a1, a2⟩, lv3⟩ := ring_least h hc hv hmv2 hmv1
  obtain ⟨lw, lw1, ⟨b, b1, b2⟩, lw3⟩ := ring_least h hc hw hmw2 hmw1
  have l1 : lst S.1 lv 24 = true := (lv3 lv ⟨a, a1, a2⟩).mpr rfl
  have l2 : lst S.1 lw 24 = true := (lw3 lw ⟨b, b1, b2⟩).mpr rfl
  have hlne : lv ≠ lw := by
    intro e
    have : it S.1 (mw - b + a) v = w := by
      rw [it_add, ← a2, e, b2, ← it_add, show mw - b + b = mw by omega]
      exact hmw2.2.1
    exact hne _ this
  -- a visit outside both rings goes as before
  have outs : ∀ k, k < 2 * c → (∀ i, it S.1 i k ≠ v) → (∀ i, it S.1 i k ≠ w) → ∀ i, it (np_exchange S v w).1 i k = it S.1 i k := by
    intro k hk h1 h2 i
    induction i with
    | zero => rfl
    | succ i ih =>
      show (np_exchange S v w).1 (it (np_exchange S v w).1 i k) = S.1 (it S.1 i k)
      rw [ih, np_exchange_1, if_neg (h2 i), if_neg (h1 i)]
  let M := if lv < lw then lw else lv
  have hM : lst S.1 M 24 = true ∧ M < 2 * c := by
    show lst S.1 (if lv < lw then lw else lv) 24 = true ∧ (if lv < lw then lw else lv) < 2 * c
    split
    · exact ⟨l2, lw1⟩
    · exact ⟨l1, lv1⟩
  have hrm := cntB_rm (q := fun k => lst S.1 k 24) hM.2 hM.1
  show cntB (fun k => lst (np_exchange S v w).1 k 24) (2 * c) + 1 ≤ cntB (fun k => lst S.1 k 24) (2 * c)
  rw [hrm]
  refine Nat.succ_le_succ (cntB_mono _ (fun k hk hl => ?_))
  have hl2 := (lst_all hx hc hk).mp hl
  rw [Bool.and_eq_true, decide_eq_true_iff]
  -- a visit of one of both rings
  have both : (∃ i, it (np_exchange S v w).1 i k = v) → lst S.1 k 24 = true ∧ k ≠ M := by
    rintro ⟨i, ei⟩
    have kv : ∀ j, k ≤ it S.1 j v := by
      intro j
      obtain ⟨q, hq⟩ := allv j
      have := hl2 (q + i)
      rw [it_add, ei, hq] at this
      exact this
    have kw : ∀ j, k ≤ it S.1 j w := by
      intro j
      obtain ⟨q, hq⟩ := allw j
      have := hl2 (q + i)
      rw [it_add, ei, hq] at this
      exact this
    have k1 : k ≤ lv := by rw [a2]; exact kv a
    have k2 : k ≤ lw := by rw [b2]; exact kw b
    -- k itself is on one of them
    have hon : (∃ j, k = it S.1 j v) ∨ ∃ j, k = it S.1 j w := by
      obtain ⟨mk, hk1, hk2⟩ := ring_ex hx hk
      obtain ⟨i2, i3, i4⟩ := it_mod hk2 i
      rw [ei] at i4
      have back : k = it (np_exchange S v w).1 (mk - i2) v := by
        have hh : it (np_exchange S v w).1 (mk - i2) (it (np_exchange S v w).1 i2 k) = k := by
          rw [← it_add, show mk - i2 + i2 = mk by omega]
          exact hk2.2.1
        rw [← i4] at hh
        exact hh.symm
      have cov : ∀ n, (∃ j, it (np_exchange S v w).1 n v = it S.1 j v) ∨ ∃ j, it (np_exchange S v w).1 n v = it S.1 j w := by
        intro n
        induction n with
        | zero => exact Or.inl ⟨0, rfl⟩
        | succ n ihn =>
          show (∃ j, (np_exchange S v w).1 (it (np_exchange S v w).1 n v) = _) ∨ ∃ j, (np_exchange S v w).1 (it (np_exchange S v w).1 n v) = _
          rw [np_exchange_1]
          by_cases q1 : it (np_exchange S v w).1 n v = w
          · rw [if_pos q1]
            exact Or.inl ⟨1, rfl⟩
          · rw [if_neg q1]
            by_cases q2 : it (np_exchange S v w).1 n v = v
            · rw [if_pos q2]
              exact Or.inr ⟨1, rfl⟩
            · rw [if_neg q2]
              rcases ihn with ⟨j, ej⟩ | ⟨j, ej⟩
              · exact Or.inl ⟨j + 1, by rw [ej]; rfl⟩
              · exact Or.inr ⟨j + 1, by rw [ej]; rfl⟩
      rcases cov (mk - i2) with ⟨j, ej⟩ | ⟨j, ej⟩
      · exact Or.inl ⟨j, back.trans ej⟩
      · exact Or.inr ⟨j, back.trans ej⟩
    have hlk : lst S.1 k 24 = true := by
      refine (lst_all h hc hk).mpr (fun n => ?_)
      rcases hon with ⟨j, ej⟩ | ⟨j, ej⟩
      · have e9 : it S.1 n k = it S.1 (n + j) v := by rw [it_add, ← ej]
        rw [e9]
        exact kv (n + j)
      · have e9 : it S.1 n k = it S.1 (n + j) w := by rw [it_add, ← ej]
        rw [e9]
        exact kw (n + j)
    refine ⟨hlk, ?_⟩
    show k ≠ if lv < lw then lw else lv
    split <;> omega
  by_cases q1 : ∃ i, it (np_exchange S v w).1 i k = v
  · exact both q1
  · have q2 : ∀ i, it (np_exchange S v w).1 i k ≠ w := by
      intro i e
      exact q1 ⟨mv + i, by rw [it_add, e]; exact hwv⟩
    have same : ∀ i, it S.1 i k = it (np_exchange S v w).1 i k := by
      intro i
      induction i with
      | zero => rfl
      | succ i ih =>
        show S.1 (it S.1 i k) = (np_exchange S v w).1 (it (np_exchange S v w).1 i k)
        rw [ih, np_exchange_1, if_neg (q2 i), if_neg (fun e => q1 ⟨i, e⟩)]
    have hlk : lst S.1 k 24 = true := by
      refine (lst_all h hc hk).mpr (fun n => ?_)
      rw [same n]
      exact hl2 n
    refine ⟨hlk, ?_⟩
    show k ≠ if lv < lw then lw else lv
    intro e
    split at e
    · -- k is lw
      have : it S.1 (mw - b) k = w := by
        rw [e, b2, ← it_add, show mw - b + b = mw by omega]
        exact hmw2.2.1
      rw [same] at this
      exact q2 _ this
    · have : it S.1 (mv - a) k = v := by
        rw [e, a2, ← it_add, show mv - a + a = mv by omega]
        exact hmv2.2.1
      rw [same] at this
      exact q1 ⟨_, this⟩
section CJ2
variable {vl : Nat → Nat} {y : ow_MS} {x x' : Int32}
theorem e_X11_smooth {vl : Nat → Nat} {r0 : Nat} {x1 : Int32} {x2 : Int32} {z : ow_MS} {Q : (Nat × Int32 × ow_MS) → Prop} (H : Tt (fun K _ => cm_X11_smooth_0 vl K x1 x2 r0 z) Q) : Te (fun K => ce_X11_smooth vl K r0 x1 x2 z) Q := w_te0 H
theorem tc_smooth (hN : gN y) : Te (fun K => ce_X11_smooth vl K 0 x x' y) (fun r => gN r.2.2 ∧ fr uP y r.2.2) := by
  refine e_X11_smooth ?_; unfold cm_X11_smooth_0
  refine w_tc0 (tc_need hN.1) ?_ ?_
  · rintro y1 ⟨h1, rfl⟩
    rcases h1 with ⟨-, d, A, sg, c, hd, rfl, hs, hA, hne⟩ | h1
    · refine w_cs0 (tc_ld nH4 hN hd hs hA) ?_
      rintro y3 ⟨hN3, f3, T, hT, hT1, hT2⟩
      have f3u : fr uP y1 y3 := fr_mono (fun g hg => by unfold cL at hg; unfold uP; omega) f3
      have hv := hT.2.2.1
      have h12 := hv.2.1
      refine w_tc0 (tc_needCrossing hT.1.1 hv.2.1) ?_ ?_
      · rintro y4 ⟨h4, rfl⟩
        rcases h4 with ⟨-, i, hi, rfl⟩ | h4
        · refine w_cs0 (tc_smoothCrossing nH4 hT.1 hv.2.2.1 hi h12) ?_
          rintro y5 ⟨g1, g2⟩
          obtain ⟨c1, hc1⟩ : ∃ c1, T.1 = c1 + 1 := ⟨T.1 - 1, by omega⟩
          have hx : vn T.1 (np_exchange T.2.2.1 (2 * i) (2 * i + 1)) := vn_exchange hv.1 (by omega) (by omega)
          have hrx := np_rg_exchange hv.1 h12 (show 2 * i < 2 * T.1 by omega) (show 2 * i + 1 < 2 * T.1 by omega)
          have hbx : ow_b24 (np_exchange T.2.2.1 (2 * i) (2 * i + 1)) := b24_exchange hv.2.2.1 (by omega) (by omega)
          generalize hS : nt_rm (ntS T (np_exchange T.2.2.1 (2 * i) (2 * i + 1))) i = T5 at g1
          have e1 : T5.1 = c1 := by
            rw [← hS]
            show T.1 - 1 = c1
            omega
          have hv5 : vn T5.1 T5.2.2.1 := by
            rw [e1, ← hS]
            show vn c1 (np_rmS (np_exchange T.2.2.1 (2 * i) (2 * i + 1)) i (T.1 - 1))
            rw [show T.1 - 1 = c1 by omega]
            rw [hc1] at hx
            exact vn_rm hx (by omega)
          have hb5 : ow_b24 T5.2.2.1 := by
            rw [← hS]
            exact np_rmS_b24 hbx (by omega)
          have hr5 : np_rg T5.1 T5.2.2.1 + T5.2.1 ≤ 7 := by
            rw [e1, ← hS]
            show np_rg c1 (np_rmS (np_exchange T.2.2.1 (2 * i) (2 * i + 1)) i (T.1 - 1)) + np_rmN (np_exchange T.2.2.1 (2 * i) (2 * i + 1)) i T.2.1 ≤ 7
            rw [show T.1 - 1 = c1 by omega]
            rw [hc1] at hx hrx
            rw [np_rg_rm hx (by omega) (by omega)]
            have := hv.2.2.2
            rw [hc1] at this
            omega
          have hc5 : T5.1 ≤ 12 := by omega
          refine w_cs0 (tc_markRings nH4 g1 hb5 hc5) ?_
          rintro y6 ⟨m1, m2, m3⟩
          have hof := np_rings_of (N := T5.2.2.1.1) (c := T5.1) (fun a ha => (hv5 a ha).1) (y5.2.1 (4000 + 5))
          rw [hof.2, rings_cnt hv5 hc5] at m2
          have hy6 : cAt y6 4000 T5 := cAt_fr m3 (fun g hg h9 => by unfold cP at hg; unfold cR at h9; omega) g1
          have hN5 : gN y5 := gN_net nH4 g2 (fun g hg => by unfold cP at hg; omega) ⟨T5, g1, hb5⟩ hN3
          have hN6 : gN y6 := gN_net nH4 m3 (fun g hg => by unfold cR at hg; omega) ⟨T5, hy6, hb5⟩ hN5
          have f6u : fr uP y1 y6 := fr_tr f3u (fr_tr (fr_mono (fun g hg => by unfold cP at hg; unfold uP; omega) g2) (fr_mono (fun g hg => by unfold cR at hg; unfold uP; omega) m3))
          refine w_rdF m2 (w_rdF hy6.2.1 ?_)
          rw [nI_add]
          refine w_le (b := 6) (by omega) (by omega) (fun h6 => ?_) (fun h6 => w_some ⟨hN6, f6u⟩)
          refine w_tc1 (tc_freeDiagram (dgC_E hN6.1)) ?_ ?_
          · rintro v y7 ⟨h7, rfl⟩
            rcases h7 with ⟨e, he, -, rfl, -, -⟩ | h7
            · refine w_cs1 (tc_keep hN6 he hy6 ⟨hv5, hc5, hb5, h6⟩) ?_
              rintro r y8 ⟨-, q1, q2, -⟩
              exact w_some ⟨q1, fr_tr f6u q2⟩
            · exact absurd (show (0 : Nat) = 3 from h7.1) (by decide)
          · rintro a v y7 ha ⟨h7, rfl⟩
            exact w_some ⟨hN6, f6u⟩
        · exact absurd (show (0 : Nat) = 1 from h4.1) (by decide)
      · rintro a y4 ha ⟨h4, rfl⟩
        exact w_some ⟨hN3, f3u⟩
    · exact absurd (show (0 : Nat) = 1 from h1.1) (by decide)
  · rintro a y1 ha ⟨h1, rfl⟩
    exact w_some ⟨hN, fr_rf⟩
theorem e_X11_reverse {vl : Nat → Nat} {r0 : Nat} {x1 : Int32} {x2 : Int32} {z : ow_MS} {Q : (Nat × Int32 × ow_MS) → Prop} (H : Tt (fun K k => c_X11_reverse vl K k 0 x1 x2 r0 z) Q) : Te (fun K => ce_X11_reverse vl K r0 x1 x2 z) Q := w_te H
theorem u_X11_reverse_0 {vl : Nat → Nat} {x1 : Int32} {x2 : Int32} {r0 : Nat} {z : ow_MS} {Q : (Nat × Int32 × ow_MS) → Prop} (H : Tt (fun K k => cm_X11_reverse_0 vl K (c_X11_reverse vl K k) x1 x2 r0 z) Q) : Tt (fun K k => c_X11_reverse vl K k 0 x1 x2 r0 z) Q := w_un (fun _ _ => rfl) H
theorem u_X11_reverse_1 {vl : Nat → Nat} {x1 : Int32} {x2 : Int32} {r0 : Nat} {z : ow_MS} {Q : (Nat × Int32 × ow_MS) → Prop} (H : Tt (fun K k => cm_X11_reverse_1 vl K (c_X11_reverse vl K k) x1 x2 r0 z) Q) : Tt (fun K k => c_X11_reverse vl K k 1 x1 x2 r0 z) Q := w_un (fun _ _ => rfl) H
theorem tc_reverse (hN : gN y) : Te (fun K => ce_X11_reverse vl K 0 x x' y) (fun r => gN r.2.2 ∧ fr uP y r.2.2) := by
  let Q0 : ow_MS → Nat × Int32 × ow_MS → Prop := fun y r => gN r.2.2 ∧ fr uP y r.2.2
  refine e_X11_reverse ?_
  refine u_X11_reverse_0 ?_; unfold cm_X11_reverse_0
  refine w_tc0 (tc_need hN.1) ?_ ?_
  · rintro y1 ⟨h1, rfl⟩
    rcases h1 with ⟨-, d, A, sg, c, hd, rfl, hs, hA, hne⟩ | h1
    · refine w_cs0 (tc_ld nH4 hN hd hs hA) ?_
      rintro y3 ⟨hN3, f3, T, hT, hT1, hT2⟩
      have f3u : fr uP y1 y3 := fr_mono (fun g hg => by unfold cL at hg; unfold uP; omega) f3
      have hv := hT.2.2.1
      have h6 := hA.2.2.2.2
      have c1 : Tt (fun K t => c_X11_reverse vl K t 1 (nI d) x' 0 y3) (Q0 y1) := by
        refine u_X11_reverse_1 ?_; unfold cm_X11_reverse_1
        refine w_tc1 (tc_freeDiagram (dgC_E hN3.1)) ?_ ?_
        · rintro v y5 ⟨h5, rfl⟩
          rcases h5 with ⟨e, he, -, rfl, -, -⟩ | h5
          · refine w_cs0 (tc_turn (F := y5.2.1 4005) nH4 hT.1 hv.2.1 (fun _ => rfl)) ?_
            rintro y6 ⟨g1, g2⟩
            have hv6 := nv_turn (t := fun v => decide (x' = -1) || decide (y5.2.1 4005 v = x')) (G := (np_turn (fun v => decide (x' = -1) || decide (y5.2.1 4005 v = x')) T.2.2.1 T.2.2.2 (2 * T.1)).2) hv (fun k hk => by
              obtain ⟨u, hu, eu⟩ := lbv_sur hT.2.1 hk
              have e9 : T.2.2.1.1 (lbv A (fun x => x) u) = lbv A (fun x => x) (rn_nx A u) := hT.2.1.2.2.2.2.2.1 u hu
              have e1 : y5.2.1 4005 (lbv A (fun x => x) u) = nI (rn_c A u) := hT.2.2.2.2.1 u hu
              have e2 : y5.2.1 4005 (lbv A (fun x => x) (rn_nx A u)) = nI (rn_c A (rn_nx A u)) := hT.2.2.2.2.1 _ (rnx_lt hu)
              rw [c_nx hu] at e2
              rw [← eu]
              show (decide (x' = -1) || decide (y5.2.1 4005 (T.2.2.1.1 (lbv A (fun x => x) u)) = x')) = (decide (x' = -1) || decide (y5.2.1 4005 (lbv A (fun x => x) u) = x'))
              rw [e9, e2, e1])
            refine w_cs1 (tc_keep (gN_net nH4 g2 (fun g hg => by unfold cP at hg; omega) ⟨_, g1, hv6.2.2.1⟩ hN3) he g1 hv6) ?_
            rintro r y7 ⟨-, q1, q2, -⟩
            exact w_some ⟨q1, fr_tr f3u (fr_tr (fr_mono (fun g hg => by unfold cP at hg; unfold uP; omega) g2) q2)⟩
          · exact absurd (show (0 : Nat) = 3 from h5.1) (by decide)
        · rintro a v y5 ha ⟨h5, rfl⟩
          exact w_some ⟨hN3, f3u⟩
      refine w_if (fun _ => c1) (fun _ => w_tc0 (tc_needComponent hT.2.2.2.2.2 (by omega)) ?_ ?_)
      · rintro y4 ⟨h4, e4⟩
        have e4 : y4 = y3 := e4
        rw [e4]
        exact c1
      · rintro a y4 ha ⟨h4, e4⟩
        have e4 : y4 = y3 := e4
        rw [e4]
        exact w_some ⟨hN3, f3u⟩
    · exact absurd (show (0 : Nat) = 1 from h1.1) (by decide)
  · rintro a y1 ha ⟨h1, rfl⟩
    exact w_some ⟨hN, fr_rf⟩
/-- both nets loaded -/
def lb2 (y y2 : ow_MS) (A B : rn_L) (j : Nat) : Prop := gN y2 ∧ fr uP y y2 ∧ ∃ T R sg sg', shA y2 4000 A sg T ∧ shA y2 5000 B sg' R ∧ T.1 + R.1 ≤ 12 ∧ A.length + B.length ≤ 6 + j
theorem e_X11_loadBoth {vl : Nat → Nat} {r0 : Nat} {x1 : Int32} {x2 : Int32} {x3 : Int32} {z : ow_MS} {Q : (Nat × ow_MS) → Prop} (H : Tt (fun K _ => cm_X11_loadBoth_0 vl K x1 x2 x3 r0 z) Q) : Te (fun K => ce_X11_loadBoth vl K r0 x1 x2 x3 z) Q := w_te0 H
theorem tc_loadBoth {d e c c' j : Nat} {A B : rn_L} {sg sg' : Nat → Bool} (hN : gN y) (hd : d < 40) (he : e < 40) (hs : slC y 1000 d (clC sg A)) (hA : okL A c) (hs' : slC y 1000 e (clC sg' B)) (hB : okL B c') (hne : A ≠ []) (hj : j ≤ 1) : Te (fun K => ce_X11_loadBoth vl K 0 (nI d) (nI e) (nI j) y) (fun r => gN r.2 ∧ fr uP y r.2 ∧ (r.1 = 0 ∧ lb2 y r.2 A B j ∨ r.1 = 4)) := by
  refine e_X11_loadBoth ?_; unfold cm_X11_loadBoth_0
  refine w_cs0 (tc_ld nH4 hN hd hs hA) ?_
  rintro y1 ⟨hN1, f1, T, hT, hT1, hT2⟩
  have f1u : fr uP y y1 := fr_mono (fun g hg => by unfold cL at hg; unfold uP; omega) f1
  have hs1 : slC y1 1000 e (clC sg' B) := slC_fr f1 (fun q hq h9 => by unfold cW at hq; unfold cL at h9; omega) hs'
  refine w_cs0 (tc_ld nH5 hN1 he hs1 hB) ?_
  rintro y2 ⟨hN2, f2, R, hR, hR1, hR2⟩
  have f2u : fr uP y y2 := fr_tr f1u (fr_mono (fun g hg => by unfold cL at hg; unfold uP; omega) f2)
  have k4 : ∀ g, 4001 ≤ g → g ≤ 4011 → ¬ cL 5000 g := fun g g1 g2 h9 => by unfold cL at h9; omega
  have hT2' : shA y2 4000 A sg T := by
    obtain ⟨a1, a2, a3, a4, a5, a6⟩ := hT
    refine ⟨cAt_fr f2 (fun g hg => k4 g (by unfold cP at hg; omega) (by unfold cP at hg; omega)) a1, a2, a3, fun i q e => ?_, fun v hv => ?_, ?_⟩
    · rw [(f2 4004 (k4 _ (by omega) (by omega))).2.1]
      exact a4 i q e
    · rw [(f2 4005 (k4 _ (by omega) (by omega))).2.1]
      exact a5 v hv
    · rw [(f2 4010 (k4 _ (by omega) (by omega))).1]
      exact a6
  have t12 := hT.2.2.1.2.1
  have r12 := hR.2.2.1.2.1
  have hA6 := hA.2.2.2.2
  have hB6 := hB.2.2.2.2
  have hA1 : 1 ≤ A.length := List.length_pos_iff.mpr hne
  refine w_rdF hT2'.1.1 (w_rdF hR.1.1 ?_)
  rw [nI_add]
  refine w_lt (a := 12) (by omega) (by omega) (fun h9 => w_some ⟨hN2, f2u, Or.inr rfl⟩) (fun h9 => w_rdF hT2'.2.2.2.2.2 (w_rdF hR.2.2.2.2.2 ?_))
  rw [nI_add, show nI (A.length + B.length) - nI j = nI (A.length + B.length - j) from pk_sub (by omega)]
  refine w_le (b := 6) (by omega) (by omega) (fun h6 => w_some ⟨hN2, f2u, Or.inl ⟨rfl, hN2, f2u, T, R, sg, sg', hT2', hR, h9, by omega⟩⟩) (fun _ => w_some ⟨hN2, f2u, Or.inr rfl⟩)
theorem e_X11_apart {vl : Nat → Nat} {r0 : Nat} {x1 : Int32} {x2 : Int32} {z : ow_MS} {Q : (Nat × Int32 × ow_MS) → Prop} (H : Tt (fun K _ => cm_X11_apart_0 vl K x1 x2 r0 z) Q) : Te (fun K => ce_X11_apart vl K r0 x1 x2 z) Q := w_te0 H
theorem tc_apart (hN : gN y) : Te (fun K => ce_X11_apart vl K 0 x x' y) (fun r => gN r.2.2 ∧ fr uP y r.2.2) := by
  refine e_X11_apart ?_; unfold cm_X11_apart_0
  refine w_tc0 (tc_need hN.1) ?_ ?_
  · rintro y1 ⟨h1, rfl⟩
    rcases h1 with ⟨-, d, A, sg, c, hd, rfl, hs, hA, hne⟩ | h1
    · refine w_tc0 (tc_need hN.1) ?_ ?_
      · rintro y2 ⟨h2, rfl⟩
        rcases h2 with ⟨-, e, B, sg', c', he, rfl, hs', hB, hne'⟩ | h2
        · refine w_tc0 (tc_loadBoth (j := 0) hN hd he hs hA hs' hB hne (by omega)) ?_ ?_
          · rintro y3 ⟨hN3, f3, h3⟩
            rcases h3 with ⟨-, -, -, T, R, s1, s2, hT, hR, h12, h6⟩ | h3
            · refine w_tc1 (tc_freeDiagram (dgC_E hN3.1)) ?_ ?_
              · rintro v y4 ⟨h4, rfl⟩
                rcases h4 with ⟨q, hq, -, rfl, -, -⟩ | h4
                · refine w_cs0 (tc_append nH4 nH5 (by unfold nDj; omega) hT.1 hR.1 h12) ?_
                  rintro y5 ⟨g1, g2⟩
                  have g1 : cAt y5 4000 (ntA T R) := g1
                  obtain ⟨a1, a2, a3, -, -⟩ := ntA_ok hT.2.2.1 hR.2.2.1 h12
                  have r1 := iso_rg hT.2.1
                  have r2 := iso_rg hR.2.1
                  have hv : nv (ntA T R) := ⟨a1, h12, a2, by
                    rw [a3]
                    show np_rg T.1 T.2.2.1 + np_rg R.1 R.2.2.1 + (T.2.1 + R.2.1) ≤ 6
                    omega⟩
                  refine w_cs1 (tc_keep (gN_net nH4 g2 (fun g hg => by unfold cP at hg; omega) ⟨_, g1, a2⟩ hN3) hq g1 hv) ?_
                  rintro r y6 ⟨-, q1, q2, -⟩
                  exact w_some ⟨q1, fr_tr f3 (fr_tr (fr_mono (fun g hg => by unfold cP at hg; unfold uP; omega) g2) q2)⟩
                · exact absurd (show (0 : Nat) = 3 from h4.1) (by decide)
              · rintro a v y4 ha ⟨h4, rfl⟩
                exact w_some ⟨hN3, f3⟩
            · exact absurd (show (0 : Nat) = 4 from h3) (by decide)
          · rintro a y3 ha ⟨hN3, f3, h3⟩
            exact w_some ⟨hN3, f3⟩
        · exact absurd (show (0 : Nat) = 1 from h2.1) (by decide)
      · rintro a y2 ha ⟨h2, rfl⟩
        exact w_some ⟨hN, fr_rf⟩
    · exact absurd (show (0 : Nat) = 1 from h1.1) (by decide)
  · rintro a y1 ha ⟨h1, rfl⟩
    exact w_some ⟨hN, fr_rf⟩
theorem e_X11_join {vl : Nat → Nat} {r0 : Nat} {x1 : Int32} {x2 : Int32} {x3 : Int32} {x4 : Int32} {z : ow_MS} {Q : (Nat × Int32 × ow_MS) → Prop} (H : Tt (fun K _ => cm_X11_join_0 vl K x1 x2 x3 x4 r0 z) Q) : Te (fun K => ce_X11_join vl K r0 x1 x2 x3 x4 z) Q := w_te0 H
theorem tc_join {v w : Int32} (hN : gN y) : Te (fun K => ce_X11_join vl K 0 x v x' w y) (fun r => gN r.2.2 ∧ fr uP y r.2.2) := by
  refine e_X11_join ?_; unfold cm_X11_join_0
  refine w_tc0 (tc_need hN.1) ?_ ?_
  · rintro y1 ⟨h1, rfl⟩
    rcases h1 with ⟨-, d, A, sg, c, hd, rfl, hs, hA, hne⟩ | h1
    · have e3 : y1.2.1 1003 d = nI c := by
        have := hs.1
        rw [(okL_c (sg := sg) hA).1] at this
        exact this
      have hc12 := hA.2.2.2.1
      refine w_if (fun _ => w_some ⟨hN, fr_rf⟩) (fun v0 => w_crI (tH_3 ch_1000) rfl hd e3 ?_)
      obtain ⟨i, i31, rfl⟩ := nI_of v0
      rw [show (2 : Int32) * nI c = nI (2 * c) from pk_mul 2 _]
      refine w_lt i31 (by omega) (fun hic => ?_) (fun _ => w_some ⟨hN, fr_rf⟩)
      refine w_tc0 (tc_need hN.1) ?_ ?_
      · rintro y2 ⟨h2, rfl⟩
        rcases h2 with ⟨-, e, B, sg', c', he, rfl, hs', hB, hne'⟩ | h2
        · have e3' : y2.2.1 1003 e = nI c' := by
            have := hs'.1
            rw [(okL_c (sg := sg') hB).1] at this
            exact this
          have hc12' := hB.2.2.2.1
          refine w_if (fun _ => w_some ⟨hN, fr_rf⟩) (fun w0 => w_crI (tH_3 ch_1000) rfl he e3' ?_)
          obtain ⟨j, j31, rfl⟩ := nI_of w0
          rw [show (2 : Int32) * nI c' = nI (2 * c') from pk_mul 2 _]
          refine w_lt j31 (by omega) (fun hjc => ?_) (fun _ => w_some ⟨hN, fr_rf⟩)
          refine w_tc0 (tc_loadBoth (j := 1) hN hd he hs hA hs' hB hne (by omega)) ?_ ?_
          · rintro y3 ⟨hN3, f3, h3⟩
            rcases h3 with ⟨-, -, -, T, R, s1, s2, hT, hR, h12, h6⟩ | h3
            · refine w_tc1 (tc_freeDiagram (dgC_E hN3.1)) ?_ ?_
              · rintro q y4 ⟨h4, rfl⟩
                rcases h4 with ⟨q, hq, -, rfl, -, -⟩ | h4
                · have hlA := hT.2.1.2.1
                  have hlB := hR.2.1.2.1
                  have hlA' := okF_len hA.1
                  have hlB' := okF_len hB.1
                  have hiv : i < A.flatten.length := by omega
                  have hjv : j < B.flatten.length := by omega
                  have a1 := lbv_lt hT.2.1 hiv
                  have b1 := lbv_lt hR.2.1 hjv
                  have a1' : lb (vAt A i) < 2 * T.1 := a1
                  have b1' : lb (vAt B j) < 2 * R.1 := b1
                  refine w_crI (nH_4 nH4) rfl (show i < 24 by omega) (hT.2.2.2.1 i _ (vAt_of hiv)) (w_rdF hT.1.1 (w_crI (nH_4 nH5) rfl (show j < 24 by omega) (hR.2.2.2.1 j _ (vAt_of hjv)) ?_))
                  refine w_cs0 (tc_append nH4 nH5 (by unfold nDj; omega) hT.1 hR.1 h12) ?_
                  rintro y5 ⟨g1, g2⟩
                  have g1 : cAt y5 4000 (ntA T R) := g1
                  obtain ⟨n1, n2, n3, n4, n5⟩ := ntA_ok hT.2.2.1 hR.2.2.1 h12
                  have n1' : vn (T.1 + R.1) (ntA T R).2.2.1 := n1
                  rw [show (2 : Int32) * nI T.1 = nI (2 * T.1) from pk_mul 2 _, nI_add]
                  refine w_cs0 (tc_exchange nH4 g1 n2 (show lb (vAt A i) < 24 by omega) (show 2 * T.1 + lb (vAt B j) < 24 by omega)) ?_
                  rintro y6 ⟨g3, g4⟩
                  have hm := rg_merge (v := lb (vAt A i)) (w := 2 * T.1 + lb (vAt B j)) n1' h12 (by omega) (by omega) (fun k e9 => by
                    rw [n4 _ _ a1'] at e9
                    have := it_lt hT.2.2.1.1 a1' k
                    omega)
                  have r1 := iso_rg hT.2.1
                  have r2 := iso_rg hR.2.1
                  have n3' : np_rg (T.1 + R.1) (ntA T R).2.2.1 = np_rg T.1 T.2.2.1 + np_rg R.1 R.2.2.1 := n3
                  have hv : nv (ntS (ntA T R) (np_exchange (ntA T R).2.2.1 (lb (vAt A i)) (2 * T.1 + lb (vAt B j)))) := ⟨vn_exchange n1' (by omega) (by omega), h12, b24_exchange n2 (by omega) (by omega), by
                    show np_rg (T.1 + R.1) (np_exchange (ntA T R).2.2.1 (lb (vAt A i)) (2 * T.1 + lb (vAt B j))) + (T.2.1 + R.2.1) ≤ 6
                    omega⟩
                  have hN5 := gN_net nH4 g2 (fun g hg => by unfold cP at hg; omega) ⟨_, g1, n2⟩ hN3
                  refine w_cs1 (tc_keep (gN_net nH4 g4 (fun g hg => by unfold cP at hg; omega) ⟨_, g3, hv.2.2.1⟩ hN5) hq g3 hv) ?_
                  rintro r y7 ⟨-, q1, q2, -⟩
                  exact w_some ⟨q1, fr_tr f3 (fr_tr (fr_mono (fun g hg => by unfold cP at hg; unfold uP; omega) g2) (fr_tr (fr_mono (fun g hg => by unfold cP at hg; unfold uP; omega) g4) q2))⟩
                · exact absurd (show (0 : Nat) = 3 from h4.1) (by decide)
              · rintro a q y4 ha ⟨h4, rfl⟩
                exact w_some ⟨hN3, f3⟩
            · exact absurd (show (0 : Nat) = 4 from h3) (by decide)
          · rintro a y3 ha ⟨hN3, f3, h3⟩
            exact w_some ⟨hN3, f3⟩
        · exact absurd (show (0 : Nat) = 1 from h2.1) (by decide)
      · rintro a y2 ha ⟨h2, rfl⟩
        exact w_some ⟨hN, fr_rf⟩
    · exact absurd (show (0 : Nat) = 1 from h1.1) (by decide)
  · rintro a y1 ha ⟨h1, rfl⟩
    exact w_some ⟨hN, fr_rf⟩
end CJ2
