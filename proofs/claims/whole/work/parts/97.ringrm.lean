/-! rings under cutting, renaming, taking a crossing away -/
def exB (D : Nat → Bool) (v : Nat) : Nat → Bool := fun k => D k && decide (k ≠ v)
theorem exB_t {D : Nat → Bool} {v k : Nat} : exB D v k = true ↔ D k = true ∧ k ≠ v := by
  unfold exB
  rw [Bool.and_eq_true, decide_eq_true_eq]
theorem vD_exB {D : Nat → Bool} {v : Nat} {S : ow_NP} (h : vD (fun k => D k = true ∧ k ≠ v) S) : vD (fun k => exB D v k = true) S := vD_cg h (fun k => exB_t)
theorem inB_exB {D : Nat → Bool} {v : Nat} (hv : D v = true) (k : Nat) : D k = inB (exB D v) v k := by
  rw [Bool.eq_iff_iff, inB_t, exB_t]
  constructor
  · intro h
    by_cases e : k = v
    · exact Or.inr e
    · exact Or.inl ⟨h, e⟩
  · rintro (h | h)
    · exact h.1
    · rw [h]; exact hv
theorem rgD_cut {D : Nat → Bool} {S : ow_NP} (h : vD (fun k => D k = true) S) (hD : ∀ k, D k = true → k < 24) {v : Nat} (hv : D v = true) : rgD (exB D v) (np_cut S v) + (if S.1 v = v then 1 else 0) = rgD D S := by
  have hc := vD_exB (vD_cut (D := fun k => D k = true) h hv)
  have hne : ¬ exB D v v = true := fun q => (exB_t.mp q).2 rfl
  by_cases e : S.1 v = v
  · have hcs : np_cut S v = S := if_pos e
    rw [hcs] at hc ⊢
    rw [if_pos e, ← rgD_open hc hne (hD v hv), rgD_set (inB_exB hv)]
    exact rgD_cg (D := inB (exB D v) v) (vD_cg h (fun k => by rw [← inB_exB hv k])) (fun k _ => by
      show (if k = v then v else S.1 k) = S.1 k
      by_cases e2 : k = v
      · rw [if_pos e2, e2, e]
      · rw [if_neg e2])
  · have hcs : np_cut S v = nl S (S.2 v) (S.1 v) := if_neg e
    have e' : ¬ S.2 v = v := fun q => e (by have := (h v hv).2.2.2; rw [q] at this; exact this)
    have ha : exB D v (S.2 v) = true := exB_t.mpr ⟨(h v hv).2.1, e'⟩
    rw [if_neg e, Nat.add_zero, ← rgD_put hc (fun k hk => hD k (exB_t.mp hk).1) ha hne (hD v hv), rgD_set (S := S) (inB_exB hv)]
    exact rgD_cg (D := inB (exB D v) v) (vD_cg h (fun k => by rw [← inB_exB hv k])) (fun k _ => by
      rw [put_1, hcs]
      by_cases e2 : k = v
      · rw [if_pos e2, nl_1, if_pos rfl, e2]
      · rw [if_neg e2]
        by_cases e3 : k = S.2 v
        · rw [if_pos e3, e3, (h v hv).2.2.2]
        · rw [if_neg e3, nl_1, if_neg e3])
theorem rgD_rename {D : Nat → Bool} {S : ow_NP} (h : vD (fun k => D k = true) S) (hD : ∀ k, D k = true → k < 24) {v n : Nat} (hv : D v = true) (hn : ¬ D n = true) (hn24 : n < 24) : rgD (inB (exB D v) n) (np_rename S v n) = rgD D S := by
  have hc := vD_exB (vD_cut (D := fun k => D k = true) h hv)
  have hne : ¬ exB D v n = true := fun q => hn (exB_t.mp q).1
  have hcut := rgD_cut h hD hv
  have hE : ∀ k, exB D v k = true → k < 24 := fun k hk => hD k (exB_t.mp hk).1
  by_cases e : S.1 v = v
  · have hcs : np_cut S v = S := if_pos e
    have hr : np_rename S v n = nl S n n := if_pos e
    rw [hcs] at hc hcut
    rw [if_pos e] at hcut
    rw [hr, rgD_open hc hne hn24, hcut]
  · have hcs : np_cut S v = nl S (S.2 v) (S.1 v) := if_neg e
    have e' : ¬ S.2 v = v := fun q => e (by have := (h v hv).2.2.2; rw [q] at this; exact this)
    have ha : exB D v (S.2 v) = true := exB_t.mpr ⟨(h v hv).2.1, e'⟩
    have hr : np_rename S v n = nl (nl S (S.2 v) n) n ((nl S (S.2 v) n).1 v) := if_neg e
    rw [if_neg e, Nat.add_zero] at hcut
    rw [← hcut, ← rgD_put hc hE ha hne hn24]
    refine rgD_cg (vD_inB (vD_put (D := fun k => exB D v k = true) hc ha hne)) (fun k _ => ?_)
    rw [put_1, hcs, hr, nl_1, nl_1, nl_1, nl_1]
    by_cases e2 : k = n
    · rw [if_pos e2, if_pos e2, if_pos rfl, if_neg (fun q => e' q.symm)]
    · rw [if_neg e2, if_neg e2]
      by_cases e3 : k = S.2 v
      · rw [if_pos e3, if_pos e3]
      · rw [if_neg e3, if_neg e3, nl_1, if_neg e3]
/-- the rings of a net of c crossings -/
def ltB (c : Nat) : Nat → Bool := fun k => decide (k < 2 * c)
theorem ltB_t {c k : Nat} : ltB c k = true ↔ k < 2 * c := decide_eq_true_iff
theorem cntB_ext {q : Nat → Bool} {n : Nat} (h : ∀ k, n ≤ k → q k = false) : ∀ d, cntB q (n + d) = cntB q n := by
  intro d
  induction d with
  | zero => rfl
  | succ d ih =>
    show cntB q (n + d) + (if q (n + d) then 1 else 0) = cntB q n
    rw [ih, h (n + d) (by omega)]
    rfl
theorem np_rg_D {c : Nat} (S : ow_NP) (hc : c ≤ 12) : np_rg c S = rgD (ltB c) S := by
  unfold rgD np_rg
  have h := cntB_ext (q := fun k => ltB c k && lst S.1 k 24) (n := 2 * c) (fun k hk => by
    show (ltB c k && lst S.1 k 24) = false
    rw [show ltB c k = false from decide_eq_false (by omega), Bool.false_and]) (24 - 2 * c)
  rw [show 2 * c + (24 - 2 * c) = 24 from by omega] at h
  rw [h]
  exact cntB_cg (2 * c) (fun k hk => by
    show lst S.1 k 24 = (ltB c k && lst S.1 k 24)
    rw [ltB_t.mpr hk, Bool.true_and])
theorem np_cutN_eq (S : ow_NP) (v k : Nat) : np_cutN S v k = k + (if S.1 v = v then 1 else 0) := by
  unfold np_cutN
  split <;> rfl
/-- a crossing taken away: rings and circles stay as many -/
theorem np_rg_rm {c x k : Nat} {S : ow_NP} (h : vn (c + 1) S) (hc : c + 1 ≤ 12) (hx : x ≤ c) : np_rg c (np_rmS S x c) + np_rmN S x k = np_rg (c + 1) S + k := by
  have h0 : vD (fun j => ltB (c + 1) j = true) S := vD_cg (vD_vn.mpr h) (fun j => ltB_t)
  have hD : ∀ j, ltB (c + 1) j = true → j < 24 := fun j hj => by have := ltB_t.mp hj; omega
  have c1 := rgD_cut h0 hD (v := 2 * x) (ltB_t.mpr (by omega))
  have v1 := vD_exB (vD_cut (D := fun j => ltB (c + 1) j = true) h0 (v := 2 * x) (ltB_t.mpr (by omega)))
  have hD1 : ∀ j, exB (ltB (c + 1)) (2 * x) j = true → j < 24 := fun j hj => hD j (exB_t.mp hj).1
  have m1 : exB (ltB (c + 1)) (2 * x) (2 * x + 1) = true := exB_t.mpr ⟨ltB_t.mpr (by omega), by omega⟩
  have c2 := rgD_cut v1 hD1 (v := 2 * x + 1) m1
  have v2 := vD_exB (vD_cut (D := fun j => exB (ltB (c + 1)) (2 * x) j = true) v1 (v := 2 * x + 1) m1)
  have hD2 : ∀ j, exB (exB (ltB (c + 1)) (2 * x)) (2 * x + 1) j = true → j < 24 := fun j hj => hD1 j (exB_t.mp hj).1
  have hN : np_rmN S x k = k + (if S.1 (2 * x) = 2 * x then 1 else 0) + (if (np_cut S (2 * x)).1 (2 * x + 1) = 2 * x + 1 then 1 else 0) := by
    unfold np_rmN
    rw [np_cutN_eq, np_cutN_eq]
  have fin : rgD (ltB c) (np_rmS S x c) = rgD (exB (exB (ltB (c + 1)) (2 * x)) (2 * x + 1)) (np_cut (np_cut S (2 * x)) (2 * x + 1)) := by
    unfold np_rmS
    by_cases e : x = c
    · rw [if_pos e]
      refine rgD_set (fun j => ?_)
      rw [Bool.eq_iff_iff, ltB_t, exB_t, exB_t, ltB_t]
      omega
    · rw [if_neg e]
      have m2 : exB (exB (ltB (c + 1)) (2 * x)) (2 * x + 1) (2 * c) = true := exB_t.mpr ⟨exB_t.mpr ⟨ltB_t.mpr (by omega), by omega⟩, by omega⟩
      have n2 : ¬ exB (exB (ltB (c + 1)) (2 * x)) (2 * x + 1) (2 * x) = true := fun q => (exB_t.mp (exB_t.mp q).1).2 rfl
      have r1 := rgD_rename v2 hD2 (v := 2 * c) (n := 2 * x) m2 n2 (by omega)
      have v3 : vD (fun j => inB (exB (exB (exB (ltB (c + 1)) (2 * x)) (2 * x + 1)) (2 * c)) (2 * x) j = true) (np_rename (np_cut (np_cut S (2 * x)) (2 * x + 1)) (2 * c) (2 * x)) := vD_cg (vD_rename (D := fun j => exB (exB (ltB (c + 1)) (2 * x)) (2 * x + 1) j = true) v2 m2 n2) (fun j => by rw [inB_t, exB_t])
      have m3 : inB (exB (exB (exB (ltB (c + 1)) (2 * x)) (2 * x + 1)) (2 * c)) (2 * x) (2 * c + 1) = true := inB_t.mpr (Or.inl (exB_t.mpr ⟨exB_t.mpr ⟨exB_t.mpr ⟨ltB_t.mpr (by omega), by omega⟩, by omega⟩, by omega⟩))
      have n3 : ¬ inB (exB (exB (exB (ltB (c + 1)) (2 * x)) (2 * x + 1)) (2 * c)) (2 * x) (2 * x + 1) = true := fun q => by
        rcases inB_t.mp q with r | r
        · exact (exB_t.mp (exB_t.mp r).1).2 rfl
        · omega
      have hD3 : ∀ j, inB (exB (exB (exB (ltB (c + 1)) (2 * x)) (2 * x + 1)) (2 * c)) (2 * x) j = true → j < 24 := fun j hj => by
        rcases inB_t.mp hj with r | r
        · exact hD2 j (exB_t.mp r).1
        · omega
      have r2 := rgD_rename v3 hD3 (v := 2 * c + 1) (n := 2 * x + 1) m3 n3 (by omega)
      rw [← r1, ← r2]
      refine rgD_set (fun j => ?_)
      rw [Bool.eq_iff_iff, ltB_t, inB_t, exB_t, inB_t, exB_t, exB_t, exB_t, ltB_t]
      omega
  rw [np_rg_D _ (by omega), np_rg_D _ hc, fin, hN, ← c1, ← c2]
  omega
