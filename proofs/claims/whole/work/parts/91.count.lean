/-! counting visits and rings seen -/
def cntB (q : Nat → Bool) : Nat → Nat
  | 0 => 0
  | n + 1 => cntB q n + (if q n then 1 else 0)
theorem cntB_cg {q r : Nat → Bool} : ∀ n, (∀ k, k < n → q k = r k) → cntB q n = cntB r n := by
  intro n
  induction n with
  | zero => intro _; rfl
  | succ n ih => intro h; rw [cntB, cntB, ih (fun k hk => h k (by omega)), h n (Nat.lt_succ_self n)]
theorem cntB_add {q r : Nat → Bool} {w : Nat} (hw : q w = false) : ∀ n, (∀ k, k < n → r k = (q k || decide (k = w))) → cntB r n = cntB q n + (if w < n then 1 else 0) := by
  intro n
  induction n with
  | zero => intro _; rw [if_neg (Nat.not_lt_zero w)]; rfl
  | succ n ih =>
    intro h
    rw [cntB, cntB, ih (fun k hk => h k (by omega)), h n (Nat.lt_succ_self n)]
    by_cases e : n = w
    · rw [e, hw, if_neg (Nat.lt_irrefl w), if_pos (Nat.lt_succ_self w), decide_eq_true rfl]
      rfl
    · rw [decide_eq_false e, Bool.or_false]
      by_cases e2 : w < n
      · rw [if_pos e2, if_pos (show w < n + 1 by omega)]; omega
      · rw [if_neg e2, if_neg (show ¬ w < n + 1 by omega)]; omega
theorem cntB_le (q : Nat → Bool) : ∀ n, cntB q n ≤ n := by
  intro n
  induction n with
  | zero => exact Nat.le_refl 0
  | succ n ih => rw [cntB]; split <;> omega
theorem cntB_all {q : Nat → Bool} : ∀ n, n ≤ cntB q n → ∀ k, k < n → q k = true := by
  intro n
  induction n with
  | zero => intro _ k hk; exact absurd hk (Nat.not_lt_zero k)
  | succ n ih =>
    intro h k hk
    have hl := cntB_le q n
    rw [cntB] at h
    split at h
    · rename_i e
      rcases Nat.lt_or_ge k n with q1 | q1
      · exact ih (by omega) k q1
      · have : k = n := by omega
        rw [this]; exact e
    · omega
def gnB (g k : Nat) : Bool := decide (g / 2 ^ k % 2 = 1)
theorem gnB_t {g k : Nat} : gnB g k = true ↔ gn g k := by
  unfold gnB gn
  exact decide_eq_true_iff
theorem gnB_f {g k : Nat} : gnB g k = false ↔ ¬ gn g k := by
  unfold gnB gn
  exact decide_eq_false_iff_not
theorem gnB_or (g v k : Nat) : gnB (g ||| 2 ^ v) k = (gnB g k || decide (k = v)) := by
  rw [Bool.eq_iff_iff, gnB_t, gn_or, Bool.or_eq_true, gnB_t, decide_eq_true_eq]
/-- the least of its ring -/
def lst (N : Nat → Nat) (k : Nat) : Nat → Bool
  | 0 => true
  | i + 1 => lst N k i && decide (k ≤ it N i k)
theorem lst_t {N : Nat → Nat} {k : Nat} : ∀ n, lst N k n = true ↔ ∀ i, i < n → k ≤ it N i k := by
  intro n
  induction n with
  | zero => exact ⟨fun _ i hi => absurd hi (Nat.not_lt_zero i), fun _ => rfl⟩
  | succ n ih =>
    rw [lst, Bool.and_eq_true, ih, decide_eq_true_eq]
    constructor
    · rintro ⟨h1, h2⟩ i hi
      rcases Nat.lt_or_ge i n with q | q
      · exact h1 i q
      · have : i = n := by omega
        rw [this]; exact h2
    · intro h
      exact ⟨fun i hi => h i (by omega), h n (Nat.lt_succ_self n)⟩
/-- the ring walked: how many visits more -/
theorem tf_ring_cnt {c : Nat} {S : ow_NP} {G : Nat → Int32} (h : vn c S) {f m : Nat} (hf : f < 2 * c) (hm : ring_len S.1 f m) : ∀ (d i : Nat) (P : tf_P), i < m → m ≤ i + d → (∀ j, i ≤ j → j < m → ¬ gn P.gone (it S.1 j f)) → cntB (gnB (tf_ring G S.1 f d (it S.1 i f) P).gone) (2 * c) = cntB (gnB P.gone) (2 * c) + (m - i) := by
  intro d
  induction d with
  | zero => intro i P h1 h2; omega
  | succ d ih =>
    intro i P h1 h2 hno
    have hvc : cntB (gnB (tf_vis G P (it S.1 i f)).gone) (2 * c) = cntB (gnB P.gone) (2 * c) + 1 := by
      rw [cntB_add (q := gnB P.gone) (r := gnB (tf_vis G P (it S.1 i f)).gone) (w := it S.1 i f) (gnB_f.mpr (hno i (Nat.le_refl i) h1)) (2 * c) (fun k _ => gnB_or _ _ _), if_pos (it_lt h hf i)]
    rw [tf_ring]
    split
    · rename_i e
      have hmi : m = i + 1 := by
        rcases Nat.lt_or_ge (i + 1) m with q | q
        · exact absurd e (hm.2.2 (i + 1) (by omega) q)
        · omega
      rw [hvc]; omega
    · rename_i e
      have hi1 : i + 1 < m := by
        rcases Nat.lt_or_ge (i + 1) m with q | q
        · exact q
        · have hmi : m = i + 1 := by omega
          have := hm.2.1
          rw [hmi] at this
          exact absurd this e
      have hN : S.1 (it S.1 i f) = it S.1 (i + 1) f := rfl
      rw [hN, ih (i + 1) (tf_vis G P (it S.1 i f)) hi1 (by omega) (fun j h3 h4 q => by
        rcases (gn_or _ _ _).mp q with r | r
        · exact hno j (by omega) h4 r
        · exact ring_dist h hf hm (i := i) (j := j) (by omega) h4 r.symm), hvc]
      omega
theorem it_mod {N : Nat → Nat} {f m : Nat} (hm : ring_len N f m) : ∀ i, ∃ j, j < m ∧ it N i f = it N j f := by
  intro i
  induction i with
  | zero => exact ⟨0, hm.1, rfl⟩
  | succ i ih =>
    obtain ⟨j, hj, e⟩ := ih
    rcases Nat.lt_or_ge (j + 1) m with q | q
    · exact ⟨j + 1, q, congrArg N e⟩
    · have : j + 1 = m := by omega
      refine ⟨0, hm.1, ?_⟩
      show N (it N i f) = f
      rw [e]
      have := hm.2.1
      rw [← ‹j + 1 = m›] at this
      exact this
/-- each ring has one least visit -/
theorem ring_least {c : Nat} {S : ow_NP} (h : vn c S) (hc : c ≤ 12) {f m : Nat} (hf : f < 2 * c) (hm : ring_len S.1 f m) (hmc : m ≤ 2 * c) : ∃ w, w < 2 * c ∧ (∃ j, j < m ∧ w = it S.1 j f) ∧ ∀ k, (∃ j, j < m ∧ k = it S.1 j f) → (lst S.1 k 24 = true ↔ k = w) := by
  obtain ⟨w, ⟨j, hj, hw⟩, hl⟩ := pk_least (fun w => ∃ j, j < m ∧ w = it S.1 j f) ⟨f, 0, hm.1, rfl⟩
  have hmin : ∀ i, w ≤ it S.1 i f := fun i => by
    obtain ⟨j2, h2, e⟩ := it_mod hm i
    rcases Nat.lt_or_ge (it S.1 i f) w with q | q
    · exact absurd ⟨j2, h2, e⟩ (hl _ q)
    · exact q
  refine ⟨w, by rw [hw]; exact it_lt h hf j, ⟨j, hj, hw⟩, fun k ⟨jk, hk, ek⟩ => ?_⟩
  rw [lst_t]
  constructor
  · intro hk2
    -- w is on the ring of k
    have hex : ∃ i, i < m ∧ it S.1 i k = w := by
      rcases Nat.lt_or_ge j jk with q | q
      · refine ⟨m - jk + j, by omega, ?_⟩
        rw [ek, ← it_add, show m - jk + j + jk = j + m from by omega, it_add, hm.2.1, ← hw]
      · refine ⟨j - jk, by omega, ?_⟩
        rw [ek, ← it_add, show j - jk + jk = j from by omega, ← hw]
    obtain ⟨i, hi, e⟩ := hex
    have h1 := hk2 i (by omega)
    rw [e] at h1
    have h2 := hmin jk
    rw [← ek] at h2
    omega
  · intro e i _
    rw [e, hw, ← it_add]
    rw [← hw]
    exact hmin (i + j)
