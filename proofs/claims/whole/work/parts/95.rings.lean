/-! how many rings: it does not hang on which visit of a ring is counted -/
theorem cntB_rm {q : Nat → Bool} {w n : Nat} (hw : w < n) (hq : q w = true) : cntB q n = cntB (fun k => q k && decide (k ≠ w)) n + 1 := by
  have h := cntB_add (q := fun k => q k && decide (k ≠ w)) (r := q) (w := w) (by
    show (q w && decide (w ≠ w)) = false
    rw [decide_eq_false (fun e => e rfl), Bool.and_false]) n (fun k _ => by
    show q k = ((q k && decide (k ≠ w)) || decide (k = w))
    by_cases e : k = w
    · rw [e, hq, decide_eq_true rfl, Bool.or_true]
    · rw [decide_eq_true (show k ≠ w from e), decide_eq_false e, Bool.and_true, Bool.or_false])
  rw [h, if_pos hw]
/-- a one-to-one map makes no fewer -/
theorem cntB_inj {n : Nat} : ∀ (m : Nat) (q r : Nat → Bool) (f : Nat → Nat), (∀ k, k < m → q k = true → f k < n ∧ r (f k) = true) → (∀ k j, k < m → j < m → q k = true → q j = true → f k = f j → k = j) → cntB q m ≤ cntB r n := by
  intro m
  induction m with
  | zero => intro q r f _ _; exact Nat.zero_le _
  | succ m ih =>
    intro q r f h1 h2
    rw [cntB]
    by_cases e : q m = true
    · obtain ⟨h3, h4⟩ := h1 m (Nat.lt_succ_self m) e
      rw [if_pos e, cntB_rm h3 h4]
      have := ih q (fun k => r k && decide (k ≠ f m)) f (fun k hk hq => by
        obtain ⟨a1, a2⟩ := h1 k (by omega) hq
        refine ⟨a1, ?_⟩
        show (r (f k) && decide (f k ≠ f m)) = true
        rw [a2, decide_eq_true (show f k ≠ f m from fun e2 => by
          have := h2 k m (by omega) (Nat.lt_succ_self m) hq e e2
          omega)]
        rfl) (fun k j hk hj => h2 k j (by omega) (by omega))
      omega
    · rw [if_neg e]
      have := ih q r f (fun k hk => h1 k (by omega)) (fun k j hk hj => h2 k j (by omega) (by omega))
      omega
/-- one ring -/
def sr (N : Nat → Nat) (k j : Nat) : Prop := ∃ i, it N i k = j
theorem sr_rf (N : Nat → Nat) (k : Nat) : sr N k k := ⟨0, rfl⟩
theorem sr_tr {N : Nat → Nat} {a b d : Nat} (h : sr N a b) (h2 : sr N b d) : sr N a d := by
  obtain ⟨i, hi⟩ := h
  obtain ⟨j, hj⟩ := h2
  exact ⟨j + i, by rw [it_add, hi, hj]⟩
theorem sr_n (N : Nat → Nat) (k : Nat) : sr N k (N k) := ⟨1, rfl⟩
theorem itD {D : Nat → Prop} {S : ow_NP} (h : vD D S) {k : Nat} (hk : D k) : ∀ i, D (it S.1 i k) := by
  intro i
  induction i with
  | zero => exact hk
  | succ i ih => exact (h _ ih).1
theorem itD_inj {D : Nat → Prop} {S : ow_NP} (h : vD D S) {a b : Nat} (ha : D a) (hb : D b) : ∀ i, it S.1 i a = it S.1 i b → a = b := by
  intro i
  induction i with
  | zero => intro e; exact e
  | succ i ih => intro e; exact ih (vD_inj h (itD h ha i) (itD h hb i) e)
/-- rings close, within 24 steps -/
theorem itD_per {D : Nat → Prop} {S : ow_NP} (h : vD D S) (h24 : ∀ k, D k → k < 24) {k : Nat} (hk : D k) : ∃ m, 1 ≤ m ∧ m ≤ 24 ∧ it S.1 m k = k := by
  obtain ⟨i, j, hij, hj, he⟩ := ow_pig 24 (fun i => it S.1 i k) (fun i _ => h24 _ (itD h hk i))
  have he : it S.1 i k = it S.1 j k := he
  have h1 : it S.1 j k = it S.1 i (it S.1 (j - i) k) := by rw [← it_add]; congr 1; omega
  exact ⟨j - i, by omega, by omega, itD_inj h (itD h hk _) hk i (by rw [← h1, ← he])⟩
theorem it_mul {N : Nat → Nat} {k m : Nat} (h : it N m k = k) : ∀ q, it N (q * m) k = k := by
  intro q
  induction q with
  | zero => rw [Nat.zero_mul]; rfl
  | succ q ih => rw [Nat.succ_mul, it_add, h, ih]
theorem sr_sy {D : Nat → Prop} {S : ow_NP} (h : vD D S) (h24 : ∀ k, D k → k < 24) {a b : Nat} (ha : D a) (hr : sr S.1 a b) : sr S.1 b a := by
  obtain ⟨i, hi⟩ := hr
  obtain ⟨m, hm1, _, hm⟩ := itD_per h h24 ha
  refine ⟨(i + 1) * m - i, ?_⟩
  have hle : i ≤ (i + 1) * m := Nat.le_trans (Nat.le_succ i) (Nat.le_mul_of_pos_right _ (by omega))
  rw [← hi, ← it_add, Nat.sub_add_cancel hle]
  exact it_mul hm _
/-- within 24 steps -/
theorem sr_24 {D : Nat → Prop} {S : ow_NP} (h : vD D S) (h24 : ∀ k, D k → k < 24) {a b : Nat} (ha : D a) (hr : sr S.1 a b) : ∃ i, i < 24 ∧ it S.1 i a = b := by
  obtain ⟨i, hi⟩ := hr
  obtain ⟨m, hm1, hm2, hm⟩ := itD_per h h24 ha
  refine ⟨i % m, Nat.lt_of_lt_of_le (Nat.mod_lt _ (by omega)) hm2, ?_⟩
  have h1 : i = i % m + i / m * m := by
    have := Nat.mod_add_div i m
    rw [Nat.mul_comm] at this
    omega
  rw [← hi]
  conv => rhs; rw [h1, it_add, it_mul hm]
/-- the least of a ring -/
theorem sr_least {D : Nat → Prop} {S : ow_NP} (h : vD D S) (h24 : ∀ k, D k → k < 24) {k : Nat} (hk : D k) : ∃ w, D w ∧ sr S.1 k w ∧ lst S.1 w 24 = true := by
  obtain ⟨w, hw, hl⟩ := pk_least (fun w => sr S.1 k w) ⟨k, sr_rf _ _⟩
  obtain ⟨i, hi⟩ := hw
  have hDw : D w := by rw [← hi]; exact itD h hk i
  refine ⟨w, hDw, ⟨i, hi⟩, (lst_t 24).mpr (fun j _ => ?_)⟩
  rcases Nat.lt_or_ge (it S.1 j w) w with q | q
  · exact absurd (sr_tr ⟨i, hi⟩ ⟨j, rfl⟩) (hl _ q)
  · exact q
theorem lst_uni {D : Nat → Prop} {S : ow_NP} (h : vD D S) (h24 : ∀ k, D k → k < 24) {a b : Nat} (ha : D a) (hb : D b) (la : lst S.1 a 24 = true) (lb : lst S.1 b 24 = true) (hr : sr S.1 a b) : a = b := by
  obtain ⟨i, hi, e⟩ := sr_24 h h24 ha hr
  obtain ⟨j, hj, e2⟩ := sr_24 h h24 hb (sr_sy h h24 ha hr)
  have h1 := (lst_t 24).mp la i hi
  have h2 := (lst_t 24).mp lb j hj
  rw [e] at h1
  rw [e2] at h2
  omega
def rgD (D : Nat → Bool) (S : ow_NP) : Nat := cntB (fun k => D k && lst S.1 k 24) 24
/-- a map of visits that keeps rings apart makes no fewer rings -/
theorem rgD_le {D E : Nat → Bool} {S T : ow_NP} (h : vD (fun k => D k = true) S) (h2 : vD (fun k => E k = true) T) (hD : ∀ k, D k = true → k < 24) (hE : ∀ k, E k = true → k < 24) (f : Nat → Nat) (hf : ∀ k, D k = true → E (f k) = true) (hi : ∀ k j, D k = true → D j = true → sr T.1 (f k) (f j) → sr S.1 k j) : rgD D S ≤ rgD E T := by
  have hex : ∀ k, ∃ w, D k = true → E w = true ∧ sr T.1 (f k) w ∧ lst T.1 w 24 = true := fun k => by
    by_cases e : D k = true
    · obtain ⟨w, a1, a2, a3⟩ := sr_least h2 hE (hf k e)
      exact ⟨w, fun _ => ⟨a1, a2, a3⟩⟩
    · exact ⟨0, fun q => absurd q e⟩
  refine cntB_inj 24 _ _ (fun k => Classical.choose (hex k)) (fun k _ hk => ?_) (fun k j _ _ hk hj e => ?_)
  · have hk := (Bool.and_eq_true _ _ ▸ hk : _ ∧ _)
    obtain ⟨a1, _, a3⟩ := Classical.choose_spec (hex k) hk.1
    exact ⟨hE _ a1, by rw [a1, a3]; rfl⟩
  · have hk := (Bool.and_eq_true _ _ ▸ hk : _ ∧ _)
    have hj := (Bool.and_eq_true _ _ ▸ hj : _ ∧ _)
    obtain ⟨a1, a2, _⟩ := Classical.choose_spec (hex k) hk.1
    obtain ⟨b1, b2, _⟩ := Classical.choose_spec (hex j) hj.1
    have e : Classical.choose (hex k) = Classical.choose (hex j) := e
    rw [e] at a2
    exact lst_uni h hD hk.1 hj.1 hk.2 hj.2 (hi k j hk.1 hj.1 (sr_tr a2 (sr_sy h2 hE (hf j hj.1) b2)))
