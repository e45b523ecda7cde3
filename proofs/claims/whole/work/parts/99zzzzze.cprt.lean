/-! parts: the marks of one part are just the visits that reach one another -/
def bq (c : Nat) (S : ow_NP) (k : Nat) (F0 : Nat → Int32) (i : Nat) (t : ow_PQ) : Prop := (∀ v, v < 2 * c → t.1 v = F0 v ∨ (t.1 v = nI k ∧ F0 v = -1)) ∧ (∀ v, v < 2 * c → t.1 v = nI k → ∃ j, j < t.2.2 ∧ t.2.1 j = v) ∧ (∀ j, j < t.2.2 → F0 (t.2.1 j) = -1) ∧ (∀ j, j < i → ¬ t.1 (S.1 (t.2.1 j)) = -1 ∧ ¬ t.1 (mt (t.2.1 j)) = -1) ∧ mp_ok (2 * c) t ∧ i ≤ t.2.2
theorem mp_add_keep {k : Nat} (hk : k < 2 ^ 31) {t : ow_PQ} {v w : Nat} (h : ¬ t.1 w = -1) : ¬ (mp_add (nI k) t v).1 w = -1 := by
  unfold mp_add
  split
  · show ¬ (if w = v then nI k else t.1 w) = -1
    split
    · exact nI_nm1 hk
    · exact h
  · exact h
theorem mp_add_own {k : Nat} (hk : k < 2 ^ 31) {t : ow_PQ} {v : Nat} : ¬ (mp_add (nI k) t v).1 v = -1 := by
  unfold mp_add
  split
  · show ¬ (if v = v then nI k else t.1 v) = -1
    rw [if_pos rfl]
    exact nI_nm1 hk
  · rename_i h
    exact h
theorem mp_add_q {k : Nat} {t : ow_PQ} {v j : Nat} (hj : j < t.2.2) : (mp_add (nI k) t v).2.1 j = t.2.1 j := by
  unfold mp_add
  split
  · exact nu_ne _ _ (by omega)
  · rfl
theorem mp_add_n {k : Nat} {t : ow_PQ} {v : Nat} : t.2.2 ≤ (mp_add (nI k) t v).2.2 := by
  unfold mp_add
  split
  · exact Nat.le_succ _
  · exact Nat.le_refl _
theorem mp_add_bq {c : Nat} {S : ow_NP} {k : Nat} (hk : k < 2 ^ 31) {F0 : Nat → Int32} {i v : Nat} {t : ow_PQ} (h : bq c S k F0 i t) (hv : v < 2 * c) (hF : F0 v = -1) : bq c S k F0 i (mp_add (nI k) t v) := by
  obtain ⟨a1, a2, a3, a4, a5, a6⟩ := h
  refine ⟨fun w hw => ?_, fun w hw e => ?_, fun j hj => ?_, fun j hj => ?_, mp_add_ok hk a5 hv, Nat.le_trans a6 mp_add_n⟩
  · unfold mp_add
    split
    · show (if w = v then nI k else t.1 w) = F0 w ∨ ((if w = v then nI k else t.1 w) = nI k ∧ F0 w = -1)
      by_cases e : w = v
      · rw [if_pos e, e]
        exact Or.inr ⟨rfl, hF⟩
      · rw [if_neg e]
        exact a1 w hw
    · exact a1 w hw
  · unfold mp_add at e ⊢
    split at e
    · rename_i h9
      rw [if_pos h9]
      by_cases e1 : w = v
      · refine ⟨t.2.2, Nat.lt_succ_self _, ?_⟩
        rw [e1]
        exact nu_same _ _ _
      · have e2 : (if w = v then nI k else t.1 w) = nI k := e
        rw [if_neg e1] at e2
        obtain ⟨j, hj, ej⟩ := a2 w hw e2
        exact ⟨j, Nat.lt_succ_of_lt hj, (nu_ne _ _ (by omega)).trans ej⟩
    · rename_i h9
      rw [if_neg h9]
      exact a2 w hw e
  · unfold mp_add at hj ⊢
    split at hj
    · rename_i h9
      rw [if_pos h9]
      have hj' : j < t.2.2 + 1 := hj
      show F0 (nu t.2.1 t.2.2 v j) = -1
      by_cases e : j = t.2.2
      · rw [e, nu_same]
        exact hF
      · rw [nu_ne _ _ e]
        exact a3 j (by omega)
    · rename_i h9
      rw [if_neg h9]
      exact a3 j hj
  · rw [mp_add_q (show j < t.2.2 by omega)]
    exact ⟨mp_add_keep hk (a4 j hj).1, mp_add_keep hk (a4 j hj).2⟩
/-- the marks are closed: visits behind and at the crossing have the mark -/
def clF (c : Nat) (S : ow_NP) (F : Nat → Int32) : Prop := ∀ j, j < 2 * c → F (S.1 j) = F j ∧ F (mt j) = F j
theorem mp_bfs_bq {c : Nat} {S : ow_NP} (hv : vn c S) {k : Nat} (hk : k < 2 ^ 31) {F0 : Nat → Int32} (h0 : clF c S F0) : ∀ (d i : Nat) (t : ow_PQ), bq c S k F0 i t → 2 * c ≤ i + d → ∃ i2, bq c S k F0 i2 (mp_bfs S.1 (nI k) d i t) ∧ (mp_bfs S.1 (nI k) d i t).2.2 ≤ i2 := by
  intro d
  induction d with
  | zero =>
    intro i t h hd
    have := h.2.2.2.2.1.2
    refine ⟨i, h, ?_⟩
    show t.2.2 ≤ i
    omega
  | succ d ih =>
    intro i t h hd
    rw [mp_bfs]
    by_cases hi : i < t.2.2
    · rw [if_pos hi]
      have hq : t.2.1 i < 2 * c := h.2.2.2.2.1.1 i hi
      have hF := h.2.2.1 i hi
      have hc := h0 _ hq
      have b1 := mp_add_bq hk h (hv _ hq).1 (hc.1.trans hF)
      have b2 := mp_add_bq hk b1 (mt_lt hq) (hc.2.trans hF)
      refine ih (i + 1) _ ⟨b2.1, b2.2.1, b2.2.2.1, fun j hj => ?_, b2.2.2.2.2.1, ?_⟩ (by omega)
      · by_cases e : j = i
        · have hi2 : i < (mp_add (nI k) t (S.1 (t.2.1 i))).2.2 := Nat.lt_of_lt_of_le hi mp_add_n
          rw [e, mp_add_q hi2, mp_add_q hi]
          exact ⟨mp_add_keep hk (mp_add_own hk), mp_add_own hk⟩
        · exact b2.2.2.2.1 j (by omega)
      · exact Nat.lt_of_lt_of_le hi (Nat.le_trans mp_add_n mp_add_n)
    · rw [if_neg hi]
      exact ⟨i, h, by omega⟩
theorem nI_inj9 {a b : Nat} (ha : a < 2 ^ 31) (hb : b < 2 ^ 31) (e : nI a = nI b) : a = b := (nI_eq ha hb).mp e
/-- the marks while parts are marked -/
def mpI (c : Nat) (S : ow_NP) (n : Nat) (t : (Nat → Int32) × Nat) : Prop := clF c S t.1 ∧ (∀ v, v < 2 * c → t.1 v = -1 ∨ ∃ r, r < t.2 ∧ t.1 v = nI r) ∧ (∀ r, r < t.2 → ∃ v, v < 2 * c ∧ t.1 v = nI r) ∧ (∀ v, v < n → v < 2 * c → ¬ t.1 v = -1) ∧ t.2 ≤ n
theorem mp_out_I {c : Nat} {S : ow_NP} (hv : vn c S) (hc : c ≤ 12) : ∀ n, n ≤ 2 * c → mpI c S n (mp_out S.1 (2 * c) (fun _ => -1) n) := by
  intro n
  induction n with
  | zero => exact fun _ => ⟨fun j _ => ⟨rfl, rfl⟩, fun _ _ => Or.inl rfl, fun r hr => absurd hr (Nat.not_lt_zero _), fun v hv _ => absurd hv (Nat.not_lt_zero _), Nat.le_refl _⟩
  | succ n ih =>
    intro hn
    have hi := ih (by omega)
    rw [mp_out]
    generalize mp_out S.1 (2 * c) (fun _ => -1) n = t at hi
    obtain ⟨i1, i2, i3, i4, i5⟩ := hi
    by_cases e : t.1 n = -1
    · rw [if_pos e]
      have hk : t.2 < 2 ^ 31 := by omega
      have hnw : ∀ v, v < 2 * c → ¬ t.1 v = nI t.2 := by
        intro v hv2 e1
        rcases i2 v hv2 with h9 | ⟨r, hr, h9⟩
        · exact nI_nm1 hk (e1.symm.trans h9)
        · have := nI_inj9 (by omega) (by omega) (e1.symm.trans h9)
          omega
      have b0 : bq c S t.2 t.1 0 (su t.1 n (nI t.2), (fun _ => n), 1) := by
        refine ⟨fun v hv2 => ?_, fun v hv2 e1 => ⟨0, Nat.one_pos, ?_⟩, fun j _ => e, fun j hj => absurd hj (Nat.not_lt_zero _), ⟨fun _ _ => by show n < 2 * c; omega, ?_⟩, Nat.zero_le _⟩
        · show (if v = n then nI t.2 else t.1 v) = t.1 v ∨ ((if v = n then nI t.2 else t.1 v) = nI t.2 ∧ t.1 v = -1)
          by_cases e1 : v = n
          · rw [if_pos e1, e1]
            exact Or.inr ⟨rfl, e⟩
          · rw [if_neg e1]
            exact Or.inl rfl
        · show n = v
          have e2 : (if v = n then nI t.2 else t.1 v) = nI t.2 := e1
          by_cases e3 : v = n
          · exact e3.symm
          · rw [if_neg e3] at e2
            exact absurd e2 (hnw v hv2)
        · have h1 := cntU_su (x := nI t.2) e (nI_nm1 hk) (2 * c) (by omega)
          have h2 := cntU_le t.1 (2 * c)
          show 1 + cntU (su t.1 n (nI t.2)) (2 * c) ≤ 2 * c
          omega
      obtain ⟨m, hm, hm2⟩ := mp_bfs_bq hv hk i1 (2 * c) 0 _ b0 (by omega)
      have hkeepn : ∀ (d i : Nat) (u : ow_PQ), ¬ u.1 n = -1 → ¬ (mp_bfs S.1 (nI t.2) d i u).1 n = -1 := by
        intro d
        induction d with
        | zero => exact fun _ _ h => h
        | succ d ih2 =>
          intro i u h
          rw [mp_bfs]
          split
          · exact ih2 _ _ (mp_add_keep hk (mp_add_keep hk h))
          · exact h
      have hn1 : ¬ (mp_bfs S.1 (nI t.2) (2 * c) 0 (su t.1 n (nI t.2), (fun _ => n), 1)).1 n = -1 := hkeepn _ _ _ (by
        show ¬ (if n = n then nI t.2 else t.1 n) = -1
        rw [if_pos rfl]
        exact nI_nm1 hk)
      generalize mp_bfs S.1 (nI t.2) (2 * c) 0 (su t.1 n (nI t.2), (fun _ => n), 1) = u at hm hm2 hn1
      obtain ⟨m1, m2, m3, m4, m5, m6⟩ := hm
      have hn2 : u.1 n = nI t.2 := by
        rcases m1 n (by omega) with h9 | h9
        · exact absurd (h9.trans e) hn1
        · exact h9.1
      -- the new mark is closed
      have hcl : ∀ j, j < 2 * c → u.1 j = nI t.2 → u.1 (S.1 j) = nI t.2 ∧ u.1 (mt j) = nI t.2 := by
        intro j hj ej
        obtain ⟨q, hq, eq⟩ := m2 j hj ej
        have h4 := m4 q (by omega)
        have h3 := m3 q hq
        rw [eq] at h4 h3
        have hcj := i1 j hj
        constructor
        · rcases m1 (S.1 j) (hv j hj).1 with h9 | h9
          · exact absurd (h9.trans (hcj.1.trans h3)) h4.1
          · exact h9.1
        · rcases m1 (mt j) (mt_lt hj) with h9 | h9
          · exact absurd (h9.trans (hcj.2.trans h3)) h4.2
          · exact h9.1
      have hback : ∀ j, j < 2 * c → u.1 (S.1 j) = nI t.2 → u.1 j = nI t.2 := by
        intro j hj ej
        exact rch_back hv hj (fun q => u.1 q = nI t.2) ej (fun q hq e1 => (hcl q hq e1).1) (fun q hq e1 => (hcl q hq e1).2)
      have hmt : ∀ j, mt (mt j) = j := fun j => mt_mt j
      refine ⟨fun j hj => ?_, fun v hv2 => ?_, fun r hr => ?_, fun v hv1 hv2 => ?_, ?_⟩
      · by_cases ej : u.1 j = nI t.2
        · rw [(hcl j hj ej).1, (hcl j hj ej).2]
          exact ⟨ej.symm, ej.symm⟩
        · have ej0 : u.1 j = t.1 j := by
            rcases m1 j hj with h9 | h9
            · exact h9
            · exact absurd h9.1 ej
          constructor
          · rcases m1 (S.1 j) (hv j hj).1 with h9 | h9
            · rw [h9, ej0]
              exact (i1 j hj).1
            · exact absurd (hback j hj h9.1) ej
          · rcases m1 (mt j) (mt_lt hj) with h9 | h9
            · rw [h9, ej0]
              exact (i1 j hj).2
            · have := (hcl (mt j) (mt_lt hj) h9.1).2
              rw [hmt] at this
              exact absurd this ej
      · show u.1 v = -1 ∨ ∃ r, r < t.2 + 1 ∧ u.1 v = nI r
        rcases m1 v hv2 with h9 | h9
        · rw [h9]
          rcases i2 v hv2 with h8 | ⟨r, hr, h8⟩
          · exact Or.inl h8
          · exact Or.inr ⟨r, by omega, h8⟩
        · exact Or.inr ⟨t.2, by omega, h9.1⟩
      · have hr' : r < t.2 + 1 := hr
        show ∃ v, v < 2 * c ∧ u.1 v = nI r
        by_cases e1 : r = t.2
        · exact ⟨n, by omega, by rw [e1]; exact hn2⟩
        · obtain ⟨v, hv2, ev⟩ := i3 r (by omega)
          refine ⟨v, hv2, ?_⟩
          rcases m1 v hv2 with h9 | h9
          · rw [h9, ev]
          · exact absurd (ev.symm.trans h9.2) (nI_nm1 (by omega))
      · show ¬ u.1 v = -1
        by_cases e1 : v = n
        · rw [e1]; exact hn1
        · have h8 := i4 v (by omega) hv2
          rcases m1 v hv2 with h9 | h9
          · rw [h9]; exact h8
          · exact absurd h9.2 h8
      · show t.2 + 1 ≤ n + 1
        omega
    · rw [if_neg e]
      refine ⟨i1, i2, i3, fun v hv1 hv2 => ?_, by omega⟩
      by_cases e1 : v = n
      · rw [e1]; exact e
      · exact i4 v (by omega) hv2
/-- what the marks of a valid net's parts are -/
theorem parts_I {c : Nat} {S : ow_NP} (hv : vn c S) (hc : c ≤ 12) : clF c S (np_parts c S.1).1 ∧ (∀ v, v < 2 * c → ∃ r, r < (np_parts c S.1).2 ∧ (np_parts c S.1).1 v = nI r) ∧ (∀ r, r < (np_parts c S.1).2 → ∃ v, v < 2 * c ∧ (np_parts c S.1).1 v = nI r) ∧ (np_parts c S.1).2 ≤ 2 * c := by
  obtain ⟨i1, i2, i3, i4, i5⟩ := mp_out_I hv hc (2 * c) (Nat.le_refl _)
  refine ⟨i1, fun v hv2 => ?_, i3, i5⟩
  rcases i2 v hv2 with h9 | h9
  · exact absurd h9 (i4 v hv2 hv2)
  · exact h9
theorem parts_iff {c : Nat} {S : ow_NP} (hv : vn c S) (hc : c ≤ 12) {v w : Nat} (h1 : v < 2 * c) (h2 : w < 2 * c) : (np_parts c S.1).1 v = (np_parts c S.1).1 w ↔ rch c S v w := by
  refine ⟨np_parts_rch hv hc h1 h2, fun h => ?_⟩
  have hcl := (parts_I hv hc).1
  exact h (fun k => (np_parts c S.1).1 v = (np_parts c S.1).1 k) rfl (fun j hj e => e.trans (hcl j hj).1.symm) (fun j hj e => e.trans (hcl j hj).2.symm)
/-- sums over a list of numbers -/
def smN (f : Nat → Nat) : Nat → Nat
  | 0 => 0
  | n + 1 => smN f n + f n
theorem smN_0 {f : Nat → Nat} : ∀ n, (∀ r, r < n → f r = 0) → smN f n = 0
  | 0, _ => rfl
  | n + 1, h => by
    show smN f n + f n = 0
    rw [smN_0 n (fun r hr => h r (by omega)), h n (by omega)]
theorem smN_add {f g : Nat → Nat} : ∀ n, smN (fun r => f r + g r) n = smN f n + smN g n
  | 0 => rfl
  | n + 1 => by
    show smN (fun r => f r + g r) n + (f n + g n) = smN f n + f n + (smN g n + g n)
    rw [smN_add n]
    omega
theorem smN_cg {f g : Nat → Nat} : ∀ n, (∀ r, r < n → f r = g r) → smN f n = smN g n
  | 0, _ => rfl
  | n + 1, h => by
    show smN f n + f n = smN g n + g n
    rw [smN_cg n (fun r hr => h r (by omega)), h n (by omega)]
theorem smN_one {m : Nat} : ∀ n, m < n → smN (fun r => if r = m then 1 else 0) n = 1
  | 0, h => absurd h (Nat.not_lt_zero _)
  | n + 1, h => by
    show smN (fun r => if r = m then 1 else 0) n + (if n = m then 1 else 0) = 1
    by_cases e : n = m
    · rw [if_pos e, smN_0 n (fun r hr => if_neg (by omega))]
    · rw [if_neg e, smN_one n (by omega)]
/-- visits counted part by part -/
theorem cnt_parts {F : Nat → Int32} {q : Nat → Bool} {P : Nat} (hP : P < 2 ^ 31) : ∀ n, (∀ v, v < n → ∃ r, r < P ∧ F v = nI r) → smN (fun r => cntB (fun v => decide (F v = nI r) && q v) n) P = cntB q n
  | 0, _ => smN_0 P (fun _ _ => rfl)
  | n + 1, h => by
    obtain ⟨m, hm, em⟩ := h n (by omega)
    have e : ∀ r, r < P → cntB (fun v => decide (F v = nI r) && q v) (n + 1) = cntB (fun v => decide (F v = nI r) && q v) n + (if q n = true then (if r = m then 1 else 0) else 0) := by
      intro r hr
      show cntB (fun v => decide (F v = nI r) && q v) n + (if (decide (F n = nI r) && q n) = true then 1 else 0) = _
      congr 1
      rw [em]
      by_cases e1 : r = m
      · rw [e1]
        by_cases e2 : q n = true
        · rw [if_pos e2, if_pos rfl, if_pos (by rw [e2, decide_eq_true rfl]; rfl)]
        · rw [if_neg e2, if_neg (by intro e3; exact e2 ((Bool.and_eq_true _ _).mp e3).2)]
      · rw [if_neg e1, ite_self, if_neg]
        intro e3
        exact e1 (nI_inj9 (by omega) (by omega) (of_decide_eq_true ((Bool.and_eq_true _ _).mp e3).1)).symm
    rw [smN_cg P e, smN_add, cnt_parts hP n (fun v hv => h v (by omega))]
    show cntB q n + _ = cntB q n + (if q n = true then 1 else 0)
    congr 1
    by_cases e2 : q n = true
    · rw [if_pos e2]
      exact (smN_cg P (fun r _ => by rw [if_pos e2])).trans (smN_one P hm)
    · rw [if_neg e2]
      exact smN_0 P (fun r _ => by rw [if_neg e2])
/-- the length of the code from a visit of part r -/
def ptL (c : Nat) (S : ow_NP) (r : Nat) : Nat := cntB (fun v => decide ((np_parts c S.1).1 v = nI r) && true) (2 * c) + cntB (fun v => decide ((np_parts c S.1).1 v = nI r) && lst S.1 v 24) (2 * c)
theorem ptL_sum {c : Nat} {S : ow_NP} (hv : vn c S) (hc : c ≤ 12) : smN (ptL c S) (np_parts c S.1).2 = 2 * c + np_rg c S := by
  obtain ⟨i1, i2, i3, i4⟩ := parts_I hv hc
  have h1 := cnt_parts (F := (np_parts c S.1).1) (q := fun _ => true) (P := (np_parts c S.1).2) (by omega) (2 * c) i2
  have h2 := cnt_parts (F := (np_parts c S.1).1) (q := fun v => lst S.1 v 24) (P := (np_parts c S.1).2) (by omega) (2 * c) i2
  have h3 : ∀ n, cntB (fun _ => true) n = n := by
    intro n
    induction n with
    | zero => rfl
    | succ n ih =>
      show cntB (fun _ => true) n + 1 = n + 1
      rw [ih]
  show smN (fun r => cntB (fun v => decide ((np_parts c S.1).1 v = nI r) && true) (2 * c) + cntB (fun v => decide ((np_parts c S.1).1 v = nI r) && lst S.1 v 24) (2 * c)) (np_parts c S.1).2 = _
  rw [smN_add, h1, h2, h3]
  rfl
theorem tf_len_pt {c : Nat} {S : ow_NP} (G : Nat → Int32) (hv : vn c S) (hc : c ≤ 12) {v r : Nat} (h1 : v < 2 * c) (e : (np_parts c S.1).1 v = nI r) : (tf_code G S.1 v).len = ptL c S r := by
  obtain ⟨a1, a2⟩ := tf_code_iv G hv hc h1
  rw [a1.2.2.2]
  have key : ∀ k, k < 2 * c → gnB (tf_code G S.1 v).gone k = decide ((np_parts c S.1).1 k = nI r) := by
    intro k hk
    have h3 : o_gn (tf_code G S.1 v).gone k ↔ (np_parts c S.1).1 k = nI r := by
      rw [a2 k, ← parts_iff hv hc h1 hk, e]
      exact eq_comm
    unfold gnB
    exact decide_eq_decide.mpr h3
  unfold ptL
  refine congr (congrArg _ (cntB_cg _ (fun k hk => ?_))) (cntB_cg _ (fun k hk => ?_))
  · rw [key k hk, Bool.and_true]
  · rw [key k hk]
