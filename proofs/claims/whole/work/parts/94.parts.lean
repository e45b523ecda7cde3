/-! visits with one mark can be reached from one another -/
def bf_ok (c : Nat) (S : ow_NP) (n cnt : Nat) (F : Nat → Int32) (t : ow_PQ) : Prop := (∀ j, j < t.2.2 → t.2.1 j < 2 * c ∧ rch c S n (t.2.1 j)) ∧ ∀ v, v < 2 * c → t.1 v = F v ∨ (t.1 v = nI cnt ∧ rch c S n v)
theorem mp_add_bf {c : Nat} {S : ow_NP} {n cnt v : Nat} {F : Nat → Int32} {t : ow_PQ} (h : bf_ok c S n cnt F t) (hv : v < 2 * c) (hr : rch c S n v) : bf_ok c S n cnt F (mp_add (nI cnt) t v) := by
  unfold mp_add
  split
  · refine ⟨fun j hj => ?_, fun w hw => ?_⟩
    · have hj : j < t.2.2 + 1 := hj
      show nu t.2.1 t.2.2 v j < 2 * c ∧ rch c S n (nu t.2.1 t.2.2 v j)
      by_cases e : j = t.2.2
      · rw [e, nu_same]; exact ⟨hv, hr⟩
      · rw [nu_ne _ _ e]; exact h.1 j (by omega)
    · show (if w = v then nI cnt else t.1 w) = F w ∨ ((if w = v then nI cnt else t.1 w) = nI cnt ∧ rch c S n w)
      by_cases e : w = v
      · rw [if_pos e, e]; exact Or.inr ⟨rfl, hr⟩
      · rw [if_neg e]; exact h.2 w hw
  · exact h
theorem mp_bfs_bf {c : Nat} {S : ow_NP} (hv : vn c S) {n cnt : Nat} {F : Nat → Int32} : ∀ (d i : Nat) (t : ow_PQ), bf_ok c S n cnt F t → bf_ok c S n cnt F (mp_bfs S.1 (nI cnt) d i t) := by
  intro d
  induction d with
  | zero => intro i t h; exact h
  | succ d ih =>
    intro i t h
    rw [mp_bfs]
    split
    · rename_i hi
      obtain ⟨h1, h2⟩ := h.1 i hi
      exact ih _ _ (mp_add_bf (mp_add_bf h (hv _ h1).1 (rch_n h2 h1)) (mt_lt h1) (rch_m h2 h1))
    · exact h
theorem mp_out_rch {c : Nat} {S : ow_NP} (hv : vn c S) (hc : c ≤ 12) : ∀ n, n ≤ 2 * c → (∀ k, k < 2 * c → (mp_out S.1 (2 * c) (fun _ => -1) n).1 k = -1 ∨ ∃ r, r < (mp_out S.1 (2 * c) (fun _ => -1) n).2 ∧ (mp_out S.1 (2 * c) (fun _ => -1) n).1 k = nI r) ∧ (∀ v w r, v < 2 * c → w < 2 * c → r < (mp_out S.1 (2 * c) (fun _ => -1) n).2 → (mp_out S.1 (2 * c) (fun _ => -1) n).1 v = nI r → (mp_out S.1 (2 * c) (fun _ => -1) n).1 w = nI r → rch c S v w) ∧ ∀ k, k < n → ¬ (mp_out S.1 (2 * c) (fun _ => -1) n).1 k = -1 := by
  intro n
  induction n with
  | zero => intro _; exact ⟨fun k _ => Or.inl rfl, fun v w r _ _ hr _ _ => absurd hr (Nat.not_lt_zero r), fun k hk => absurd hk (Nat.not_lt_zero k)⟩
  | succ n ih =>
    intro hn
    obtain ⟨i1, i2, i3⟩ := ih (by omega)
    have hle := mp_out_le S.1 (2 * c) (fun _ => -1) n
    rw [mp_out]
    generalize mp_out S.1 (2 * c) (fun _ => -1) n = M at *
    have hx : ¬ nI M.2 = -1 := nI_nm1 (by omega)
    split
    · rename_i h0
      have hb : bf_ok c S n M.2 (su M.1 n (nI M.2)) (mp_bfs S.1 (nI M.2) (2 * c) 0 (su M.1 n (nI M.2), (fun _ => n), 1)) := mp_bfs_bf hv _ _ _ ⟨fun j _ => ⟨(show n < 2 * c by omega), rch_rf c S n⟩, fun v _ => Or.inl rfl⟩
      have hb2 := hb.2
      generalize mp_bfs S.1 (nI M.2) (2 * c) 0 (su M.1 n (nI M.2), (fun _ => n), 1) = B at hb hb2
      have hs : ∀ v, su M.1 n (nI M.2) v = if v = n then nI M.2 else M.1 v := fun v => rfl
      have hnew : ∀ v, v < 2 * c → B.1 v = nI M.2 → rch c S n v := fun v hvc e => by
        rcases hb2 v hvc with q | q
        · rw [hs] at q
          by_cases en : v = n
          · rw [en]; exact rch_rf c S n
          · rw [if_neg en] at q
            rcases i1 v hvc with r | ⟨r, hr, e2⟩
            · rw [q, r] at e
              exact absurd e.symm hx
            · rw [q, e2] at e
              have := ow_nI_inj (by omega) (by omega) e
              omega
        · exact q.2
      have hold : ∀ x, x < 2 * c → ∀ r, r < M.2 → B.1 x = nI r → M.1 x = nI r := fun x hxc r hr e => by
        rcases hb2 x hxc with q | q
        · rw [hs] at q
          by_cases en : x = n
          · rw [if_pos en] at q
            rw [q] at e
            have := ow_nI_inj (by omega) (by omega) e
            omega
          · rw [if_neg en] at q
            rw [← q]; exact e
        · rw [q.1] at e
          have := ow_nI_inj (by omega) (by omega) e
          omega
      refine ⟨fun k hk => ?_, fun v w r h1 h2 hr e1 e2 => ?_, fun k hk => ?_⟩
      · show B.1 k = -1 ∨ ∃ r, r < M.2 + 1 ∧ B.1 k = nI r
        rcases hb2 k hk with q | q
        · rw [hs] at q
          by_cases en : k = n
          · rw [if_pos en] at q
            exact Or.inr ⟨M.2, Nat.lt_succ_self _, q⟩
          · rw [if_neg en] at q
            rcases i1 k hk with r | ⟨r, hr, e2⟩
            · exact Or.inl (q.trans r)
            · exact Or.inr ⟨r, by omega, q.trans e2⟩
        · exact Or.inr ⟨M.2, Nat.lt_succ_self _, q.1⟩
      · have hr : r < M.2 + 1 := hr
        have e1 : B.1 v = nI r := e1
        have e2 : B.1 w = nI r := e2
        by_cases er : r = M.2
        · rw [er] at e1 e2
          exact rch_tr (rch_sy hv (by omega) (hnew v h1 e1)) (hnew w h2 e2)
        · exact i2 v w r h1 h2 (by omega) (hold v h1 r (by omega) e1) (hold w h2 r (by omega) e2)
      · show ¬ B.1 k = -1
        rcases hb2 k (by omega) with q | q
        · rw [hs] at q
          rw [q]
          by_cases en : k = n
          · rw [if_pos en]; exact hx
          · rw [if_neg en]; exact i3 k (by omega)
        · rw [q.1]; exact hx
    · rename_i h0
      refine ⟨i1, i2, fun k hk => ?_⟩
      rcases Nat.lt_or_ge k n with q | q
      · exact i3 k q
      · have : k = n := by omega
        rw [this]; exact h0
theorem np_parts_rch {c : Nat} {S : ow_NP} (hv : vn c S) (hc : c ≤ 12) {v w : Nat} (h1 : v < 2 * c) (h2 : w < 2 * c) (e : (np_parts c S.1).1 v = (np_parts c S.1).1 w) : rch c S v w := by
  obtain ⟨i1, i2, i3⟩ := mp_out_rch hv hc (2 * c) (Nat.le_refl _)
  rcases i1 w h2 with q | ⟨r, hr, q⟩
  · exact absurd q (i3 w h2)
  · exact i2 v w r h1 h2 hr (Eq.trans e q) q
/-! the length of a part's code -/
def pl_ln (G : Nat → Int32) (S : ow_NP) (F : Nat → Int32) (i : Nat) : Nat → Nat
  | 0 => 0
  | v + 1 => if F v = nI i then (tf_code G S.1 v).len else pl_ln G S F i v
theorem pl_ln_in {G : Nat → Int32} {S : ow_NP} {F : Nat → Int32} {i : Nat} : ∀ n v, v < n → F v = nI i → ∃ w, w < n ∧ F w = nI i ∧ pl_ln G S F i n = (tf_code G S.1 w).len := by
  intro n
  induction n with
  | zero => intro v hv; exact absurd hv (Nat.not_lt_zero v)
  | succ n ih =>
    intro v hv e
    rw [pl_ln]
    split
    · rename_i e2
      exact ⟨n, Nat.lt_succ_self n, e2, rfl⟩
    · rename_i e2
      have hvn : v < n := by
        rcases Nat.lt_or_ge v n with q | q
        · exact q
        · have : v = n := by omega
          rw [this] at e
          exact absurd e e2
      obtain ⟨w, hw, h1, h2⟩ := ih v hvn e
      exact ⟨w, Nat.lt_succ_of_lt hw, h1, h2⟩
theorem pl_ln_le {G : Nat → Int32} {S : ow_NP} {F : Nat → Int32} {i b : Nat} : ∀ n, (∀ v, v < n → (tf_code G S.1 v).len ≤ b) → pl_ln G S F i n ≤ b := by
  intro n
  induction n with
  | zero => intro _; exact Nat.zero_le b
  | succ n ih =>
    intro h
    rw [pl_ln]
    split
    · exact h n (Nat.lt_succ_self n)
    · exact ih (fun v hv => h v (by omega))
theorem cntB_mono {q r : Nat → Bool} : ∀ n, (∀ k, k < n → q k = true → r k = true) → cntB q n ≤ cntB r n := by
  intro n
  induction n with
  | zero => intro _; exact Nat.le_refl 0
  | succ n ih =>
    intro h
    have h1 := ih (fun k hk => h k (by omega))
    rw [cntB, cntB]
    split
    · rename_i e
      rw [if_pos (h n (Nat.lt_succ_self n) e)]; omega
    · omega
/-- how many rings a net has -/
def np_rg (c : Nat) (S : ow_NP) : Nat := cntB (fun k => lst S.1 k 24) (2 * c)
theorem tf_len_le {c : Nat} {S : ow_NP} (G : Nat → Int32) (h : vn c S) (hc : c ≤ 12) {v : Nat} (hv : v < 2 * c) : (tf_code G S.1 v).len ≤ 2 * c + np_rg c S := by
  obtain ⟨a1, _⟩ := tf_code_iv G h hc hv
  rw [a1.2.2.2]
  have h1 := cntB_le (gnB (tf_code G S.1 v).gone) (2 * c)
  have h2 := cntB_mono (q := fun k => gnB (tf_code G S.1 v).gone k && lst S.1 k 24) (r := fun k => lst S.1 k 24) (2 * c) (fun k _ e => (Bool.and_eq_true _ _ ▸ e : _ ∧ _).2)
  unfold np_rg
  omega
/-- a valid net whose visits and rings are at most 30 can be given a code -/
theorem nt_ln_ok {Q : ow_NT} (h : vn Q.1 Q.2.2.1) (hc : Q.1 ≤ 12) (h30 : 2 * Q.1 + np_rg Q.1 Q.2.2.1 ≤ 30) : nt_ln Q (fun i => pl_ln Q.2.2.2 Q.2.2.1 (np_parts Q.1 Q.2.2.1.1).1 i (2 * Q.1)) := by
  refine ⟨fun i => pl_ln_le _ (fun v hv => Nat.le_trans (tf_len_le _ h hc hv) h30), fun i v hv e => ?_⟩
  obtain ⟨w, hw, e1, e2⟩ := pl_ln_in (G := Q.2.2.2) (S := Q.2.2.1) (2 * Q.1) v hv e
  show (tf_code Q.2.2.2 Q.2.2.1.1 v).len = pl_ln Q.2.2.2 Q.2.2.1 (np_parts Q.1 Q.2.2.1.1).1 i (2 * Q.1)
  rw [e2]
  exact tf_len_eq _ h hc hv hw (np_parts_rch h hc hv hw (e.trans e1.symm))
theorem nt_gd_ok {Q : ow_NT} (h : vn Q.1 Q.2.2.1) (hc : Q.1 ≤ 12) (h30 : 2 * Q.1 + np_rg Q.1 Q.2.2.1 ≤ 30) (hci : Q.2.1 < 2 ^ 30) (hb : ow_b24 Q.2.2.1) : nt_gd Q := ⟨hc, hci, hb, h, _, nt_ln_ok h hc h30⟩
