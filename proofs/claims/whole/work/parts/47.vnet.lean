/-! nets that are valid: next and prev undo one another on the first 2 c visits -/
def vn (c : Nat) (S : ow_NP) : Prop := ∀ k, k < 2 * c → S.1 k < 2 * c ∧ S.2 k < 2 * c ∧ S.2 (S.1 k) = k ∧ S.1 (S.2 k) = k
theorem vn_inj {c : Nat} {S : ow_NP} (h : vn c S) {a b : Nat} (ha : a < 2 * c) (hb : b < 2 * c) (e : S.1 a = S.1 b) : a = b := by
  rw [← (h a ha).2.2.1, e, (h b hb).2.2.1]
theorem vn_inj2 {c : Nat} {S : ow_NP} (h : vn c S) {a b : Nat} (ha : a < 2 * c) (hb : b < 2 * c) (e : S.2 a = S.2 b) : a = b := by
  rw [← (h a ha).2.2.2, e, (h b hb).2.2.2]
theorem np_exchange_1 (S : ow_NP) (v w k : Nat) : (np_exchange S v w).1 k = if k = w then S.1 v else if k = v then S.1 w else S.1 k := rfl
theorem np_exchange_2 (S : ow_NP) (v w k : Nat) : (np_exchange S v w).2 k = if k = S.1 v then w else if k = S.1 w then v else S.2 k := rfl
theorem vn_exchange {c : Nat} {S : ow_NP} (h : vn c S) {v w : Nat} (hv : v < 2 * c) (hw : w < 2 * c) : vn c (np_exchange S v w) := by
  intro k hk
  refine ⟨?_, ?_, ?_, ?_⟩
  · rw [np_exchange_1]
    split
    · exact (h v hv).1
    · split
      · exact (h w hw).1
      · exact (h k hk).1
  · rw [np_exchange_2]
    split
    · exact hw
    · split
      · exact hv
      · exact (h k hk).2.1
  · rw [np_exchange_2, np_exchange_1]
    by_cases e1 : k = w
    · rw [if_pos e1, if_pos rfl, e1]
    · rw [if_neg e1]
      by_cases e2 : k = v
      · rw [if_pos e2]
        by_cases e3 : S.1 w = S.1 v
        · exact absurd (e2.trans (vn_inj h hv hw e3.symm)) e1
        · rw [if_neg e3, if_pos rfl, e2]
      · rw [if_neg e2, if_neg (fun e => e2 (vn_inj h hk hv e)), if_neg (fun e => e1 (vn_inj h hk hw e))]
        exact (h k hk).2.2.1
  · rw [np_exchange_1, np_exchange_2]
    by_cases e1 : k = S.1 v
    · rw [if_pos e1, if_pos rfl, e1]
    · rw [if_neg e1]
      by_cases e2 : k = S.1 w
      · rw [if_pos e2]
        by_cases e3 : v = w
        · exact absurd (by rw [e2, e3]) e1
        · rw [if_neg e3, if_pos rfl, e2]
      · rw [if_neg e2, if_neg (fun e => e2 (by rw [← e, (h k hk).2.2.2])), if_neg (fun e => e1 (by rw [← e, (h k hk).2.2.2]))]
        exact (h k hk).2.2.2
theorem np_exchange_twice {c : Nat} {S : ow_NP} (h : vn c S) {v w : Nat} (hv : v < 2 * c) (hw : w < 2 * c) : np_exchange (np_exchange S v w) v w = S := by
  have hvv : (np_exchange S v w).1 v = S.1 w := by
    rw [np_exchange_1]
    by_cases e : v = w
    · rw [if_pos e, e]
    · rw [if_neg e, if_pos rfl]
  have hww : (np_exchange S v w).1 w = S.1 v := by rw [np_exchange_1, if_pos rfl]
  apply Prod.ext
  · funext k
    rw [np_exchange_1, hvv, hww]
    by_cases e1 : k = w
    · rw [if_pos e1, e1]
    · rw [if_neg e1]
      by_cases e2 : k = v
      · rw [if_pos e2, e2]
      · rw [if_neg e2, np_exchange_1, if_neg e1, if_neg e2]
  · funext k
    rw [np_exchange_2, hvv, hww]
    by_cases e1 : k = S.1 w
    · rw [if_pos e1, e1, (h w hw).2.2.1]
    · rw [if_neg e1]
      by_cases e2 : k = S.1 v
      · rw [if_pos e2, e2, (h v hv).2.2.1]
      · rw [if_neg e2, np_exchange_2, if_neg e2, if_neg e1]
/-! marks of parts and rings don't hang on what stands behind the visits -/
def rl (n : Nat) (f g : Nat → Int32) : Prop := ∀ k, k < n → f k = g k
theorem rl_su {n v : Nat} {f g : Nat → Int32} (x : Int32) (h : rl n f g) : rl n (su f v x) (su g v x) := by
  intro k hk
  show (if k = v then x else f k) = if k = v then x else g k
  split
  · rfl
  · exact h k hk
theorem rl_fill (n : Nat) (f : Nat → Int32) (x : Int32) : rl n (np_fill f 0 n x) (fun _ => x) := fun k hk => if_pos ⟨Nat.zero_le k, hk⟩
theorem mp_add_rl {vs v : Nat} {k : Int32} {t u : ow_PQ} (h : rl vs t.1 u.1) (he : t.2 = u.2) (hv : v < vs) : rl vs (mp_add k t v).1 (mp_add k u v).1 ∧ (mp_add k t v).2 = (mp_add k u v).2 := by
  unfold mp_add
  rw [h v hv]
  split
  · exact ⟨rl_su k h, by rw [he]⟩
  · exact ⟨h, he⟩
theorem mp_bfs_rl {N : Nat → Nat} {c k : Nat} (hN : ∀ a, a < 2 * c → N a < 2 * c) (hk : k < 2 ^ 31) : ∀ (d i : Nat) (t u : ow_PQ), mp_ok (2 * c) t → rl (2 * c) t.1 u.1 → t.2 = u.2 → rl (2 * c) (mp_bfs N (nI k) d i t).1 (mp_bfs N (nI k) d i u).1 ∧ (mp_bfs N (nI k) d i t).2 = (mp_bfs N (nI k) d i u).2 := by
  intro d
  induction d with
  | zero => intro i t u _ h he; exact ⟨h, he⟩
  | succ d ih =>
    intro i t u hok h he
    show rl (2 * c) (if i < t.2.2 then _ else _ : ow_PQ).1 (if i < u.2.2 then _ else _ : ow_PQ).1 ∧ (if i < t.2.2 then _ else _ : ow_PQ).2 = (if i < u.2.2 then _ else _ : ow_PQ).2
    rw [← he]
    split
    · rename_i hlt
      have hq := hok.1 i hlt
      have h1 := mp_add_rl (k := nI k) h he (hN _ hq)
      have h2 := mp_add_rl (k := nI k) h1.1 h1.2 (mt_lt hq)
      exact ih (i + 1) _ _ (mp_add_ok hk (mp_add_ok hk hok (hN _ hq)) (mt_lt hq)) h2.1 h2.2
    · exact ⟨h, he⟩
theorem mp_out_rl {N : Nat → Nat} {c : Nat} (hN : ∀ a, a < 2 * c → N a < 2 * c) (hc : c ≤ 12) {F G : Nat → Int32} (h : rl (2 * c) F G) : ∀ n, n ≤ 2 * c → rl (2 * c) (mp_out N (2 * c) F n).1 (mp_out N (2 * c) G n).1 ∧ (mp_out N (2 * c) F n).2 = (mp_out N (2 * c) G n).2 := by
  intro n
  induction n with
  | zero => intro _; exact ⟨h, rfl⟩
  | succ n ih =>
    intro hn
    have hi := ih (by omega)
    have hle := mp_out_le N (2 * c) F n
    show rl (2 * c) (if (mp_out N (2 * c) F n).1 n = -1 then _ else _ : (Nat → Int32) × Nat).1 (if (mp_out N (2 * c) G n).1 n = -1 then _ else _ : (Nat → Int32) × Nat).1 ∧ (if (mp_out N (2 * c) F n).1 n = -1 then _ else _ : (Nat → Int32) × Nat).2 = (if (mp_out N (2 * c) G n).1 n = -1 then _ else _ : (Nat → Int32) × Nat).2
    rw [← hi.1 n (by omega), ← hi.2]
    split
    · rename_i hF
      have hk : (mp_out N (2 * c) F n).2 < 2 ^ 31 := by omega
      have hok : mp_ok (2 * c) (su (mp_out N (2 * c) F n).1 n (nI (mp_out N (2 * c) F n).2), (fun _ => n), 1) := by
        refine ⟨fun _ _ => by show n < 2 * c; omega, ?_⟩
        have h1 := cntU_su (x := nI (mp_out N (2 * c) F n).2) hF (nI_nm1 hk) (2 * c) (by omega)
        have h2 := cntU_le (mp_out N (2 * c) F n).1 (2 * c)
        show 1 + cntU (su (mp_out N (2 * c) F n).1 n (nI (mp_out N (2 * c) F n).2)) (2 * c) ≤ 2 * c
        omega
      exact ⟨(mp_bfs_rl hN hk (2 * c) 0 _ (su (mp_out N (2 * c) G n).1 n (nI (mp_out N (2 * c) F n).2), (fun _ => n), 1) hok (rl_su _ hi.1) rfl).1, rfl⟩
    · exact hi
/-- the parts of a net: the mark of each visit, how many -/
def np_parts (c : Nat) (N : Nat → Nat) : (Nat → Int32) × Nat := mp_out N (2 * c) (fun _ => -1) (2 * c)
theorem np_parts_of {N : Nat → Nat} {c : Nat} (hN : ∀ a, a < 2 * c → N a < 2 * c) (hc : c ≤ 12) (F : Nat → Int32) : rl (2 * c) (mp_out N (2 * c) (np_fill F 0 (2 * c) (-1)) (2 * c)).1 (np_parts c N).1 ∧ (mp_out N (2 * c) (np_fill F 0 (2 * c) (-1)) (2 * c)).2 = (np_parts c N).2 := mp_out_rl hN hc (rl_fill (2 * c) F (-1)) (2 * c) (Nat.le_refl _)
theorem mr_in_rl {N : Nat → Nat} {n : Nat} {x : Int32} (hN : ∀ a, a < n → N a < n) : ∀ (d : Nat) (f g : Nat → Int32) (v : Nat), v < n → rl n f g → rl n (mr_in N x d f v) (mr_in N x d g v) := by
  intro d
  induction d with
  | zero => intro f g v _ h; exact h
  | succ d ih =>
    intro f g v hv h
    show rl n (if f v = -1 then _ else _) (if g v = -1 then _ else _)
    rw [h v hv]
    split
    · exact ih _ _ _ (hN v hv) (rl_su x h)
    · exact h
theorem mr_out_rl {N : Nat → Nat} {vs : Nat} (hN : ∀ a, a < vs → N a < vs) {F G : Nat → Int32} (h : rl vs F G) : ∀ n, n ≤ vs → rl vs (mr_out N vs F n).1 (mr_out N vs G n).1 ∧ (mr_out N vs F n).2 = (mr_out N vs G n).2 := by
  intro n
  induction n with
  | zero => intro _; exact ⟨h, rfl⟩
  | succ n ih =>
    intro hn
    have hi := ih (by omega)
    show rl vs (if (mr_out N vs F n).1 n = -1 then _ else _ : (Nat → Int32) × Nat).1 (if (mr_out N vs G n).1 n = -1 then _ else _ : (Nat → Int32) × Nat).1 ∧ (if (mr_out N vs F n).1 n = -1 then _ else _ : (Nat → Int32) × Nat).2 = (if (mr_out N vs G n).1 n = -1 then _ else _ : (Nat → Int32) × Nat).2
    rw [← hi.1 n (by omega), ← hi.2]
    split
    · exact ⟨mr_in_rl hN vs _ _ n (by omega) hi.1, rfl⟩
    · exact hi
/-- the rings of a net -/
def np_rings (c : Nat) (N : Nat → Nat) : (Nat → Int32) × Nat := mr_out N (2 * c) (fun _ => -1) (2 * c)
theorem np_rings_of {N : Nat → Nat} {c : Nat} (hN : ∀ a, a < 2 * c → N a < 2 * c) (F : Nat → Int32) : rl (2 * c) (mr_out N (2 * c) (np_fill F 0 (2 * c) (-1)) (2 * c)).1 (np_rings c N).1 ∧ (mr_out N (2 * c) (np_fill F 0 (2 * c) (-1)) (2 * c)).2 = (np_rings c N).2 := mr_out_rl hN (rl_fill (2 * c) F (-1)) (2 * c) (Nat.le_refl _)
