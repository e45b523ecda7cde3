/-! parting: whatever is parted first, the end is one -/
/-- two gaps are exchanged -/
def exN (N : Nat → Nat) (v w k : Nat) : Nat := if k = w then N v else if k = v then N w else N k
/-- one part: every mark that is kept along rings and through crossings is the same -/
def ptN (c : Nat) (N : Nat → Nat) (a b : Nat) : Prop := ∀ m : Nat → Nat, (∀ k, k < 2 * c → m (N k) = m k ∧ m (mt k) = m k) → m a = m b
def bjN (c : Nat) (N : Nat → Nat) : Prop := (∀ k, k < 2 * c → N k < 2 * c) ∧ ∀ j k, j < 2 * c → k < 2 * c → N j = N k → j = k
def prN (c : Nat) (N : Nat → Nat) (v w : Nat) : Prop := v < 2 * c ∧ w < 2 * c ∧ v ≠ w ∧ (∃ i, it N i v = w) ∧ ¬ ptN c (exN N v w) v w
def stN (c : Nat) : Nat → (Nat → Nat) → (Nat → Nat) → Prop
  | 0, N, M => N = M
  | n + 1, N, M => ∃ v w, prN c N v w ∧ stN c n (exN N v w) M
def irN (c : Nat) (N : Nat → Nat) : Prop := ∀ v w, ¬ prN c N v w
section XSU
variable {c : Nat} {N M : Nat → Nat} {v w v' w' a b : Nat}
theorem exN_v (h : v ≠ w) : exN N v w v = N w := by
  unfold exN
  rw [if_neg h, if_pos rfl]
theorem exN_w : exN N v w w = N v := if_pos rfl
theorem exN_o (h1 : a ≠ v) (h2 : a ≠ w) : exN N v w a = N a := by
  unfold exN
  rw [if_neg h2, if_neg h1]
theorem exN_sy (h : v ≠ w) : exN N v w = exN N w v := by
  funext k
  unfold exN
  by_cases e1 : k = w
  · rw [if_pos e1, if_neg (fun e => h (e.symm.trans e1)), if_pos e1]
  · by_cases e2 : k = v
    · rw [if_neg e1, if_pos e2, if_pos e2]
    · rw [if_neg e1, if_neg e2, if_neg e2, if_neg e1]
theorem bj_ex (h : bjN c N) (hv : v < 2 * c) (hw : w < 2 * c) : bjN c (exN N v w) := by
  by_cases e : v = w
  · subst e
    have : exN N v v = N := by
      funext k
      unfold exN
      by_cases e1 : k = v
      · rw [if_pos e1, e1]
      · rw [if_neg e1, if_neg e1]
    rw [this]
    exact h
  · have key : ∀ k, exN N v w k = N (if k = w then v else if k = v then w else k) := fun k => by
      unfold exN
      by_cases e1 : k = w
      · rw [if_pos e1, if_pos e1]
      · by_cases e2 : k = v
        · rw [if_neg e1, if_pos e2, if_neg e1, if_pos e2]
        · rw [if_neg e1, if_neg e2, if_neg e1, if_neg e2]
    have lt : ∀ k, k < 2 * c → (if k = w then v else if k = v then w else k) < 2 * c := fun k hk => by
      split
      · exact hv
      · split
        · exact hw
        · exact hk
    refine ⟨fun k hk => by rw [key]; exact h.1 _ (lt k hk), fun j k hj hk he => ?_⟩
    rw [key, key] at he
    have e9 := h.2 _ _ (lt j hj) (lt k hk) he
    repeat' split at e9
    all_goals omega
theorem pt_rf : ptN c N a a := fun _ _ => rfl
theorem pt_sy (h : ptN c N a b) : ptN c N b a := fun m hm => (h m hm).symm
theorem pt_tr {d : Nat} (h : ptN c N a b) (h2 : ptN c N b d) : ptN c N a d := fun m hm => (h m hm).trans (h2 m hm)
theorem pt_it (hb : bjN c N) : ∀ (i a : Nat), a < 2 * c → ptN c N a (it N i a) ∧ it N i a < 2 * c
  | 0, a, ha => ⟨pt_rf, ha⟩
  | i + 1, a, ha => by
    obtain ⟨h1, h2⟩ := pt_it hb i a ha
    exact ⟨fun m hm => (h1 m hm).trans (hm _ h2).1.symm, hb.1 _ h2⟩
/-- an exchange within one part joins nothing -/
theorem pt_ex (hv : v < 2 * c) (hw : w < 2 * c) (h : ptN c N v w) (h2 : ptN c (exN N v w) a b) : ptN c N a b := by
  intro m hm
  refine h2 m (fun k hk => ⟨?_, (hm k hk).2⟩)
  have e := h m hm
  unfold exN
  by_cases e1 : k = w
  · rw [if_pos e1, (hm v hv).1, e1, e]
  · by_cases e2 : k = v
    · rw [if_neg e1, if_pos e2, (hm w hw).1, e2, e]
    · rw [if_neg e1, if_neg e2]
      exact (hm k hk).1
/-- the ring of v, by places: v = place 0, of n places -/
theorem pos_ex (hb : bjN c N) (hv : v < 2 * c) : ∃ n, 0 < n ∧ it N n v = v ∧ (∀ i j, i < n → j < n → it N i v = it N j v → i = j) ∧ ∀ i, ∃ j, j < n ∧ it N i v = it N j v := by
  have it_add9 : ∀ (i j x : Nat), it N (i + j) x = it N j (it N i x) := fun i j x => by
    rw [Nat.add_comm]
    exact it_add N x j i
  have injI : ∀ (i x y : Nat), x < 2 * c → y < 2 * c → it N i x = it N i y → x = y := by
    intro i
    induction i with
    | zero => exact fun x y _ _ e => e
    | succ i ih =>
      intro x y hx hy e
      exact ih x y hx hy (hb.2 _ _ (pt_it hb i x hx).2 (pt_it hb i y hy).2 e)
  have lt : ∀ i, it N i v < 2 * c := fun i => (pt_it hb i v hv).2
  obtain ⟨i, j, h1, h2, h3⟩ := ow_pig (2 * c) (fun i => it N i v) (fun i _ => lt i)
  have hp : it N (j - i) v = v := by
    have e : it N j v = it N i (it N (j - i) v) := by rw [← it_add9, show j - i + i = j by omega]
    have h3 : it N i v = it N j v := h3
    rw [e] at h3
    exact (injI i _ _ hv (lt _) h3).symm
  have ex : ∃ n, 0 < n ∧ it N n v = v := ⟨j - i, by omega, hp⟩
  obtain ⟨n, ⟨n1, n2⟩, n3⟩ : ∃ n, (0 < n ∧ it N n v = v) ∧ ∀ m, m < n → ¬ (0 < m ∧ it N m v = v) := by
    obtain ⟨n, hn⟩ := ex
    induction n using Nat.strongRecOn with
    | _ n ih =>
      by_cases h9 : ∃ m, m < n ∧ 0 < m ∧ it N m v = v
      · obtain ⟨m, m1, m2⟩ := h9
        exact ih m m1 m2
      · exact ⟨n, hn, fun m m1 m2 => h9 ⟨m, m1, m2⟩⟩
  refine ⟨n, n1, n2, fun i j hi hj e => ?_, fun i => ⟨i % n, Nat.mod_lt _ n1, ?_⟩⟩
  · rcases Nat.lt_trichotomy i j with q | q | q
    · exfalso
      have e2 : it N j v = it N i (it N (j - i) v) := by rw [← it_add9, show j - i + i = j by omega]
      rw [e2] at e
      exact n3 (j - i) (by omega) ⟨by omega, (injI i _ _ hv (lt _) e).symm⟩
    · exact q
    · exfalso
      have e2 : it N i v = it N j (it N (i - j) v) := by rw [← it_add9, show i - j + j = i by omega]
      rw [e2] at e
      exact n3 (i - j) (by omega) ⟨by omega, (injI j _ _ hv (lt _) e.symm).symm⟩
  · have key : ∀ q r, it N (n * q + r) v = it N r v := by
      intro q
      induction q with
      | zero =>
        intro r
        rw [Nat.mul_zero, Nat.zero_add]
      | succ q ih =>
        intro r
        rw [Nat.mul_succ, show n * q + n + r = n + (n * q + r) by omega, it_add9, n2]
        exact ih r
    have := key (i / n) (i % n)
    rw [Nat.div_add_mod] at this
    exact this
end XSU
