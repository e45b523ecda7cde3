-- CHAIN: elimination row by row
/-- rows by the column where they begin; a row of 0 where none is kept -/
def ech9 (p : Int) (W : Nat) (d : Nat → vc9) : Prop := ∀ k, k < W → (∀ j, j < k → p ∣ d k j) ∧ ((∀ j, j < W → p ∣ d k j) ∨ ¬ p ∣ d k k)
section XCI5
variable {p : Int} {W n i : Nat} {d M : Nat → vc9} {u v w : vc9}
theorem ap_at (hd : ech9 p W d) {a : vc9} {k : Nat} (hk : k < W) (ha : ∀ j, j < k → p ∣ a j) : ∀ {n : Nat}, n ≤ W → p ∣ ap9 d n a k - (if k < n then a k * d k k else 0)
  | 0, _ => by
    rw [if_neg (by omega)]
    show p ∣ (0 : Int) - 0
    exact Int.dvd_zero p
  | n + 1, hn => by
    have ih := ap_at (a := a) hd hk ha (n := n) (by omega)
    show p ∣ ap9 d n a k + a n * d n k - _
    rcases Nat.lt_trichotomy k n with c | c | c
    · rw [if_pos c] at ih
      rw [if_pos (by omega)]
      have h9 := dvr9 (a n) ((hd n (by omega)).1 k c)
      rw [show ap9 d n a k + a n * d n k - a k * d k k = (ap9 d n a k - a k * d k k) + a n * d n k by omega]
      exact Int.dvd_add ih h9
    · rw [if_neg (by omega)] at ih
      rw [if_pos (by omega), ← c]
      rw [← c] at ih
      rw [show ap9 d k a k + a k * d k k - a k * d k k = ap9 d k a k - 0 by omega]
      exact ih
    · rw [if_neg (by omega)] at ih
      rw [if_neg (by omega)]
      have h9 := dvl9 (d n k) (ha n c)
      rw [show ap9 d n a k + a n * d n k - 0 = (ap9 d n a k - 0) + a n * d n k by omega]
      exact Int.dvd_add ih h9
/-- what lies in the span begins where a row begins -/
theorem el_in (hp : pr9 p) (hd : ech9 p W d) (hu : sp9 p W (rwl9 d W) u) {k : Nat} (hk : k < W) (h0 : ∀ j, j < k → p ∣ u j) (hz : ∀ j, j < W → p ∣ d k j) : p ∣ u k := by
  obtain ⟨a, ha⟩ := sp_ap.mp hu
  -- all numbers before k are 0 or stand at empty rows
  have key : ∀ m, m ≤ k → ∃ a', zq9 p W u (ap9 d W a') ∧ ∀ j, j < m → p ∣ a' j := by
    intro m
    induction m with
    | zero => exact fun _ => ⟨a, ha, fun j hj => absurd hj (Nat.not_lt_zero _)⟩
    | succ m ih =>
      intro hm
      obtain ⟨a', h1, h2⟩ := ih (by omega)
      have e := ap_at (a := a') hd (show m < W by omega) h2 (Nat.le_refl W)
      rw [if_pos (by omega)] at e
      have e2 := h1 m (by omega)
      have e3 : p ∣ a' m * d m m := by
        have := Int.dvd_sub (h0 m (by omega)) (Int.dvd_add e2 e)
        rw [show u m - (u m - ap9 d W a' m + (ap9 d W a' m - a' m * d m m)) = a' m * d m m by omega] at this
        exact this
      rcases (hd m (by omega)).2 with c | c
      · refine ⟨fun j => if j = m then 0 else a' j, zq_t h1 ?_, fun j hj => ?_⟩
        · have q : ∀ n, ∀ j, j < W → p ∣ ap9 d n a' j - ap9 d n (fun j => if j = m then 0 else a' j) j := by
            intro n
            induction n with
            | zero => exact fun j _ => by show p ∣ (0 : Int) - 0; exact Int.dvd_zero p
            | succ n ih2 =>
              intro j hj
              show p ∣ (ap9 d n a' j + a' n * d n j) - (ap9 d n (fun j => if j = m then 0 else a' j) j + (if n = m then 0 else a' n) * d n j)
              have i2 := ih2 j hj
              by_cases cn : n = m
              · rw [if_pos cn, Int.zero_mul, Int.add_zero]
                have i3 := dvr9 (a' n) (c j hj)
                rw [cn] at i3 i2 ⊢
                rw [show ap9 d m a' j + a' m * d m j - ap9 d m (fun j => if j = m then 0 else a' j) j = (ap9 d m a' j - ap9 d m (fun j => if j = m then 0 else a' j) j) + a' m * d m j by omega]
                exact Int.dvd_add i2 i3
              · rw [if_neg cn]
                rw [show ap9 d n a' j + a' n * d n j - (ap9 d n (fun j => if j = m then 0 else a' j) j + a' n * d n j) = ap9 d n a' j - ap9 d n (fun j => if j = m then 0 else a' j) j by omega]
                exact i2
          exact fun j hj => q W j hj
        · show p ∣ if j = m then 0 else a' j
          by_cases cj : j = m
          · rw [if_pos cj]
            exact Int.dvd_zero p
          · rw [if_neg cj]
            exact h2 j (by omega)
      · refine ⟨a', h1, fun j hj => ?_⟩
        rcases Nat.lt_or_ge j m with c1 | c1
        · exact h2 j c1
        · rw [show j = m by omega]
          exact (hp.2 _ _ e3).elim id (fun h9 => absurd h9 c)
  obtain ⟨a', h1, h2⟩ := key k (Nat.le_refl k)
  have e := ap_at (a := a') hd hk h2 (Nat.le_refl W)
  rw [if_pos hk] at e
  have e2 := h1 k hk
  have e3 := dvr9 (a' k) (hz k hk)
  have := Int.dvd_add (Int.dvd_add e2 e) e3
  rw [show u k - ap9 d W a' k + (ap9 d W a' k - a' k * d k k) + a' k * d k k = u k by omega] at this
  exact this
/-- after i rows of M the kept rows d -/
def El9 (p : Int) (W : Nat) (M : Nat → vc9) (i : Nat) (d : Nat → vc9) : Prop := ech9 p W d ∧ ∀ v, sp9 p W (rwl9 M i) v ↔ sp9 p W (rwl9 d W) v
theorem rwl_in : ∀ {n k : Nat}, k < n → d k ∈ rwl9 d n
  | 0, k, h => absurd h (Nat.not_lt_zero _)
  | n + 1, k, h => by
    rcases Nat.lt_or_ge k n with c | c
    · exact List.mem_cons_of_mem _ (rwl_in c)
    · rw [show k = n by omega]
      exact List.mem_cons_self
theorem rwl_mem : ∀ {n : Nat}, u ∈ rwl9 d n → ∃ k, k < n ∧ u = d k
  | 0, h => absurd h List.not_mem_nil
  | n + 1, h => by
    rcases List.mem_cons.mp h with e | e
    · exact ⟨n, by omega, e⟩
    · obtain ⟨k, k1, k2⟩ := rwl_mem e
      exact ⟨k, by omega, k2⟩
theorem El_0 : El9 p W M 0 (fun _ _ => 0) := by
  refine ⟨fun k _ => ⟨fun j _ => Int.dvd_zero p, Or.inl (fun j _ => Int.dvd_zero p)⟩, fun v => ?_⟩
  constructor
  · intro h
    exact sp_tr h (fun u hu => absurd hu List.not_mem_nil)
  · intro h
    refine sp_tr h (fun u hu => ?_)
    obtain ⟨k, -, e⟩ := rwl_mem hu
    rw [e]
    exact sp_0
/-- nothing new -/
theorem El_n (h : El9 p W M i d) (hv : sp9 p W (rwl9 d W) (M i)) : El9 p W M (i + 1) d ∧ rk9 p W (rwl9 M (i + 1)) = rk9 p W (rwl9 M i) := by
  have hv' := (h.2 _).mpr hv
  refine ⟨⟨h.1, fun v => ?_⟩, rk_y hv'⟩
  rw [← h.2 v]
  constructor
  · intro h9
    refine sp_tr h9 (fun u hu => ?_)
    rcases List.mem_cons.mp hu with e | e
    · rw [e]
      exact hv'
    · exact sp_in e
  · exact sp_c
/-- a new row -/
theorem El_y (hp : pr9 p) (h : El9 p W M i d) {k : Nat} {t t' : Int} (hk : k < W) (hz : ∀ j, j < W → p ∣ d k j) (hv : sp9 p W (rwl9 d W) (fun j => M i j - w j)) (h0 : ∀ j, j < k → p ∣ w j) (hn : ¬ p ∣ w k) (ht : p ∣ t * t' - 1) (hu : zq9 p W u (fun j => t * w j)) : El9 p W M (i + 1) (fun j => if j = k then u else d j) ∧ rk9 p W (rwl9 M (i + 1)) = rk9 p W (rwl9 M i) + 1 := by
  have tn : ¬ p ∣ t := fun h9 => by
    have := Int.dvd_sub (dvl9 t' h9) ht
    rw [show t * t' - (t * t' - 1) = 1 by omega] at this
    have := Int.le_of_dvd (by omega) this
    have := hp.1
    omega
  have nin : ¬ sp9 p W (rwl9 M i) (M i) := fun h9 => by
    have h8 := (h.2 _).mp h9
    have h7 : sp9 p W (rwl9 d W) w := by
      have := sp_a h8 (sp_m (-1) hv)
      refine sp_q (fun j _ => ?_) this
      rw [show w j - (M i j + -1 * (M i j - w j)) = 0 by omega]
      exact Int.dvd_zero p
    exact hn (el_in hp h.1 h7 hk h0 hz)
  refine ⟨⟨fun j hj => ?_, fun v => ?_⟩, rk_n nin⟩
  · dsimp only
    by_cases c : j = k
    · rw [if_pos c]
      refine ⟨fun m hm => ?_, Or.inr ?_⟩
      · have := hu m (by omega)
        have h9 := dvr9 t (h0 m (by omega))
        have := Int.dvd_add this h9
        rw [show u m - t * w m + t * w m = u m by omega] at this
        exact this
      · rw [c]
        intro h9
        have := Int.dvd_sub h9 (hu k hk)
        rw [show u k - (u k - t * w k) = t * w k by omega] at this
        exact (hp.2 _ _ this).elim tn hn
    · rw [if_neg c]
      exact h.1 j hj
  · have ku : sp9 p W (rwl9 (fun j => if j = k then u else d j) W) u := sp_in (by
      have := rwl_in (d := fun j => if j = k then u else d j) hk
      rw [if_pos rfl] at this
      exact this)
    have kd : ∀ x, sp9 p W (rwl9 d W) x → sp9 p W (rwl9 (fun j => if j = k then u else d j) W) x := fun x hx => sp_tr hx (fun y hy => by
      obtain ⟨j, j1, e⟩ := rwl_mem hy
      by_cases c : j = k
      · rw [e, c]
        exact sp_q (fun m hm => by rw [Int.sub_zero]; exact hz m hm) sp_0
      · have := rwl_in (d := fun j => if j = k then u else d j) j1
        rw [if_neg c] at this
        rw [e]
        exact sp_in this)
    have kw : sp9 p W (rwl9 (fun j => if j = k then u else d j) W) w := by
      refine sp_q (fun j hj => ?_) (sp_m t' ku)
      have a := dvr9 t' (hu j hj)
      have b := dvl9 (w j) ht
      have := Int.dvd_add a b
      have e : t' * (u j - t * w j) + (t * t' - 1) * w j = -(w j - t' * u j) := by
        rw [Int.mul_sub, Int.sub_mul, Int.one_mul, show t' * (t * w j) = t * t' * w j by rw [← Int.mul_assoc, Int.mul_comm t' t]]
        omega
      rw [e] at this
      exact (Int.dvd_neg).mp this
    constructor
    · intro h9
      refine sp_tr h9 (fun y hy => ?_)
      rcases List.mem_cons.mp hy with e | e
      · rw [e]
        have := sp_a (kd _ hv) kw
        refine sp_q (fun j _ => ?_) this
        rw [show M i j - (M i j - w j + w j) = 0 by omega]
        exact Int.dvd_zero p
      · exact kd y ((h.2 y).mp (sp_in e))
    · intro h9
      refine sp_tr h9 (fun y hy => ?_)
      obtain ⟨j, j1, e⟩ := rwl_mem hy
      by_cases c : j = k
      · rw [if_pos c] at e
        rw [e]
        have h8 : sp9 p W (rwl9 M (i + 1)) w := by
          have a : sp9 p W (rwl9 M (i + 1)) (M i) := sp_in List.mem_cons_self
          have b : sp9 p W (rwl9 M (i + 1)) (fun j => M i j - w j) := sp_c ((h.2 _).mpr hv)
          refine sp_q (fun j _ => ?_) (sp_a a (sp_m (-1) b))
          rw [show w j - (M i j + -1 * (M i j - w j)) = 0 by omega]
          exact Int.dvd_zero p
        exact sp_q hu (sp_m t h8)
      · rw [if_neg c] at e
        rw [e]
        exact sp_c ((h.2 _).mpr (sp_in (rwl_in j1)))
/-- rows that need not be looked at -/
theorem rk_cl (hp : pr9 p) (hi : iv9 p) {n : Nat} {M' : Nat → vc9} (cl : Nat → Prop) (h1 : ∀ i, i < n → ¬ cl i → M' i = M i) (h2 : ∀ i, i < n → cl i → M' i = fun _ => 0) (h3 : ∀ i, i < n → cl i → ∃ a : vc9, zq9 p W (M i) (fun j => sN9 (fun k => if i < k then a k * M k j else 0) n)) : rk9 p W (rwl9 M' n) = rk9 p W (rwl9 M n) := by
  refine rk_sp hp hi (fun v hv => ?_) (fun v hv => ?_)
  · obtain ⟨k, k1, e⟩ := rwl_mem hv
    by_cases c : cl k
    · rw [e, h2 k k1 c]
      exact sp_0
    · rw [e, h1 k k1 c]
      exact sp_in (rwl_in k1)
  · obtain ⟨k, k1, e⟩ := rwl_mem hv
    rw [e]
    have key : ∀ e, ∀ k, k + e = n → 0 < e → sp9 p W (rwl9 M' n) (M k) := by
      intro e
      induction e using Nat.strongRecOn with
      | ind e ih =>
        intro k hk h0
        by_cases c : cl k
        · obtain ⟨a, ha⟩ := h3 k (by omega) c
          refine sp_q ha ?_
          have q : ∀ m, m ≤ n → sp9 p W (rwl9 M' n) (fun j => sN9 (fun x => if k < x then a x * M x j else 0) m) := by
            intro m
            induction m with
            | zero => exact fun _ => sp_0
            | succ m ih2 =>
              intro hm
              have s1 := ih2 (by omega)
              by_cases cm : k < m
              · have s2 := sp_m (a m) (ih (n - m) (by omega) m (by omega) (by omega))
                refine sp_q (fun j _ => ?_) (sp_a s1 s2)
                show p ∣ sN9 (fun x => if k < x then a x * M x j else 0) m + (if k < m then a m * M m j else 0) - _
                rw [if_pos cm, Int.sub_self]
                exact Int.dvd_zero p
              · refine sp_q (fun j _ => ?_) s1
                show p ∣ sN9 (fun x => if k < x then a x * M x j else 0) m + (if k < m then a m * M m j else 0) - _
                rw [if_neg cm, Int.add_zero, Int.sub_self]
                exact Int.dvd_zero p
          exact q n (Nat.le_refl n)
        · rw [← h1 k (by omega) c]
          exact sp_in (rwl_in (by omega))
    exact key (n - k) k (by omega) (by omega)
end XCI5
