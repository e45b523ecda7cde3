/-! two gaps exchanged in a plane net -/
def pm_or (p : Nat → Nat) (a d : Nat) : Prop := ∃ i, itf p i a = d
theorem pm_sp_e {f : Nat → Nat} {P : Nat → Bool} {p x y : Nat} (hP : P x = P y) (hf : f x = f y) : pm_sp f P p x = pm_sp f P p y := by
  unfold pm_sp
  simp only [hP, hf]
section OR
variable {n a b : Nat} {p q : Nat → Nat}
theorem itf_add (p : Nat → Nat) (a : Nat) : ∀ i j, itf p (i + j) a = itf p i (itf p j a)
  | 0, j => by rw [Nat.zero_add]; rfl
  | i + 1, j => by
    rw [show i + 1 + j = (i + j) + 1 by omega]
    show p (itf p (i + j) a) = p (itf p i (itf p j a))
    rw [itf_add p a i j]
theorem or_rf (a : Nat) : pm_or p a a := ⟨0, rfl⟩
theorem or_tr {a b d : Nat} (h : pm_or p a b) (h2 : pm_or p b d) : pm_or p a d := by
  obtain ⟨i, rfl⟩ := h
  obtain ⟨j, rfl⟩ := h2
  exact ⟨j + i, itf_add p a j i⟩
theorem or_st (a : Nat) : pm_or p a (p a) := ⟨1, rfl⟩
theorem or_sy (hl : ∀ d, d < n → p d < n) (hi : ∀ d e, d < n → e < n → p d = p e → d = e) {a d : Nat} (ha : a < n) (h : pm_or p a d) : pm_or p d a := by
  obtain ⟨i, rfl⟩ := h
  obtain ⟨m, m1, -, m3, -⟩ := itf_per hl hi ha
  have per : ∀ k, itf p (k * m) a = a := by
    intro k
    induction k with
    | zero => rw [Nat.zero_mul]; rfl
    | succ k ih => rw [Nat.succ_mul, itf_add, m3, ih]
  refine ⟨(i + 1) * m - i, ?_⟩
  have hle : i ≤ (i + 1) * m := Nat.le_trans (Nat.le_succ i) (Nat.le_mul_of_pos_right _ (by omega))
  rw [← itf_add, Nat.sub_add_cancel hle]
  exact per _
theorem or_lab {β : Type} {f : Nat → β} (hl : ∀ d, d < n → p d < n) (hf : ∀ d, d < n → f (p d) = f d) {a d : Nat} (ha : a < n) (h : pm_or p a d) : f d = f a := by
  obtain ⟨i, rfl⟩ := h
  induction i with
  | zero => rfl
  | succ i ih => exact (hf _ (itf_in (D := fun s => s < n) hl ha i)).trans ih
/-- a map changed at two places -/
def pm_tp (p q : Nat → Nat) (a b : Nat) : Prop := q a = p b ∧ q b = p a ∧ ∀ d, d ≠ a → d ≠ b → q d = p d
theorem tp_lt (h : pm_tp p q a b) (hl : ∀ d, d < n → p d < n) (ha : a < n) (hb : b < n) : ∀ d, d < n → q d < n := by
  intro d hd
  by_cases e1 : d = a
  · rw [e1, h.1]; exact hl b hb
  · by_cases e2 : d = b
    · rw [e2, h.2.1]; exact hl a ha
    · rw [h.2.2 d e1 e2]; exact hl d hd
theorem tp_inj (h : pm_tp p q a b) (hi : ∀ d e, d < n → e < n → p d = p e → d = e) (ha : a < n) (hb : b < n) : ∀ d e, d < n → e < n → q d = q e → d = e := by
  have key : ∀ d, d < n → ∃ d', d' < n ∧ q d = p d' ∧ d' = (if d = a then b else if d = b then a else d) := by
    intro d hd
    by_cases e1 : d = a
    · exact ⟨b, hb, by rw [e1, h.1], by rw [if_pos e1]⟩
    · by_cases e2 : d = b
      · exact ⟨a, ha, by rw [e2, h.2.1], by rw [if_neg e1, if_pos e2]⟩
      · exact ⟨d, hd, h.2.2 d e1 e2, by rw [if_neg e1, if_neg e2]⟩
  intro d e hd he q1
  obtain ⟨d', d1, d2, d3⟩ := key d hd
  obtain ⟨e', e1, e2, e3⟩ := key e he
  have := hi _ _ d1 e1 (by rw [← d2, ← e2, q1])
  rw [d3, e3] at this
  split at this <;> split at this <;> (try split at this) <;> (try split at this) <;> omega
theorem tp_mg (h : pm_tp p q a b) {f : Nat → Nat} (hf : ∀ d, d < n → f (p d) = f d) (ha : a < n) (hb : b < n) : ∀ d, d < n → pm_mg f (f a) (f b) (q d) = pm_mg f (f a) (f b) d := by
  intro d hd
  by_cases e1 : d = a
  · rw [e1, h.1, pm_mg_e (hf b hb)]
    exact pm_mg_m.symm
  · by_cases e2 : d = b
    · rw [e2, h.2.1, pm_mg_e (hf a ha)]
      exact pm_mg_m
    · rw [h.2.2 d e1 e2]
      exact pm_mg_e (hf d hd)
/-- a round parted -/
theorem tp_no (h : pm_tp p q a b) (hl : ∀ d, d < n → p d < n) (hi : ∀ d e, d < n → e < n → p d = p e → d = e) (ha : a < n) (hne : a ≠ b) (ho : pm_or p a b) : ¬ pm_or q a b := by
  obtain ⟨M, m1, -, m3, m4⟩ := itf_per hl hi ha
  have red : ∃ m, m < M ∧ itf p m a = b := by
    obtain ⟨i, hi2⟩ := ho
    have : ∀ i, ∃ m, m < M ∧ itf p m a = itf p i a := by
      intro i
      induction i with
      | zero => exact ⟨0, by omega, rfl⟩
      | succ i ih =>
        obtain ⟨m, e1, e2⟩ := ih
        have e3 : itf p (m + 1) a = itf p (i + 1) a := congrArg p e2
        by_cases e : m + 1 = M
        · exact ⟨0, by omega, by rw [← e3, e, m3]; rfl⟩
        · exact ⟨m + 1, by omega, e3⟩
    obtain ⟨m, e1, e2⟩ := this i
    exact ⟨m, e1, e2.trans hi2⟩
  obtain ⟨m, hm, eb⟩ := red
  have hm0 : m ≠ 0 := fun e => hne (by rw [← eb, e]; rfl)
  have key : ∀ j, ∃ i, m < i ∧ i ≤ M ∧ itf q j a = itf p i a := by
    intro j
    induction j with
    | zero => exact ⟨M, by omega, by omega, m3.symm⟩
    | succ j ih =>
      obtain ⟨i, i1, i2, i3⟩ := ih
      show ∃ i', m < i' ∧ i' ≤ M ∧ q (itf q j a) = itf p i' a
      rw [i3]
      by_cases e : i = M
      · refine ⟨m + 1, by omega, by omega, ?_⟩
        rw [e, m3, h.1, ← eb]
        rfl
      · have h1 : itf p i a ≠ a := fun e9 => by have := m4 i 0 (by omega) (by omega) e9; omega
        have h2 : itf p i a ≠ b := fun e9 => by have := m4 i m (by omega) hm (e9.trans eb.symm); omega
        exact ⟨i + 1, by omega, by omega, by rw [h.2.2 _ h1 h2]; rfl⟩
  rintro ⟨j, hj⟩
  obtain ⟨i, i1, i2, i3⟩ := key j
  rw [hj, ← eb] at i3
  by_cases e : i = M
  · rw [e, m3] at i3
    have := m4 m 0 hm (by omega) i3
    omega
  · have := m4 m i hm (by omega) i3
    omega
theorem tp_sp (h : pm_tp p q a b) (hl : ∀ d, d < n → p d < n) (hi : ∀ d e, d < n → e < n → p d = p e → d = e) (ha : a < n) (hb : b < n) (hne : a ≠ b) (ho : pm_or p a b) {f : Nat → Nat} (hf : ∀ d, d < n → f (p d) = f d) {X : List Nat} (hX : ∀ x, x ∈ X → x < n) (hv : pm_dv f X) : ∃ (g : Nat → Nat) (Y : List Nat), (∀ d, d < n → g (q d) = g d) ∧ (∀ y, y ∈ Y → y < n) ∧ pm_dv g Y ∧ X.length + 1 ≤ Y.length := by
  have hno := tp_no h hl hi ha hne ho
  have hl2 := tp_lt h hl ha hb
  have hi2 := tp_inj h hi ha hb
  have eab : f a = f b := (or_lab hl hf ha ho).symm
  obtain ⟨Y, y1, y2, y3⟩ := pm_sp_dv (P := fun d => @decide (pm_or q a d) (Classical.propDecidable _)) (a := a) (b := b) hv (@decide_eq_true _ (Classical.propDecidable _) (or_rf a)) (@decide_eq_false _ (Classical.propDecidable _) hno) eab
  refine ⟨_, Y, fun d hd => ?_, fun y hy => ?_, y3, y2⟩
  · have fq : f (q d) = f d := by
      by_cases e1 : d = a
      · rw [e1, h.1, hf b hb, eab]
      · by_cases e2 : d = b
        · rw [e2, h.2.1, hf a ha, eab]
        · rw [h.2.2 d e1 e2, hf d hd]
    have pq : @decide (pm_or q a (q d)) (Classical.propDecidable _) = @decide (pm_or q a d) (Classical.propDecidable _) := by
      by_cases h1 : pm_or q a d
      · rw [@decide_eq_true _ (Classical.propDecidable _) h1, @decide_eq_true _ (Classical.propDecidable _) (or_tr h1 (or_st d))]
      · rw [@decide_eq_false _ (Classical.propDecidable _) h1, @decide_eq_false _ (Classical.propDecidable _) (fun h9 => h1 (or_tr h9 (or_sy hl2 hi2 hd (or_st d))))]
    exact pm_sp_e pq fq
  · rcases y1 y hy with h9 | h9 | h9
    · rw [h9]; exact ha
    · rw [h9]; exact hb
    · exact hX y h9
end OR
section EX
variable {c : Nat} {S : ow_NP} {b : Nat → Bool} {v w : Nat}
/-- the map of darts between the two exchanges -/
def pn_md (S : ow_NP) (b : Nat → Bool) (v w d : Nat) : Nat := if d = 2 * v then pn_ph S b (2 * w) else if d = 2 * w then pn_ph S b (2 * v) else pn_ph S b d
def pn_mo (S : ow_NP) (b : Nat → Bool) (v w d : Nat) : Nat := if d = 2 * S.1 v + 1 then pn_ph S b (2 * S.1 w + 1) else if d = 2 * S.1 w + 1 then pn_ph S b (2 * S.1 v + 1) else pn_ph S b d
theorem md_tp (hne : v ≠ w) : pm_tp (pn_ph S b) (pn_md S b v w) (2 * v) (2 * w) := by
  refine ⟨if_pos rfl, ?_, fun d h1 h2 => ?_⟩
  · unfold pn_md
    rw [if_neg (by omega), if_pos rfl]
  · unfold pn_md
    rw [if_neg h1, if_neg h2]
theorem mo_tp (hne : S.1 v ≠ S.1 w) : pm_tp (pn_ph S b) (pn_mo S b v w) (2 * S.1 v + 1) (2 * S.1 w + 1) := by
  refine ⟨if_pos rfl, ?_, fun d h1 h2 => ?_⟩
  · unfold pn_mo
    rw [if_neg (by omega), if_pos rfl]
  · unfold pn_mo
    rw [if_neg h1, if_neg h2]
theorem ex_al (hv : vn c S) (h1 : v < 2 * c) (h2 : w < 2 * c) (hne : v ≠ w) : pn_al (np_exchange S v w) (2 * v) = pn_al S (2 * w) ∧ pn_al (np_exchange S v w) (2 * w) = pn_al S (2 * v) ∧ pn_al (np_exchange S v w) (2 * S.1 v + 1) = pn_al S (2 * S.1 w + 1) ∧ pn_al (np_exchange S v w) (2 * S.1 w + 1) = pn_al S (2 * S.1 v + 1) ∧ ∀ d, d < 4 * c → d ≠ 2 * v → d ≠ 2 * w → d ≠ 2 * S.1 v + 1 → d ≠ 2 * S.1 w + 1 → pn_al (np_exchange S v w) d = pn_al S d := by
  have hi : S.1 v ≠ S.1 w := fun e => hne (vn_inj hv h1 h2 e)
  have e1 := (hv v h1).2.2.1
  have e2 := (hv w h2).2.2.1
  refine ⟨?_, ?_, ?_, ?_, fun d hd g1 g2 g3 g4 => ?_⟩
  · rw [pn_al0, pn_al0, np_exchange_1, if_neg hne, if_pos rfl]
  · rw [pn_al0, pn_al0, np_exchange_1, if_pos rfl]
  · rw [pn_al1, pn_al1, np_exchange_2, if_pos rfl, e2]
  · rw [pn_al1, pn_al1, np_exchange_2, if_neg (fun e => hi e.symm), if_pos rfl, e1]
  · unfold pn_al
    by_cases e : d % 2 = 0
    · rw [if_pos e, if_pos e, np_exchange_1, if_neg (by omega), if_neg (by omega)]
    · rw [if_neg e, if_neg e, np_exchange_2, if_neg (by omega), if_neg (by omega)]
theorem md_tp2 (hv : vn c S) (h1 : v < 2 * c) (h2 : w < 2 * c) (hne : v ≠ w) : ∃ q, (∀ d, d < 4 * c → q d = pn_ph (np_exchange S v w) b d) ∧ pm_tp (pn_md S b v w) q (2 * S.1 v + 1) (2 * S.1 w + 1) := by
  have hi : S.1 v ≠ S.1 w := fun e => hne (vn_inj hv h1 h2 e)
  obtain ⟨a1, a2, a3, a4, a5⟩ := ex_al hv h1 h2 hne
  have k1 : pn_md S b v w (2 * S.1 v + 1) = pn_ph S b (2 * S.1 v + 1) := (md_tp hne).2.2 _ (by omega) (by omega)
  have k2 : pn_md S b v w (2 * S.1 w + 1) = pn_ph S b (2 * S.1 w + 1) := (md_tp hne).2.2 _ (by omega) (by omega)
  refine ⟨fun d => if d = 2 * S.1 v + 1 then pn_md S b v w (2 * S.1 w + 1) else if d = 2 * S.1 w + 1 then pn_md S b v w (2 * S.1 v + 1) else pn_md S b v w d, fun d hd => ?_, if_pos rfl, ?_, fun d g1 g2 => ?_⟩
  · dsimp only
    unfold pn_ph
    by_cases e3 : d = 2 * S.1 v + 1
    · rw [if_pos e3, k2, e3, a3]
      rfl
    · rw [if_neg e3]
      by_cases e4 : d = 2 * S.1 w + 1
      · rw [if_pos e4, k1, e4, a4]
        rfl
      · rw [if_neg e4]
        by_cases e1 : d = 2 * v
        · rw [e1, a1]
          exact (md_tp hne).1
        · by_cases e2 : d = 2 * w
          · rw [e2, a2]
            exact (md_tp hne).2.1
          · rw [a5 d hd e1 e2 e3 e4]
            exact (md_tp hne).2.2 d e1 e2
  · dsimp only
    rw [if_neg (by omega), if_pos rfl]
  · dsimp only
    rw [if_neg g1, if_neg g2]
theorem mo_tp2 (hv : vn c S) (h1 : v < 2 * c) (h2 : w < 2 * c) (hne : v ≠ w) : ∃ q, (∀ d, d < 4 * c → q d = pn_ph (np_exchange S v w) b d) ∧ pm_tp (pn_mo S b v w) q (2 * v) (2 * w) := by
  have hi : S.1 v ≠ S.1 w := fun e => hne (vn_inj hv h1 h2 e)
  obtain ⟨a1, a2, a3, a4, a5⟩ := ex_al hv h1 h2 hne
  have k1 : pn_mo S b v w (2 * v) = pn_ph S b (2 * v) := (mo_tp hi).2.2 _ (by omega) (by omega)
  have k2 : pn_mo S b v w (2 * w) = pn_ph S b (2 * w) := (mo_tp hi).2.2 _ (by omega) (by omega)
  refine ⟨fun d => if d = 2 * v then pn_mo S b v w (2 * w) else if d = 2 * w then pn_mo S b v w (2 * v) else pn_mo S b v w d, fun d hd => ?_, if_pos rfl, ?_, fun d g1 g2 => ?_⟩
  · dsimp only
    unfold pn_ph
    by_cases e3 : d = 2 * v
    · rw [if_pos e3, k2, e3, a1]
      rfl
    · rw [if_neg e3]
      by_cases e4 : d = 2 * w
      · rw [if_pos e4, k1, e4, a2]
        rfl
      · rw [if_neg e4]
        by_cases e1 : d = 2 * S.1 v + 1
        · rw [e1, a3]
          exact (mo_tp hi).1
        · by_cases e2 : d = 2 * S.1 w + 1
          · rw [e2, a4]
            exact (mo_tp hi).2.1
          · rw [a5 d hd e3 e4 e1 e2]
            exact (mo_tp hi).2.2 d e1 e2
  · dsimp only
    rw [if_neg (by omega), if_pos rfl]
  · dsimp only
    rw [if_neg g1, if_neg g2]
/-! parts of an exchanged net -/
theorem ex_rch_keep (hv : vn c S) (h1 : v < 2 * c) (h2 : w < 2 * c) (hj : rch c (np_exchange S v w) v w) {x u : Nat} (h : rch c S x u) : rch c (np_exchange S v w) x u := by
  have hv' := vn_exchange hv h1 h2
  have hj' := rch_sy hv' h1 hj
  refine h (fun u => rch c (np_exchange S v w) x u) (rch_rf _ _ _) (fun j hjl hp => ?_) (fun j hjl hp => rch_m hp hjl)
  by_cases e1 : j = v
  · have := rch_n (rch_tr hp (by rw [e1]; exact hj)) h2
    rw [np_exchange_1, if_pos rfl] at this
    rw [e1]
    exact this
  · by_cases e2 : j = w
    · have := rch_n (rch_tr hp (by rw [e2]; exact hj')) h1
      rw [np_exchange_1, if_neg (fun e => e1 (e2.trans e.symm)), if_pos rfl] at this
      rw [e2]
      exact this
    · have := rch_n hp hjl
      rw [np_exchange_1, if_neg e2, if_neg e1] at this
      exact this
/-- what is not joined to the places of the exchange stays joined -/
theorem ex_rch_far (hv : vn c S) (h1 : v < 2 * c) (h2 : w < 2 * c) {x u : Nat} (hx : x < 2 * c) (n1 : ¬ rch c S x v) (n2 : ¬ rch c S x w) (h : rch c S x u) : rch c (np_exchange S v w) x u := by
  refine (h (fun u => rch c S x u ∧ rch c (np_exchange S v w) x u) ⟨rch_rf _ _ _, rch_rf _ _ _⟩ (fun j hjl hp => ⟨rch_n hp.1 hjl, ?_⟩) (fun j hjl hp => ⟨rch_m hp.1 hjl, rch_m hp.2 hjl⟩)).2
  have := rch_n hp.2 hjl
  rw [np_exchange_1, if_neg (fun e => n2 (by rw [← e]; exact hp.1)), if_neg (fun e => n1 (by rw [← e]; exact hp.1))] at this
  exact this
/-- two parts become one -/
theorem ex_join (hv : vn c S) (h1 : v < 2 * c) (h2 : w < 2 * c) (hn : ¬ rch c S v w) : rch c (np_exchange S v w) v w := by
  have hv' := vn_exchange hv h1 h2
  have hne : v ≠ w := fun e => hn (by rw [e]; exact rch_rf _ _ _)
  refine Classical.byContradiction (fun hw => ?_)
  have z0 : rch c (np_exchange S v w) v (S.1 w) := by
    have := rch_n (rch_rf c (np_exchange S v w) v) h1
    rw [np_exchange_1, if_neg hne, if_pos rfl] at this
    exact this
  have hl := (hv w h2).1
  have key : ∀ i, itf S.1 i (S.1 w) < 2 * c ∧ rch c S w (itf S.1 i (S.1 w)) ∧ rch c (np_exchange S v w) v (itf S.1 i (S.1 w)) := by
    intro i
    induction i with
    | zero => exact ⟨hl, rch_n (rch_rf _ _ _) h2, z0⟩
    | succ i ih =>
      obtain ⟨i1, i2, i3⟩ := ih
      refine ⟨(hv _ i1).1, rch_n i2 i1, ?_⟩
      have := rch_n i3 i1
      have h8 : itf S.1 i (S.1 w) ≠ w := fun e => by have h7 := i3; rw [e] at h7; exact hw h7
      have h9 : itf S.1 i (S.1 w) ≠ v := fun e => by have h7 := i2; rw [e] at h7; exact hn (rch_sy hv h2 h7)
      rw [np_exchange_1, if_neg h8, if_neg h9] at this
      exact this
  obtain ⟨k, hk⟩ := itf_back (f := S.1) (D := fun s => s < 2 * c) (N := 2 * c) (fun s hs => hs) (fun s hs => (hv s hs).1) (fun s t hs ht e => vn_inj hv hs ht e) h2
  have := (key k).2.2
  have e9 : itf S.1 k (S.1 w) = w := by
    have := itf_add S.1 w k 1
    rw [hk] at this
    exact this.symm
  rw [e9] at this
  exact hw this
/-- where an exchange parts a part both sides of the two gaps are in one face each -/
theorem ex_bridge (hv : vn c S) (hb : pn_fl b) (hp : pn_pl c S b) (h1 : v < 2 * c) (h2 : w < 2 * c) (hn : ¬ rch c (np_exchange S v w) v w) : pm_or (pn_ph S b) (2 * v) (2 * w) ∧ pm_or (pn_ph S b) (2 * S.1 v + 1) (2 * S.1 w + 1) ∧ ∃ κ : Nat → Bool, (∀ d, d < 4 * c → κ (pn_ph S b d) = κ d) ∧ κ (2 * S.1 v + 1) = !κ (2 * v) := by
  have hv' := vn_exchange hv h1 h2
  have hne : v ≠ w := fun e => hn (by rw [e]; exact rch_rf _ _ _)
  obtain ⟨κ, hκ⟩ := pn_kap hv hb hp
  have kph : ∀ d, d < 4 * c → κ (pn_ph S b d) = κ d := fun d hd => by
    unfold pn_ph
    rw [(hκ _ (pn_al_lt hv hd)).1, (hκ d hd).2, Bool.not_not]
  have kal : κ (2 * S.1 v + 1) = !κ (2 * v) := by
    have := (hκ (2 * v) (by omega)).2
    rw [pn_al0] at this
    exact this
  have hlt : ∀ d, d < 4 * c → pn_ph S b d < 4 * c := fun d hd => pn_ph_lt hv hd
  have hinj : ∀ d e, d < 4 * c → e < 4 * c → pn_ph S b d = pn_ph S b e → d = e := fun d e hd he q => pn_ph_inj hv hb hd he q
  let B : Nat → Prop := fun d => rch c (np_exchange S v w) v (d / 2)
  have hl1 := (hv v h1).1
  have hl2 := (hv w h2).1
  -- around crossings
  have Brt : ∀ d, d < 4 * c → (B (pn_rt b d) ↔ B d) := fun d hd => by
    show rch c (np_exchange S v w) v (pn_rt b d / 2) ↔ rch c (np_exchange S v w) v (d / 2)
    rw [pn_rt_h]
    exact ⟨fun h => by have := rch_m h (mt_lt (show d / 2 < 2 * c by omega)); rw [mt_mt] at this; exact this, fun h => rch_m h (by omega)⟩
  have nx' : ∀ u, u < 2 * c → (rch c (np_exchange S v w) v ((np_exchange S v w).1 u) ↔ rch c (np_exchange S v w) v u) := fun u hu => ⟨fun h => rch_tr h (rch_back hv' hu), fun h => rch_n h hu⟩
  have Bv : B (2 * v) := by
    show rch c (np_exchange S v w) v (2 * v / 2)
    rw [show 2 * v / 2 = v by omega]
    exact rch_rf _ _ _
  have Bw : ¬ B (2 * w) := by
    show ¬ rch c (np_exchange S v w) v (2 * w / 2)
    rw [show 2 * w / 2 = w by omega]
    exact hn
  have Bv' : ¬ B (2 * S.1 v + 1) := by
    show ¬ rch c (np_exchange S v w) v ((2 * S.1 v + 1) / 2)
    rw [show (2 * S.1 v + 1) / 2 = S.1 v by omega]
    intro h
    have := nx' w h2
    rw [np_exchange_1, if_pos rfl] at this
    exact hn (this.mp h)
  have Bw' : B (2 * S.1 w + 1) := by
    show rch c (np_exchange S v w) v ((2 * S.1 w + 1) / 2)
    rw [show (2 * S.1 w + 1) / 2 = S.1 w by omega]
    have := nx' v h1
    rw [np_exchange_1, if_neg hne, if_pos rfl] at this
    exact this.mpr (rch_rf _ _ _)
  have Bal : ∀ d, d < 4 * c → d ≠ 2 * v → d ≠ 2 * w → d ≠ 2 * S.1 v + 1 → d ≠ 2 * S.1 w + 1 → (B (pn_al S d) ↔ B d) := fun d hd g1 g2 g3 g4 => by
    rw [← (ex_al hv h1 h2 hne).2.2.2.2 d hd g1 g2 g3 g4]
    show rch c (np_exchange S v w) v (pn_al (np_exchange S v w) d / 2) ↔ rch c (np_exchange S v w) v (d / 2)
    unfold pn_al
    by_cases e : d % 2 = 0
    · rw [if_pos e, show (2 * (np_exchange S v w).1 (d / 2) + 1) / 2 = (np_exchange S v w).1 (d / 2) by omega]
      exact nx' _ (by omega)
    · rw [if_neg e, show 2 * (np_exchange S v w).2 (d / 2) / 2 = (np_exchange S v w).2 (d / 2) by omega]
      obtain ⟨q1, q2, q3, q4⟩ := hv' (d / 2) (by omega)
      have := nx' _ q2
      rw [q4] at this
      exact this.symm
  have Bph : ∀ d, d < 4 * c → d ≠ 2 * v → d ≠ 2 * w → d ≠ 2 * S.1 v + 1 → d ≠ 2 * S.1 w + 1 → (B (pn_ph S b d) ↔ B d) := fun d hd g1 g2 g3 g4 => (Brt _ (pn_al_lt hv hd)).trans (Bal d hd g1 g2 g3 g4)
  refine ⟨?_, ?_, κ, kph, kal⟩
  · -- from 2 v on
    have hs : 2 * v < 4 * c := by omega
    have lt : ∀ i, itf (pn_ph S b) i (2 * v) < 4 * c := fun i => itf_in (D := fun s => s < 4 * c) hlt hs i
    have key : ∀ i, ¬ B (itf (pn_ph S b) (i + 1) (2 * v)) ∨ pm_or (pn_ph S b) (2 * v) (2 * w) ∨ pm_or (pn_ph S b) (2 * v) (2 * S.1 v + 1) := by
      intro i
      induction i with
      | zero =>
        left
        show ¬ B (pn_rt b (pn_al S (2 * v)))
        rw [Brt _ (pn_al_lt hv hs), pn_al0]
        exact Bv'
      | succ i ih =>
        rcases ih with h | h
        · show ¬ B (pn_ph S b (itf (pn_ph S b) (i + 1) (2 * v))) ∨ _
          by_cases e2 : itf (pn_ph S b) (i + 1) (2 * v) = 2 * w
          · exact Or.inr (Or.inl ⟨_, e2⟩)
          · by_cases e3 : itf (pn_ph S b) (i + 1) (2 * v) = 2 * S.1 v + 1
            · exact Or.inr (Or.inr ⟨_, e3⟩)
            · left
              rw [Bph _ (lt _) (fun e => h (by rw [e]; exact Bv)) e2 e3 (fun e => h (by rw [e]; exact Bw'))]
              exact h
        · exact Or.inr h
    obtain ⟨k, hk⟩ := itf_back (f := pn_ph S b) (D := fun s => s < 4 * c) (N := 4 * c) (fun s hs => hs) hlt (fun s t hs ht e => hinj s t hs ht e) hs
    rcases key k with h | h | h
    · rw [hk] at h
      exact absurd Bv h
    · exact h
    · have := or_lab hlt kph hs h
      rw [kal] at this
      exact absurd this (by cases κ (2 * v) <;> decide)
  · have hs : 2 * S.1 v + 1 < 4 * c := by omega
    have lt : ∀ i, itf (pn_ph S b) i (2 * S.1 v + 1) < 4 * c := fun i => itf_in (D := fun s => s < 4 * c) hlt hs i
    have key : ∀ i, B (itf (pn_ph S b) (i + 1) (2 * S.1 v + 1)) ∨ pm_or (pn_ph S b) (2 * S.1 v + 1) (2 * S.1 w + 1) ∨ pm_or (pn_ph S b) (2 * S.1 v + 1) (2 * v) := by
      intro i
      induction i with
      | zero =>
        left
        show B (pn_rt b (pn_al S (2 * S.1 v + 1)))
        rw [Brt _ (pn_al_lt hv hs), pn_al1, (hv v h1).2.2.1]
        exact Bv
      | succ i ih =>
        rcases ih with h | h
        · show B (pn_ph S b (itf (pn_ph S b) (i + 1) (2 * S.1 v + 1))) ∨ _
          by_cases e2 : itf (pn_ph S b) (i + 1) (2 * S.1 v + 1) = 2 * S.1 w + 1
          · exact Or.inr (Or.inl ⟨_, e2⟩)
          · by_cases e3 : itf (pn_ph S b) (i + 1) (2 * S.1 v + 1) = 2 * v
            · exact Or.inr (Or.inr ⟨_, e3⟩)
            · left
              rw [Bph _ (lt _) e3 (fun e => Bw (by rw [← e]; exact h)) (fun e => Bv' (by rw [← e]; exact h)) e2]
              exact h
        · exact Or.inr h
    obtain ⟨k, hk⟩ := itf_back (f := pn_ph S b) (D := fun s => s < 4 * c) (N := 4 * c) (fun s hs => hs) hlt (fun s t hs ht e => hinj s t hs ht e) hs
    rcases key k with h | h | h
    · rw [hk] at h
      exact absurd h Bv'
    · exact h
    · have := or_lab hlt kph hs h
      rw [kal] at this
      exact absurd this (by cases κ (2 * v) <;> decide)
/-- the exchange of two gaps keeps a net plane: of two parts, or with a face in common on one side -/
theorem pn_exch (hv : vn c S) (hb : pn_fl b) (hp : pn_pl c S b) (h1 : v < 2 * c) (h2 : w < 2 * c) (hne : v ≠ w) (h : ¬ rch c S v w ∨ pm_or (pn_ph S b) (2 * v) (2 * w) ∨ pm_or (pn_ph S b) (2 * S.1 v + 1) (2 * S.1 w + 1)) : pn_pl c (np_exchange S v w) b := by
  have hv' := vn_exchange hv h1 h2
  have hi : S.1 v ≠ S.1 w := fun e => hne (vn_inj hv h1 h2 e)
  have hl1 := (hv v h1).1
  have hl2 := (hv w h2).1
  have hlt : ∀ d, d < 4 * c → pn_ph S b d < 4 * c := fun d hd => pn_ph_lt hv hd
  have hinj : ∀ d e, d < 4 * c → e < 4 * c → pn_ph S b d = pn_ph S b e → d = e := fun d e hd he q => pn_ph_inj hv hb hd he q
  have a1 : 2 * v < 4 * c := by omega
  have a2 : 2 * w < 4 * c := by omega
  have a3 : 2 * S.1 v + 1 < 4 * c := by omega
  have a4 : 2 * S.1 w + 1 < 4 * c := by omega
  have tm := md_tp (S := S) (b := b) hne
  have to := mo_tp (S := S) (b := b) hi
  have mlt := tp_lt tm hlt a1 a2
  have mij := tp_inj tm hinj a1 a2
  obtain ⟨qm, qm1, qm2⟩ := md_tp2 (b := b) hv h1 h2 hne
  obtain ⟨qo, qo1, qo2⟩ := mo_tp2 (b := b) hv h1 h2 hne
  have bridge := fun hn => ex_bridge hv hb hp h1 h2 hn
  obtain ⟨R, hR, f, X, f1, f2, f3, f4⟩ := hp
  by_cases hj : rch c S v w
  · have h := h.resolve_left (fun h9 => h9 hj)
    by_cases hj' : rch c (np_exchange S v w) v w
    · refine ⟨R, fun u hu => ?_, ?_⟩
      · obtain ⟨r, r1, r2, r3⟩ := hR u hu
        exact ⟨r, r1, r2, ex_rch_keep hv h1 h2 hj' r3⟩
      · rcases h with h | h
        · obtain ⟨g, Y, g1, g2, g3, g4⟩ := tp_sp tm hlt hinj a1 a2 (by omega) h f1 f2 f3
          have k1 := tp_mg qm2 g1 a3 a4
          obtain ⟨Z, z1, z2, z3⟩ := pm_mg_dv g3 (g (2 * S.1 v + 1)) (g (2 * S.1 w + 1))
          exact ⟨_, Z, fun d hd => by rw [← qm1 d hd]; exact k1 d hd, fun x hx => g2 x (z1 x hx), z3, by omega⟩
        · obtain ⟨g, Y, g1, g2, g3, g4⟩ := tp_sp to hlt hinj a3 a4 (by omega) h f1 f2 f3
          have k1 := tp_mg qo2 g1 a1 a2
          obtain ⟨Z, z1, z2, z3⟩ := pm_mg_dv g3 (g (2 * v)) (g (2 * w))
          exact ⟨_, Z, fun d hd => by rw [← qo1 d hd]; exact k1 d hd, fun x hx => g2 x (z1 x hx), z3, by omega⟩
    · obtain ⟨b1, b2, κ, k1, k2⟩ := bridge hj'
      obtain ⟨r1, q1, q2, q3⟩ := hR v h1
      refine ⟨v :: w :: R.erase r1, fun u hu => ?_, ?_⟩
      · by_cases hu2 : rch c S v u
        · have key : rch c (np_exchange S v w) v u ∨ rch c (np_exchange S v w) w u := by
            refine hu2 (fun u => rch c (np_exchange S v w) v u ∨ rch c (np_exchange S v w) w u) (Or.inl (rch_rf _ _ _)) (fun j hjl hp => ?_) (fun j hjl hp => ?_)
            · by_cases e1 : j = v
              · right
                have := rch_n (rch_rf c (np_exchange S v w) w) h2
                rw [np_exchange_1, if_pos rfl] at this
                rw [e1]
                exact this
              · by_cases e2 : j = w
                · left
                  have := rch_n (rch_rf c (np_exchange S v w) v) h1
                  rw [np_exchange_1, if_neg hne, if_pos rfl] at this
                  rw [e2]
                  exact this
                · rcases hp with hp | hp
                  · left
                    have := rch_n hp hjl
                    rw [np_exchange_1, if_neg e2, if_neg e1] at this
                    exact this
                  · right
                    have := rch_n hp hjl
                    rw [np_exchange_1, if_neg e2, if_neg e1] at this
                    exact this
            · rcases hp with hp | hp
              · exact Or.inl (rch_m hp hjl)
              · exact Or.inr (rch_m hp hjl)
          rcases key with k | k
          · exact ⟨v, List.mem_cons_self, h1, k⟩
          · exact ⟨w, List.mem_cons_of_mem _ List.mem_cons_self, h2, k⟩
        · obtain ⟨r, p1, p2, p3⟩ := hR u hu
          have e1 : r ≠ r1 := fun e => hu2 (rch_tr (rch_sy hv q2 q3) (by rw [← e]; exact p3))
          have nv : ¬ rch c S r v := fun h9 => hu2 (rch_tr (rch_sy hv p2 h9) p3)
          exact ⟨r, List.mem_cons_of_mem _ (List.mem_cons_of_mem _ ((List.mem_erase_of_ne e1).mpr p1)), p2, ex_rch_far hv h1 h2 p2 nv (fun h9 => nv (rch_tr h9 (rch_sy hv h1 hj))) p3⟩
      · obtain ⟨g, Y, g1, g2, g3, g4⟩ := tp_sp tm hlt hinj a1 a2 (by omega) b1 f1 f2 f3
        -- the other round is untouched
        have kv : κ (2 * w) = κ (2 * v) := or_lab hlt k1 a1 b1
        have same : ∀ i, itf (pn_md S b v w) i (2 * S.1 v + 1) = itf (pn_ph S b) i (2 * S.1 v + 1) := by
          intro i
          induction i with
          | zero => rfl
          | succ i ih =>
            show pn_md S b v w (itf (pn_md S b v w) i (2 * S.1 v + 1)) = pn_ph S b (itf (pn_ph S b) i (2 * S.1 v + 1))
            rw [ih]
            have hk := or_lab hlt k1 a3 (⟨i, rfl⟩ : pm_or (pn_ph S b) (2 * S.1 v + 1) (itf (pn_ph S b) i (2 * S.1 v + 1)))
            rw [k2] at hk
            exact tm.2.2 _ (fun e => by rw [e] at hk; revert hk; cases κ (2 * v) <;> decide) (fun e => by rw [e, kv] at hk; revert hk; cases κ (2 * v) <;> decide)
        obtain ⟨i, hi9⟩ := b2
        obtain ⟨g', Y', g1', g2', g3', g4'⟩ := tp_sp qm2 mlt mij a3 a4 (by omega) ⟨i, by rw [same]; exact hi9⟩ g1 g2 g3
        refine ⟨g', Y', fun d hd => by rw [← qm1 d hd]; exact g1' d hd, g2', g3', ?_⟩
        have hl := List.length_erase_of_mem q1
        have hpos : 0 < R.length := List.length_pos_of_mem q1
        rw [List.length_cons, List.length_cons, hl]
        omega
  · have hj' := ex_join hv h1 h2 hj
    obtain ⟨r1, q1, q2, q3⟩ := hR v h1
    obtain ⟨r2, p1, p2, p3⟩ := hR w h2
    have hne2 : r1 ≠ r2 := fun e => hj (rch_tr (rch_sy hv q2 q3) (by rw [e]; exact p3))
    have hl := List.length_erase_of_mem p1
    have hpos : 0 < R.length := List.length_pos_of_mem p1
    refine ⟨R.erase r2, fun u hu => ?_, ?_⟩
    · obtain ⟨r, s1, s2, s3⟩ := hR u hu
      have s4 := ex_rch_keep hv h1 h2 hj' s3
      by_cases e : r = r2
      · refine ⟨r1, (List.mem_erase_of_ne hne2).mpr q1, q2, ?_⟩
        have t1 := ex_rch_keep hv h1 h2 hj' q3
        have t2 := rch_sy hv' p2 (ex_rch_keep hv h1 h2 hj' p3)
        rw [e] at s4
        exact rch_tr t1 (rch_tr hj' (rch_tr t2 s4))
      · exact ⟨r, (List.mem_erase_of_ne e).mpr s1, s2, s4⟩
    · have k0 := tp_mg tm f1 a1 a2
      obtain ⟨Y, y1, y2, y3⟩ := pm_mg_dv f3 (f (2 * v)) (f (2 * w))
      have k1 := tp_mg qm2 k0 a3 a4
      obtain ⟨Z, z1, z2, z3⟩ := pm_mg_dv y3 (pm_mg f (f (2 * v)) (f (2 * w)) (2 * S.1 v + 1)) (pm_mg f (f (2 * v)) (f (2 * w)) (2 * S.1 w + 1))
      refine ⟨_, Z, fun d hd => by rw [← qm1 d hd]; exact k1 d hd, fun x hx => f2 x (y1 x (z1 x hx)), z3, ?_⟩
      rw [hl]
      omega
end EX
