-- CHAIN: the generators in their order
/-- loops by number -/
def LT9 (c : Nat) (G : Nat → Prop) (rel : (Nat → Bool) → Nat → Nat → Prop) (Ls : Nat → Nat → Nat) (ns : Nat → Nat) : Prop := ∀ s, s < 2 ^ c → (∀ g, G g → Ls s g < ns s) ∧ (∀ l, l < ns s → ∃ g, G g ∧ Ls s g = l) ∧ (∀ g g', G g → G g' → (Ls s g = Ls s g' ↔ rel (tb s) g g')) ∧ ns s ≤ 20
noncomputable def ge9 (G : Nat → Prop) (Ls : Nat → Nat → Nat) (s m : Nat) : gn9 := (tb s, fun g => dcb (G g) && decide (btN m (Ls s g) = 0))
def va9 (c : Nat) (ns : Nat → Nat) (dg : Int) (h s m : Nat) : Prop := s < 2 ^ c ∧ pc s = h ∧ m < 2 ^ ns s ∧ kpF (ns s) (pc s) dg = some (pc m)
def ix9 (ns : Nat → Nat) (dg : Int) (s m : Nat) : Nat := smH (bkF ns dg) (pc s) 0 s + cpN (pc m) m
def sz9 (c : Nat) (ns : Nat → Nat) (dg : Int) (h : Nat) : Nat := smH (bkF ns dg) h 0 (2 ^ c)
section XCI6
variable {c V k r : Nat} {G : Nat → Prop} {P1 P2 P3 : Nat → Nat} {rel : (Nat → Bool) → Nat → Nat → Prop} {Ls : Nat → Nat → Nat} {ns : Nat → Nat} {dg : Int} {s m : Nat}
theorem tb_b (m y : Nat) : tb m y = decide (btN m y = 1) := rfl
theorem bt_01 (m y : Nat) : btN m y = 0 ∨ btN m y = 1 := by
  unfold btN
  omega
theorem nb_ex : ∀ (n : Nat) (b : Nat → Bool), (∀ y, n ≤ y → b y = false) → ∃ m, m < 2 ^ n ∧ ∀ y, tb m y = b y
  | 0, b, h => ⟨0, by decide, fun y => by
    rw [h y (Nat.zero_le y)]
    unfold tb
    rw [Nat.zero_div]
    rfl⟩
  | n + 1, b, h => by
    obtain ⟨m, m1, m2⟩ := nb_ex n (off9 b n) (fun y hy => by
      by_cases c : y = n
      · rw [c]
        exact off_x
      · rw [off_o c]
        exact h y (by omega))
    have pw : (2 : Nat) ^ (n + 1) = 2 ^ n + 2 ^ n := by
      rw [Nat.pow_succ]
      omega
    by_cases cb : b n = true
    · refine ⟨m + 2 ^ n, by omega, fun y => ?_⟩
      rw [tb_b, bt_add m1]
      by_cases c : y = n
      · rw [if_pos c, c, cb]
        rfl
      · rw [if_neg c, ← tb_b, m2, off_o c]
    · refine ⟨m, by omega, fun y => ?_⟩
      rw [m2, off_f (ff_of cb)]
theorem tb_in : ∀ (n : Nat) {m m' : Nat}, m < 2 ^ n → m' < 2 ^ n → (∀ y, y < n → tb m y = tb m' y) → m = m'
  | 0, m, m', h, h', _ => by
    have : (2 : Nat) ^ 0 = 1 := rfl
    omega
  | n + 1, m, m', h, h', e => by
    have pw : (2 : Nat) ^ (n + 1) = 2 * 2 ^ n := by
      rw [Nat.pow_succ]
      omega
    have sh : ∀ m y, tb (m / 2) y = tb m (y + 1) := fun m y => by
      unfold tb
      rw [Nat.div_div_eq_div_mul, Nat.pow_succ, Nat.mul_comm 2]
    have q := tb_in n (m := m / 2) (m' := m' / 2) (by omega) (by omega) (fun y hy => by rw [sh, sh]; exact e (y + 1) (by omega))
    have e0 := e 0 (by omega)
    unfold tb at e0
    rw [Nat.pow_zero, Nat.div_one, Nat.div_one] at e0
    have e1 := decide_eq_decide.mp e0
    omega
theorem tb_hi {n y : Nat} (h : m < 2 ^ n) (hy : n ≤ y) : tb m y = false := by
  rw [tb_b, bt_lt h hy]
  rfl
theorem ons_sb : ∀ n, ons9 (tb m) n = sbt m n
  | 0 => rfl
  | n + 1 => by
    show ons9 (tb m) n + (if tb m n = true then 1 else 0) = sbt m n + btN m n
    rw [ons_sb n, tb_b]
    rcases bt_01 m n with e | e <;> rw [e] <;> rfl
theorem ons_pc (hs : s < 2 ^ c) (hc : c ≤ 32) : ons9 (tb s) c = pc s := by rw [ons_sb, pc_sbt hc hs]
theorem cn_all : ∀ n, cn9 (fun _ => True) n = n
  | 0 => rfl
  | n + 1 => by rw [cn_y trivial, cn_all n]
theorem cn_bt : ∀ n, cn9 (fun l => btN m l = 0) n + sbt m n = n
  | 0 => rfl
  | n + 1 => by
    have ih := cn_bt n
    show cn9 (fun l => btN m l = 0) (n + 1) + (sbt m n + btN m n) = n + 1
    rcases bt_01 m n with e | e
    · rw [cn_y (P := fun l => btN m l = 0) e]
      omega
    · rw [cn_n (P := fun l => btN m l = 0) (by rw [e]; omega)]
      omega
theorem cls_Eq {n : Nat} {Q : Nat → Prop} : cls9 (fun a b => a = b) (fun l => l < n) n Q = cn9 Q n := cn_cg (fun l hl => ⟨fun h => h.2, fun h => ⟨⟨hl, fun h' h1 _ h2 => by omega⟩, h⟩⟩)
theorem cls_lp (hC : cu9 c V G P1 P2 P3 rel) (hL : LT9 c G rel Ls ns) (hs : s < 2 ^ c) {Q Q' : Nat → Prop} (hQ : ∀ g h, rel (tb s) g h → (Q g ↔ Q h)) (hq : ∀ g, G g → (Q' (Ls s g) ↔ Q g)) : cls9 (rel (tb s)) G V Q = cn9 Q' (ns s) := by
  obtain ⟨l1, l2, l3, -⟩ := hL s hs
  obtain ⟨φ, hφ⟩ : ∃ φ : Nat → Nat, ∀ l, l < ns s → G (φ l) ∧ Ls s (φ l) = l := ⟨fun l => @dite _ (l < ns s) (Classical.propDecidable _) (fun h => (l2 l h).choose) (fun _ => 0), fun l hl => by
    dsimp only
    rw [dif_pos hl]
    exact (l2 l hl).choose_spec⟩
  rw [← cls_Eq]
  refine cls_ph (φ := φ) (hC.1.1 _) ⟨fun _ => rfl, fun _ _ h => h.symm, fun _ _ _ h h' => h.trans h'⟩ hC.2.2.1 (fun g hg => hg) (fun l hl => (hφ l hl).1) (fun l l' hl hl' => ?_) (fun g hg => ?_) hQ (fun l hl => ?_)
  · rw [← l3 _ _ (hφ l hl).1 (hφ l' hl').1, (hφ l hl).2, (hφ l' hl').2]
  · exact ⟨Ls s g, l1 g hg, (l3 _ _ hg (hφ _ (l1 g hg)).1).mp (hφ _ (l1 g hg)).2.symm⟩
  · rw [← hq _ (hφ l hl).1, (hφ l hl).2]
theorem ge_rel (hC : cu9 c V G P1 P2 P3 rel) (hL : LT9 c G rel Ls ns) (hs : s < 2 ^ c) : vl9 rel (ge9 G Ls s m) := fun g h h9 => by
  obtain ⟨l1, l2, l3, -⟩ := hL s hs
  by_cases e : g = h
  · rw [e]
  · obtain ⟨a, b⟩ := hC.2.1 (tb s) (fun y hy => tb_hi hs hy) g h h9 e
    show (dcb (G g) && decide (btN m (Ls s g) = 0)) = (dcb (G h) && decide (btN m (Ls s h) = 0))
    rw [dcb_t.mpr a, dcb_t.mpr b, (l3 g h a b).mpr h9]
theorem ge_dg (hC : cu9 c V G P1 P2 P3 rel) (hL : LT9 c G rel Ls ns) (hc : c ≤ 32) (hs : s < 2 ^ c) (hm : m < 2 ^ ns s) : dg9 rel G V c (ge9 G Ls s m) = 2 * (pc m : Int) - ns s + pc s := by
  have h20 := (hL s hs).2.2.2
  unfold dg9
  have e1 : cls9 (rel (ge9 G Ls s m).1) G V (fun _ => True) = ns s := (cls_lp hC hL hs (Q := fun _ => True) (Q' := fun _ => True) (fun _ _ _ => Iff.rfl) (fun _ _ => Iff.rfl)).trans (cn_all _)
  have e2 : cls9 (rel (ge9 G Ls s m).1) G V (fun g => (ge9 G Ls s m).2 g = true) = cn9 (fun l => btN m l = 0) (ns s) := cls_lp hC hL hs (fun g h h9 => by rw [ge_rel hC hL hs g h h9]) (fun g hg => by
    show btN m (Ls s g) = 0 ↔ (dcb (G g) && decide (btN m (Ls s g) = 0)) = true
    rw [dcb_t.mpr hg, Bool.true_and, decide_eq_true_iff])
  have e3 : ons9 (ge9 G Ls s m).1 c = pc s := ons_pc hs hc
  rw [e1, e2, e3]
  have e4 := cn_bt (m := m) (ns s)
  rw [← pc_sbt (by omega) hm] at e4
  omega
theorem kp_iff {n h k : Nat} {dg : Int} (hk : k ≤ n) : kpF n h dg = some k ↔ 2 * (k : Int) - n + h = dg := by
  unfold kpF
  constructor
  · intro h9
    split at h9
    · have := Option.some.inj h9
      omega
    · cases h9
  · intro h9
    rw [if_pos (by omega)]
    congr 1
    omega
theorem Sg_va (hC : cu9 c V G P1 P2 P3 rel) (hL : LT9 c G rel Ls ns) (hc : c ≤ 32) {γ : gn9} : Sg9 c V G rel k dg r γ ↔ ∃ s m, va9 c ns dg (pc s) s m ∧ pc s + k = r ∧ γ = ge9 G Ls s m := by
  constructor
  · rintro ⟨z1, z2, z3, z4, z5⟩
    obtain ⟨s, s1, s2⟩ := nb_ex c γ.1 z1
    have es : tb s = γ.1 := funext s2
    obtain ⟨l1, l2, l3, l4⟩ := hL s s1
    obtain ⟨m, m1, m2⟩ := nb_ex (ns s) (fun l => @dite _ (l < ns s) (Classical.propDecidable _) (fun h => !γ.2 (l2 l h).choose) (fun _ => false)) (fun y hy => dif_neg (by omega))
    have eγ : γ = ge9 G Ls s m := by
      refine Prod.ext es.symm (funext (fun g => ?_))
      show γ.2 g = (dcb (G g) && decide (btN m (Ls s g) = 0))
      by_cases hg : G g
      · rw [dcb_t.mpr hg, Bool.true_and]
        have h2 := m2 (Ls s g)
        rw [dif_pos (l1 g hg)] at h2
        obtain ⟨q1, q2⟩ := (l2 _ (l1 g hg)).choose_spec
        have q3 := (l3 _ _ q1 hg).mp q2
        rw [es] at q3
        rw [z3 _ _ q3, tb_b] at h2
        rcases bt_01 m (Ls s g) with e | e
        · rw [e] at h2 ⊢
          revert h2
          cases γ.2 g <;> simp
        · rw [e] at h2 ⊢
          revert h2
          cases γ.2 g <;> simp
      · rw [dcb_f.mpr hg, z2 g hg]
        rfl
    refine ⟨s, m, ⟨s1, rfl, m1, ?_⟩, ?_, eγ⟩
    · rw [eγ, ge_dg hC hL hc s1 m1] at z5
      exact (kp_iff (pc_le m1)).mpr z5
    · rw [← z4, ← es, ons_pc s1 hc]
  · rintro ⟨s, m, ⟨s1, -, m1, hk⟩, e1, rfl⟩
    refine ⟨fun y hy => tb_hi s1 hy, fun g hg => ?_, ge_rel hC hL s1, ?_, ?_⟩
    · show (dcb (G g) && _) = false
      rw [dcb_f.mpr hg]
      rfl
    · rw [← e1]
      show ons9 (tb s) c + k = _
      rw [ons_pc s1 hc]
    · rw [ge_dg hC hL hc s1 m1]
      exact (kp_iff (pc_le m1)).mp hk
theorem ge_in (hL : LT9 c G rel Ls ns) {s' m' : Nat} (hs : s < 2 ^ c) (hs' : s' < 2 ^ c) (hm : m < 2 ^ ns s) (hm' : m' < 2 ^ ns s') (e : ge9 G Ls s m = ge9 G Ls s' m') : s = s' ∧ m = m' := by
  have e1 : tb s = tb s' := congrArg Prod.fst e
  have es : s = s' := tb_in c hs hs' (fun y _ => congrFun e1 y)
  refine ⟨es, ?_⟩
  subst es
  obtain ⟨l1, l2, l3, l4⟩ := hL s hs
  refine tb_in (ns s) hm hm' (fun l hl => ?_)
  obtain ⟨g, g1, g2⟩ := l2 l hl
  have e2 : (dcb (G g) && decide (btN m (Ls s g) = 0)) = (dcb (G g) && decide (btN m' (Ls s g) = 0)) := congrFun (congrArg Prod.snd e) g
  rw [dcb_t.mpr g1, Bool.true_and, Bool.true_and, g2] at e2
  have e3 := decide_eq_decide.mp e2
  rw [tb_b, tb_b]
  rcases bt_01 m l with a | a <;> rcases bt_01 m' l with b | b <;> rw [a, b] at e3 ⊢ <;> simp at e3
/-- the place of a generator -/
theorem bk_va {h : Nat} (hv : va9 c ns dg h s m) (hn : ns s < 32) : bkF ns dg s = biN (ns s) (pc m) ∧ cpN (pc m) m < bkF ns dg s := by
  have e : bkF ns dg s = biN (ns s) (pc m) := by
    unfold bkF
    rw [hv.2.2.2]
  exact ⟨e, by rw [e]; exact cpN_lt hn hv.2.2.1⟩
theorem smH_s (w : Nat → Nat) (h n : Nat) : smH w h 0 (n + 1) = smH w h 0 n + if pc n = h then w n else 0 := by
  show smH w h 0 n + (if pc n = h then w (0 + n) else 0) = _
  rw [Nat.zero_add]
theorem ix_sz {h : Nat} (hv : va9 c ns dg h s m) (hn : ns s < 32) : ix9 ns dg s m < sz9 c ns dg h := by
  obtain ⟨e1, e2⟩ := bk_va hv hn
  unfold ix9 sz9
  rw [← hv.2.1]
  have a := smH_mono (w := bkF ns dg) (h := pc s) (t := 0) (a := s + 1) (2 ^ c) hv.1
  rw [smH_s, if_pos rfl] at a
  omega
theorem ix_in {h s' m' : Nat} (hv : va9 c ns dg h s m) (hv' : va9 c ns dg h s' m') (hn : ns s < 32) (hn' : ns s' < 32) (e : ix9 ns dg s m = ix9 ns dg s' m') : s = s' ∧ m = m' := by
  obtain ⟨e1, e2⟩ := bk_va hv hn
  obtain ⟨f1, f2⟩ := bk_va hv' hn'
  have lt : ∀ {a b x y : Nat}, pc a = h → pc b = h → a < b → x < bkF ns dg a → smH (bkF ns dg) (pc a) 0 a + x ≠ smH (bkF ns dg) (pc b) 0 b + y := fun {a b x y} ha hb hab hx h9 => by
    have q := smH_mono (w := bkF ns dg) (h := h) (t := 0) (a := a + 1) b hab
    rw [smH_s, if_pos ha] at q
    rw [ha, hb] at h9
    omega
  unfold ix9 at e
  have es : s = s' := by
    rcases Nat.lt_trichotomy s s' with q | q | q
    · exact absurd e (lt hv.2.1 hv'.2.1 q e2)
    · exact q
    · exact absurd e.symm (lt hv'.2.1 hv.2.1 q f2)
  subst es
  refine ⟨rfl, ?_⟩
  have ep : pc m = pc m' := by
    have a := hv.2.2.2
    rw [hv'.2.2.2] at a
    exact (Option.some.inj a).symm
  rw [ep] at e
  have e : cpN (pc m') m = cpN (pc m') m' := by omega
  rcases Nat.lt_trichotomy m m' with q | q | q
  · have a := cpN_mono (r := pc m') (a := m + 1) m' q
    have b : cpN (pc m') (m + 1) = cpN (pc m') m + 1 := by
      show cpN (pc m') m + (if pc m = pc m' then 1 else 0) = _
      rw [if_pos ep]
    omega
  · exact q
  · have a := cpN_mono (r := pc m') (a := m' + 1) m q
    have b : cpN (pc m') (m' + 1) = cpN (pc m') m' + 1 := by
      show cpN (pc m') m' + (if pc m' = pc m' then 1 else 0) = _
      rw [if_pos rfl]
    omega
theorem sm_at {w : Nat → Nat} {h i : Nat} (n : Nat) : i < smH w h 0 n → ∃ s, s < n ∧ pc s = h ∧ smH w h 0 s ≤ i ∧ i < smH w h 0 s + w s := by
  induction n with
  | zero => exact fun h9 => absurd h9 (Nat.not_lt_zero _)
  | succ n ih =>
    intro h9
    rcases Nat.lt_or_ge i (smH w h 0 n) with q | q
    · obtain ⟨s, a, b⟩ := ih q
      exact ⟨s, by omega, b⟩
    · rw [smH_s] at h9
      by_cases e : pc n = h
      · rw [if_pos e] at h9
        exact ⟨n, by omega, e, q, h9⟩
      · rw [if_neg e] at h9
        omega
theorem cp_at {k j : Nat} (n : Nat) : j < cpN k n → ∃ m, m < n ∧ pc m = k ∧ cpN k m = j := by
  induction n with
  | zero => exact fun h9 => absurd h9 (Nat.not_lt_zero _)
  | succ n ih =>
    intro h9
    rcases Nat.lt_or_ge j (cpN k n) with q | q
    · obtain ⟨s, a, b⟩ := ih q
      exact ⟨s, by omega, b⟩
    · have h9 : j < cpN k n + (if pc n = k then 1 else 0) := h9
      by_cases e : pc n = k
      · rw [if_pos e] at h9
        exact ⟨n, by omega, e, by omega⟩
      · rw [if_neg e] at h9
        omega
theorem ix_on {h i : Nat} (hn : ∀ s, s < 2 ^ c → ns s < 32) (hi : i < sz9 c ns dg h) : ∃ s m, va9 c ns dg h s m ∧ ix9 ns dg s m = i := by
  obtain ⟨s, s1, s2, s3, s4⟩ := sm_at _ hi
  have s5 : i - smH (bkF ns dg) h 0 s < bkF ns dg s := by omega
  cases e : kpF (ns s) (pc s) dg with
  | none =>
    unfold bkF at s5
    rw [e] at s5
    exact absurd s5 (Nat.not_lt_zero _)
  | some k =>
    have eb : bkF ns dg s = biN (ns s) k := by
      unfold bkF
      rw [e]
    rw [eb, ← cpN_bi _ _ (hn s s1)] at s5
    obtain ⟨m, m1, m2, m3⟩ := cp_at _ s5
    refine ⟨s, m, ⟨s1, s2, m1, by rw [e, m2]⟩, ?_⟩
    unfold ix9
    rw [s2, m2, m3]
    omega
/-- the generators in their order -/
noncomputable def E9 (c : Nat) (G : Nat → Prop) (Ls : Nat → Nat → Nat) (ns : Nat → Nat) (dg : Int) (k r i : Nat) : gn9 := @dite _ (∃ q : Nat × Nat, va9 c ns dg (r - k) q.1 q.2 ∧ ix9 ns dg q.1 q.2 = i) (Classical.propDecidable _) (fun h => ge9 G Ls h.choose.1 h.choose.2) (fun _ => (fun _ => false, fun _ => false))
def N9 (c : Nat) (ns : Nat → Nat) (dg : Int) (k r : Nat) : Nat := if k ≤ r then sz9 c ns dg (r - k) else 0
theorem E_at {i : Nat} (hn : ∀ s, s < 2 ^ c → ns s < 32) (hv : va9 c ns dg (r - k) s m) (hi : ix9 ns dg s m = i) : E9 c G Ls ns dg k r i = ge9 G Ls s m := by
  have h : ∃ q : Nat × Nat, va9 c ns dg (r - k) q.1 q.2 ∧ ix9 ns dg q.1 q.2 = i := ⟨(s, m), hv, hi⟩
  unfold E9
  rw [dif_pos h]
  obtain ⟨a, b⟩ := h.choose_spec
  obtain ⟨e1, e2⟩ := ix_in a hv (hn _ a.1) (hn _ hv.1) (b.trans hi.symm)
  rw [e1, e2]
theorem en_E (hC : cu9 c V G P1 P2 P3 rel) (hL : LT9 c G rel Ls ns) (hc : c ≤ 32) (r : Nat) : en9 (Sg9 c V G rel k dg r) (E9 c G Ls ns dg k r) (N9 c ns dg k r) := by
  have hn : ∀ s, s < 2 ^ c → ns s < 32 := fun s hs => by
    have := (hL s hs).2.2.2
    omega
  unfold N9
  constructor
  · intro i j hi hj e
    by_cases ck : k ≤ r
    · rw [if_pos ck] at hi hj
      obtain ⟨s, m, a, b⟩ := ix_on hn hi
      obtain ⟨s', m', a', b'⟩ := ix_on hn hj
      rw [E_at hn a b, E_at hn a' b'] at e
      obtain ⟨e1, e2⟩ := ge_in hL a.1 a'.1 a.2.2.1 a'.2.2.1 e
      rw [← b, ← b', e1, e2]
    · rw [if_neg ck] at hi
      exact absurd hi (Nat.not_lt_zero _)
  · intro γ
    rw [Sg_va hC hL hc]
    constructor
    · rintro ⟨s, m, a, e, rfl⟩
      have e2 : r - k = pc s := by omega
      refine ⟨ix9 ns dg s m, ?_, ?_⟩
      · rw [if_pos (by omega), e2]
        exact ix_sz a (hn s a.1)
      · rw [← e2] at a
        exact (E_at hn a rfl).symm
    · rintro ⟨i, i1, rfl⟩
      by_cases ck : k ≤ r
      · rw [if_pos ck] at i1
        obtain ⟨s, m, a, b⟩ := ix_on hn i1
        refine ⟨s, m, ?_, ?_, E_at hn a b⟩
        · rw [a.2.1]
          exact a
        · rw [a.2.1]
          omega
      · rw [if_neg ck] at i1
        exact absurd i1 (Nat.not_lt_zero _)
end XCI6
