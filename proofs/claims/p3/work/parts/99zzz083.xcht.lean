section
/-! 99zzzzzzzzzzzzzzzzyze.xcht -/
-- CHAIN: the rows of the matrix
def cnI (f : Nat → Nat) (j : Nat) : List Nat → Int
  | [] => 0
  | a :: l => (if f a = j then 1 else 0) + cnI f j l
noncomputable def rwX (G : Nat → Prop) (Ls : Nat → Nat → Nat) (ns : Nat → Nat) (P1 P2 : Nat → Nat) (dg : Int) (s m x j : Nat) : Int := if btN s x = 1 then 0 else par9 (tb s) x * cnI (ix9 ns dg (s + 2 ^ x)) j (di9 G Ls ns P1 P2 s m x)
noncomputable def row9 (G : Nat → Prop) (Ls : Nat → Nat → Nat) (ns : Nat → Nat) (P1 P2 : Nat → Nat) (dg : Int) (s m n : Nat) : vc9 := fun j => sN9 (fun x => rwX G Ls ns P1 P2 dg s m x j) n
section XCI8
variable {c V k r h : Nat} {G : Nat → Prop} {P1 P2 : Nat → Nat} {rel : (Nat → Bool) → Nat → Nat → Prop} {Ls : Nat → Nat → Nat} {ns : Nat → Nat} {dg p b : Int} {s m x : Nat}
theorem va_di (hC : cu9 c V G P1 P2 P2 rel) (hL : LT9 c G rel Ls ns) (hc : c ≤ 32) (hv : va9 c ns dg h s m) (hx : x < c) (hb : btN s x = 0) {m' : Nat} (hm : m' ∈ di9 G Ls ns P1 P2 s m x) : va9 c ns dg (h + 1) (s + 2 ^ x) m' := by
  have ht := s2_lt hv.1 hx hb
  have g1 : Sg9 c V G rel 0 dg h (ge9 G Ls s m) := (Sg_va hC hL hc).mpr ⟨s, m, by rw [hv.2.1]; exact hv, by rw [hv.2.1]; rfl, rfl⟩
  have g2 : ((1 : Int), ge9 G Ls (s + 2 ^ x) m') ∈ Dx9 P1 P2 P2 rel x (ge9 G Ls s m) := by
    rw [Dx_ge hC hL hv.1 hx hb]
    exact List.mem_map.mpr ⟨m', hm, rfl⟩
  obtain ⟨s2, m2, a, e1, e2⟩ := (Sg_va hC hL hc).mp (Dx_ok hC hx g1 ((bt_0 s x).mp hb) g2)
  obtain ⟨f1, f2⟩ := ge_in hL ht a.1 (di_lt hC hL hv.1 hx hb hm) a.2.2.1 e2
  rw [← f1, ← f2] at a
  rw [← f1] at e1
  have e3 : pc (s + 2 ^ x) = h + 1 := by omega
  rw [e3] at a
  exact a
theorem E_iff (hC : cu9 c V G P1 P2 P2 rel) (hL : LT9 c G rel Ls ns) {j : Nat} (hv : va9 c ns dg (r - k) s m) (hj : j < sz9 c ns dg (r - k)) : ge9 G Ls s m = E9 c G Ls ns dg k r j ↔ ix9 ns dg s m = j := by
  have hn : ∀ s, s < 2 ^ c → ns s < 32 := fun s hs => by
    have := (hL s hs).2.2.2
    omega
  constructor
  · intro e
    obtain ⟨s2, m2, a, b⟩ := ix_on hn hj
    rw [E_at hn a b] at e
    obtain ⟨f1, f2⟩ := ge_in hL hv.1 a.1 hv.2.2.1 a.2.2.1 e
    rw [f1, f2, b]
  · intro e
    exact (E_at hn hv e).symm
theorem cf_mp (δ : gn9) (f : Nat → gn9) (g : Nat → Nat) (j : Nat) : ∀ l : List Nat, (∀ a, a ∈ l → (f a = δ ↔ g a = j)) → smf9 (id9 δ) (l.map (fun a => ((1 : Int), f a))) = cnI g j l
  | [], _ => rfl
  | a :: l, h => by
    show 1 * id9 δ (f a) + smf9 (id9 δ) (l.map (fun a => ((1 : Int), f a))) = (if g a = j then 1 else 0) + cnI g j l
    rw [cf_mp δ f g j l (fun a ha => h a (List.mem_cons_of_mem _ ha)), Int.one_mul]
    have h1 := h a List.mem_cons_self
    by_cases e : g a = j
    · rw [if_pos e, h1.mpr e, id_y]
    · rw [if_neg e, id_n (fun h9 => e (h1.mp h9))]
/-- a row of the matrix -/
theorem row_mt (hC : cu9 c V G P1 P2 P2 rel) (hL : LT9 c G rel Ls ns) (hc : c ≤ 32) (hv : va9 c ns dg h s m) (hr : r = h + k) {j : Nat} (hj : j < sz9 c ns dg (h + 1)) : cf9 (D9 P1 P2 P2 rel c (ge9 G Ls s m)) (E9 c G Ls ns dg k (r + 1) j) = row9 G Ls ns P1 P2 dg s m c j := by
  have er : r + 1 - k = h + 1 := by omega
  show smf9 (id9 (E9 c G Ls ns dg k (r + 1) j)) (D9 P1 P2 P2 rel c (ge9 G Ls s m)) = _
  rw [smf_D]
  refine sN_cg (fun x hx => ?_)
  show (if tb s x = true then 0 else par9 (tb s) x * smf9 (id9 (E9 c G Ls ns dg k (r + 1) j)) (Dx9 P1 P2 P2 rel x (ge9 G Ls s m))) = rwX G Ls ns P1 P2 dg s m x j
  unfold rwX
  rcases bt_01 s x with e | e
  · rw [if_neg (by rw [(bt_0 s x).mp e]; decide), if_neg (by omega), Dx_ge hC hL hv.1 hx e]
    rw [cf_mp _ (fun m' => ge9 G Ls (s + 2 ^ x) m') (ix9 ns dg (s + 2 ^ x)) j]
    intro m' hm'
    have v := va_di hC hL hc hv hx e hm'
    rw [← er] at v hj
    exact E_iff hC hL v hj
  · rw [if_pos (by rw [tb_b, e]; rfl), if_pos e]
/-- the matrix of a group -/
noncomputable def MT9 (c : Nat) (G : Nat → Prop) (rel : (Nat → Bool) → Nat → Nat → Prop) (P1 P2 : Nat → Nat) (Ls : Nat → Nat → Nat) (ns : Nat → Nat) (dg : Int) (h : Nat) : Nat → vc9 := mtx9 (D9 P1 P2 P2 rel c) (E9 c G Ls ns dg 0 h) (E9 c G Ls ns dg 0 (h + 1))
noncomputable def RK9 (p : Int) (c : Nat) (G : Nat → Prop) (rel : (Nat → Bool) → Nat → Nat → Prop) (P1 P2 : Nat → Nat) (Ls : Nat → Nat → Nat) (ns : Nat → Nat) (dg : Int) (h : Nat) : Nat := rk9 p (sz9 c ns dg (h + 1)) (rwl9 (MT9 c G rel P1 P2 Ls ns dg h) (sz9 c ns dg h))
theorem MT_row (hC : cu9 c V G P1 P2 P2 rel) (hL : LT9 c G rel Ls ns) (hc : c ≤ 32) (hv : va9 c ns dg h s m) {j : Nat} (hj : j < sz9 c ns dg (h + 1)) : MT9 c G rel P1 P2 Ls ns dg h (ix9 ns dg s m) j = row9 G Ls ns P1 P2 dg s m c j := by
  have hn : ∀ s, s < 2 ^ c → ns s < 32 := fun s hs => by
    have := (hL s hs).2.2.2
    omega
  show cf9 (D9 P1 P2 P2 rel c (E9 c G Ls ns dg 0 h (ix9 ns dg s m))) (E9 c G Ls ns dg 0 (h + 1) j) = _
  rw [E_at (r := h) (k := 0) hn hv rfl]
  exact row_mt (k := 0) hC hL hc hv rfl hj
/-- D of D is 0, on the matrices -/
theorem MT_dd (hC : cu9 c V G P1 P2 P2 rel) (hL : LT9 c G rel Ls ns) (hc : c ≤ 32) (h : Nat) (v : vc9) : zq9 p (sz9 c ns dg (h + 2)) (ap9 (MT9 c G rel P1 P2 Ls ns dg (h + 1)) (sz9 c ns dg (h + 1)) (ap9 (MT9 c G rel P1 P2 Ls ns dg h) (sz9 c ns dg h) v)) (fun _ => 0) := by
  have e := cx_dd (p := p) (cg_cx (fun r => en_E (k := 0) (dg := dg) hC hL hc r) (cu_cg (k := 0) (d := dg) hC)) h v
  have e1 : ∀ r, N9 c ns dg 0 r = sz9 c ns dg r := fun r => if_pos (Nat.zero_le r)
  rw [e1, e1, e1] at e
  exact e
/-- a row that begins where a D begins need not be looked at -/
theorem MT_cl (hp : pr9 p) (hi : iv9 p) (hC : cu9 c V G P1 P2 P2 rel) (hL : LT9 c G rel Ls ns) (hc : c ≤ 32) {w : vc9} {g : Nat} (hg : g < sz9 c ns dg (h + 1)) (hw : sp9 p (sz9 c ns dg (h + 1)) (rwl9 (MT9 c G rel P1 P2 Ls ns dg h) (sz9 c ns dg h)) w) (h0 : ∀ j, j < g → p ∣ w j) (hn : ¬ p ∣ w g) : ∃ a : vc9, zq9 p (sz9 c ns dg (h + 2)) (MT9 c G rel P1 P2 Ls ns dg (h + 1) g) (fun j => sN9 (fun k => if g < k then a k * MT9 c G rel P1 P2 Ls ns dg (h + 1) k j else 0) (sz9 c ns dg (h + 1))) := by
  obtain ⟨v, hv⟩ := sp_ap.mp hw
  have z := zq_t (ap_q (d := MT9 c G rel P1 P2 Ls ns dg (h + 1)) (m := sz9 c ns dg (h + 2)) hv) (MT_dd hC hL hc h v)
  obtain ⟨t, ht⟩ := hi _ hn
  refine ⟨fun k => -(t * w k), fun j hj => ?_⟩
  have z1 := z j hj
  rw [ap_sN, Int.sub_zero] at z1
  generalize hM : MT9 c G rel P1 P2 Ls ns dg (h + 1) = M at z1 ⊢
  generalize hN : sz9 c ns dg (h + 1) = N at z1 hg ⊢
  -- split the sum at g
  have sp : ∀ n, p ∣ sN9 (fun i => w i * M i j) n - ((if g < n then w g * M g j else 0) + sN9 (fun k => if g < k then w k * M k j else 0) n) := by
    intro n
    induction n with
    | zero =>
      rw [if_neg (by omega)]
      show p ∣ (0 : Int) - (0 + 0)
      exact Int.dvd_zero p
    | succ n ih =>
      show p ∣ sN9 (fun i => w i * M i j) n + w n * M n j - ((if g < n + 1 then w g * M g j else 0) + (sN9 (fun k => if g < k then w k * M k j else 0) n + (if g < n then w n * M n j else 0)))
      rcases Nat.lt_trichotomy n g with q | q | q
      · rw [if_neg (by omega), if_neg (by omega)]
        rw [if_neg (by omega)] at ih
        have a := dvl9 (M n j) (h0 n q)
        have := Int.dvd_add ih a
        rw [show sN9 (fun i => w i * M i j) n - (0 + sN9 (fun k => if g < k then w k * M k j else 0) n) + w n * M n j = sN9 (fun i => w i * M i j) n + w n * M n j - (0 + (sN9 (fun k => if g < k then w k * M k j else 0) n + 0)) by omega] at this
        exact this
      · rw [if_pos (by omega), if_neg (by omega), q]
        rw [if_neg (by omega), q] at ih
        rw [show sN9 (fun i => w i * M i j) g + w g * M g j - (w g * M g j + (sN9 (fun k => if g < k then w k * M k j else 0) g + 0)) = sN9 (fun i => w i * M i j) g - (0 + sN9 (fun k => if g < k then w k * M k j else 0) g) by omega]
        exact ih
      · rw [if_pos (by omega), if_pos (by omega)]
        rw [if_pos (by omega)] at ih
        rw [show sN9 (fun i => w i * M i j) n + w n * M n j - (w g * M g j + (sN9 (fun k => if g < k then w k * M k j else 0) n + w n * M n j)) = sN9 (fun i => w i * M i j) n - (w g * M g j + sN9 (fun k => if g < k then w k * M k j else 0) n) by omega]
        exact ih
  have s1 := sp N
  rw [if_pos hg] at s1
  have e1 : sN9 (fun k => if g < k then -(t * w k) * M k j else 0) N = -t * sN9 (fun k => if g < k then w k * M k j else 0) N := by
    rw [← sN_mulc]
    refine sN_cg (fun k _ => ?_)
    by_cases q : g < k
    · rw [if_pos q, if_pos q, Int.neg_mul, Int.neg_mul, Int.mul_assoc]
    · rw [if_neg q, if_neg q, Int.mul_zero]
  show p ∣ M g j - sN9 (fun k => if g < k then -(t * w k) * M k j else 0) N
  rw [e1]
  generalize sN9 (fun k => if g < k then w k * M k j else 0) N = sA at s1 ⊢
  generalize sN9 (fun i => w i * M i j) N = sB at s1 z1
  -- w g * M g j + sA is 0
  have a := Int.dvd_sub z1 s1
  rw [show sB - (sB - (w g * M g j + sA)) = w g * M g j + sA by omega] at a
  have a2 := dvr9 t a
  have a3 := dvl9 (M g j) ht
  have := Int.dvd_sub a2 a3
  have e : t * (w g * M g j + sA) - (w g * t - 1) * M g j = M g j - -t * sA := by
    rw [Int.mul_add, Int.sub_mul, Int.one_mul, Int.neg_mul, show t * (w g * M g j) = w g * t * M g j by rw [← Int.mul_assoc, Int.mul_comm t]]
    omega
  rw [e] at this
  exact this
/-- the number of a group, by sizes and ranks -/
theorem be_MT (hp : pr9 p) (hi : iv9 p) (hC : cu9 c V G P1 P2 P2 rel) (hL : LT9 c G rel Ls ns) (hc : c ≤ 32) (hb : be9 p (Sg9 c V G rel k dg) (D9 P1 P2 P2 rel c) r b) : (r + 1 < k → b = 0) ∧ (r + 1 = k → (sz9 c ns dg 0 : Int) = b + RK9 p c G rel P1 P2 Ls ns dg 0) ∧ ∀ h, r = h + k → (sz9 c ns dg (h + 1) : Int) = b + RK9 p c G rel P1 P2 Ls ns dg (h + 1) + RK9 p c G rel P1 P2 Ls ns dg h := by
  have e := be_en hp hi (cu_cg (k := k) (d := dg) hC) r hb (fun r => en_E (k := k) (dg := dg) hC hL hc r)
  have nil : ∀ d : Nat → vc9, ∀ n, rk9 p 0 (rwl9 d n) = 0 := fun d n => by
    induction n with
    | zero => rfl
    | succ n ih =>
      have : sp9 p 0 (rwl9 d n) (d n) := sp_q (fun i hi => absurd hi (Nat.not_lt_zero _)) sp_0
      exact (rk_y this).trans ih
  have N0 : ∀ r, r < k → N9 c ns dg k r = 0 := fun r hr => if_neg (by omega)
  have N1 : ∀ h, N9 c ns dg k (h + k) = sz9 c ns dg h := fun h => by
    unfold N9
    rw [if_pos (by omega), Nat.add_sub_cancel]
  have Ek : ∀ h, E9 c G Ls ns dg k (h + k) = E9 c G Ls ns dg 0 h := fun h => funext (fun i => by
    unfold E9
    rw [Nat.add_sub_cancel, Nat.sub_zero])
  have R1 : ∀ h, rn9 p (E9 c G Ls ns dg k) (N9 c ns dg k) (D9 P1 P2 P2 rel c) (h + k) = RK9 p c G rel P1 P2 Ls ns dg h := fun h => by
    unfold rn9 RK9 MT9
    rw [show h + k + 1 = (h + 1) + k by omega, N1, N1, Ek, Ek]
  have R0 : ∀ r, r < k → rn9 p (E9 c G Ls ns dg k) (N9 c ns dg k) (D9 P1 P2 P2 rel c) r = 0 := fun r hr => by
    unfold rn9
    rw [N0 r hr]
    rfl
  refine ⟨fun hr => ?_, fun hr => ?_, fun h hr => ?_⟩
  · rw [N0 _ hr, R0 _ hr, R0 _ (by omega)] at e
    omega
  · have e0 : r + 1 = 0 + k := by omega
    rw [e0, N1, R1, R0 r (by omega)] at e
    omega
  · have e0 : r + 1 = (h + 1) + k := by omega
    rw [e0, N1, R1, hr, R1] at e
    omega
end XCI8
end
