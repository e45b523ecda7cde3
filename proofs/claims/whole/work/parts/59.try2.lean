/-! the code from a start, as a machine: numbers, names, seen visits, cells -/
abbrev tf_P := (Nat → Nat) × (Nat → Nat) × Nat × Nat × (Nat → Nat) × Nat
abbrev tf_P.num (P : tf_P) : Nat → Nat := P.1
abbrev tf_P.nam (P : tf_P) : Nat → Nat := P.2.1
abbrev tf_P.names (P : tf_P) : Nat := P.2.2.1
abbrev tf_P.gone (P : tf_P) : Nat := P.2.2.2.1
abbrev tf_P.T (P : tf_P) : Nat → Nat := P.2.2.2.2.1
abbrev tf_P.len (P : tf_P) : Nat := P.2.2.2.2.2
def tf_name (P : tf_P) (x : Nat) : tf_P := if P.num x = 0 then ⟨nu P.num x (P.names + 1), nu P.nam P.names x, P.names + 1, P.gone, P.T, P.len⟩ else P
def tf_cell (G : Nat → Int32) (P : tf_P) (v : Nat) : Nat := 4 * ((tf_name P (v / 2)).num (v / 2) - 1) + cd_first G v
def tf_vis (G : Nat → Int32) (P : tf_P) (v : Nat) : tf_P := ⟨(tf_name P (v / 2)).num, (tf_name P (v / 2)).nam, (tf_name P (v / 2)).names, P.gone ||| 2 ^ v, nu P.T P.len (tf_cell G P v), P.len + 1⟩
def tf_ring (G : Nat → Int32) (N : Nat → Nat) (f : Nat) : Nat → Nat → tf_P → tf_P
  | 0, _, P => P
  | d + 1, v, P => if N v = f then tf_vis G P v else tf_ring G N f d (N v) (tf_vis G P v)
def tf_sep (P : tf_P) : tf_P := ⟨P.num, P.nam, P.names, P.gone, nu P.T P.len 0, P.len + 1⟩
def tf_look (P : tf_P) : Nat → Nat → Option Nat × Nat
  | 0, k => (none, k)
  | d + 1, k => if P.gone / 2 ^ (2 * P.nam k) % 2 = 0 then (some (2 * P.nam k), k + 1) else if P.gone / 2 ^ (2 * P.nam k + 1) % 2 = 0 then (some (2 * P.nam k + 1), k + 1) else tf_look P d (k + 1)
def tf_out (G : Nat → Int32) (N : Nat → Nat) : Nat → Option Nat → Nat → tf_P → tf_P
  | 0, _, _, P => P
  | _ + 1, none, _, P => P
  | d + 1, some f, k, P => tf_out G N d (tf_look (tf_sep (tf_ring G N f 24 f P)) ((tf_sep (tf_ring G N f 24 f P)).names - k) k).1 (tf_look (tf_sep (tf_ring G N f 24 f P)) ((tf_sep (tf_ring G N f 24 f P)).names - k) k).2 (tf_sep (tf_ring G N f 24 f P))
def tf_rest (G : Nat → Int32) (N : Nat → Nat) (d k : Nat) (P : tf_P) : tf_P := tf_out G N d (tf_look (tf_sep P) ((tf_sep P).names - k) k).1 (tf_look (tf_sep P) ((tf_sep P).names - k) k).2 (tf_sep P)
def tf_0 : tf_P := ⟨fun _ => 0, fun _ => 0, 0, 0, fun _ => 0, 0⟩
def tf_code (G : Nat → Int32) (N : Nat → Nat) (v : Nat) : tf_P := tf_out G N 24 (some v) 0 tf_0
/-- the cells so far stay -/
def tf_ext (P Q : tf_P) : Prop := P.len ≤ Q.len ∧ ∀ j, j < P.len → Q.T j = P.T j
theorem tf_ext_rf (P : tf_P) : tf_ext P P := ⟨Nat.le_refl _, fun _ _ => rfl⟩
theorem tf_ext_tr {P Q R : tf_P} (h : tf_ext P Q) (k : tf_ext Q R) : tf_ext P R := ⟨Nat.le_trans h.1 k.1, fun j hj => (k.2 j (Nat.lt_of_lt_of_le hj h.1)).trans (h.2 j hj)⟩
theorem tf_vis_ext (G : Nat → Int32) (P : tf_P) (v : Nat) : tf_ext P (tf_vis G P v) := ⟨Nat.le_succ _, fun j hj => nu_ne _ _ (by omega)⟩
theorem tf_sep_ext (P : tf_P) : tf_ext P (tf_sep P) := ⟨Nat.le_succ _, fun j hj => nu_ne _ _ (by omega)⟩
theorem tf_ring_ext (G : Nat → Int32) (N : Nat → Nat) (f : Nat) : ∀ (d v : Nat) (P : tf_P), tf_ext P (tf_ring G N f d v P) := by
  intro d
  induction d with
  | zero => intro v P; exact tf_ext_rf P
  | succ d ih =>
    intro v P
    rw [tf_ring]
    split
    · exact tf_vis_ext G P v
    · exact tf_ext_tr (tf_vis_ext G P v) (ih _ _)
theorem tf_out_ext (G : Nat → Int32) (N : Nat → Nat) : ∀ (d : Nat) (f : Option Nat) (k : Nat) (P : tf_P), tf_ext P (tf_out G N d f k P) := by
  intro d
  induction d with
  | zero => intro f k P; exact tf_ext_rf P
  | succ d ih =>
    intro f k P
    cases f with
    | none => exact tf_ext_rf P
    | some f => exact tf_ext_tr (tf_ext_tr (tf_ring_ext G N f 24 f P) (tf_sep_ext _)) (ih _ _ _)
theorem tf_rest_ext (G : Nat → Int32) (N : Nat → Nat) (d k : Nat) (P : tf_P) : tf_ext (tf_sep P) (tf_rest G N d k P) := tf_out_ext _ _ _ _ _ _
/-- how many places are 0 -/
def cntZ (M : Nat → Nat) : Nat → Nat
  | 0 => 0
  | n + 1 => cntZ M n + (if M n = 0 then 1 else 0)
theorem cntZ_nu {M : Nat → Nat} {j w : Nat} : ∀ n, (j < n → M j = 0 → 0 < w → cntZ (nu M j w) n + 1 = cntZ M n) ∧ (n ≤ j → cntZ (nu M j w) n = cntZ M n) := by
  intro n
  induction n with
  | zero => exact ⟨fun h => absurd h (Nat.not_lt_zero _), fun _ => rfl⟩
  | succ n ih =>
    constructor
    · intro h h0 hw
      show cntZ (nu M j w) n + (if nu M j w n = 0 then 1 else 0) + 1 = cntZ M n + (if M n = 0 then 1 else 0)
      by_cases e : n = j
      · rw [show nu M j w n = w from by rw [e, nu_same], if_neg (by omega), show M n = 0 from by rw [e]; exact h0, if_pos rfl, ih.2 (by omega)]
      · rw [nu_ne _ _ e, ← ih.1 (by omega) h0 hw]; omega
    · intro h
      show cntZ (nu M j w) n + (if nu M j w n = 0 then 1 else 0) = cntZ M n + (if M n = 0 then 1 else 0)
      rw [ih.2 (by omega), nu_ne _ _ (by omega : n ≠ j)]
def tf_ok (P : tf_P) : Prop := (∀ k, P.num k ≤ P.names) ∧ P.names + cntZ P.num 12 ≤ 12 ∧ (∀ k, P.nam k < 12) ∧ P.gone < 2 ^ 24
theorem tf_ok_0 : tf_ok tf_0 := ⟨fun _ => Nat.le_refl 0, by decide, fun _ => Nat.succ_pos 11, by decide⟩
theorem tf_name_ok {P : tf_P} {x : Nat} (h : tf_ok P) (hx : x < 12) : tf_ok (tf_name P x) ∧ 0 < (tf_name P x).num x := by
  unfold tf_name
  split
  · rename_i h0
    have hc := (cntZ_nu (M := P.num) (j := x) (w := P.names + 1) 12).1 hx h0 (Nat.succ_pos _)
    have h2 := h.2.1
    refine ⟨⟨fun k => ?_, ?_, fun k => ?_, h.2.2.2⟩, ?_⟩
    · show (if k = x then P.names + 1 else P.num k) ≤ P.names + 1
      split
      · exact Nat.le_refl _
      · exact Nat.le_succ_of_le (h.1 k)
    · show P.names + 1 + cntZ (nu P.num x (P.names + 1)) 12 ≤ 12
      omega
    · show (if k = P.names then x else P.nam k) < 12
      split
      · exact hx
      · exact h.2.2.1 k
    · show 0 < nu P.num x (P.names + 1) x
      rw [nu_same]; exact Nat.succ_pos _
  · rename_i h0
    exact ⟨h, Nat.pos_of_ne_zero h0⟩
theorem tf_name_lt {P : tf_P} {x : Nat} (h : tf_ok P) (hx : x < 12) (h0 : P.num x = 0) : P.names < 12 := by
  have hc := (cntZ_nu (M := P.num) (j := x) (w := 1) 12).1 hx h0 (Nat.succ_pos _)
  have h2 := h.2.1
  omega
theorem tf_vis_ok {G : Nat → Int32} {P : tf_P} {v : Nat} (h : tf_ok P) (hv : v < 24) : tf_ok (tf_vis G P v) := by
  have hn := (tf_name_ok (x := v / 2) h (by omega)).1
  exact ⟨hn.1, hn.2.1, hn.2.2.1, Nat.or_lt_two_pow h.2.2.2 (Nat.pow_lt_pow_right (by decide) hv)⟩
theorem tf_cell_lt {G : Nat → Int32} {P : tf_P} {v : Nat} (h : tf_ok P) (hv : v < 24) : tf_cell G P v < 128 := by
  have hn := (tf_name_ok (x := v / 2) h (by omega)).1
  have h1 := hn.1 (v / 2)
  have h2 := hn.2.1
  have h3 := cd_first_lt G v
  unfold tf_cell
  omega
theorem tf_sep_ok {P : tf_P} (h : tf_ok P) : tf_ok (tf_sep P) := h
theorem tf_ok_le {P : tf_P} (h : tf_ok P) : P.names ≤ 12 := by
  have := h.2.1
  omega
/-- the first cell that differs is less -/
def cd_lt (K B : Nat → Nat) (n : Nat) : Prop := ∃ j, j < n ∧ K j < B j ∧ ∀ i, i < j → K i = B i
theorem cd_lt_no {K B : Nat → Nat} {n k : Nat} (h : ∀ i, i < k → K i = B i) (h2 : n ≤ k ∨ B k < K k) : ¬ cd_lt K B n := by
  intro ⟨j, hj, hlt, hb⟩
  rcases Nat.lt_trichotomy j k with q | q | q
  · have := h j q
    omega
  · rw [q] at hlt hj
    omega
  · have := hb k q
    omega
/-- what 'tied' says -/
def tf_td (B : Nat → Nat) (l0 : Nat) (P : tf_P) (x : Int32) : Prop := (x = 1 ∧ 0 < l0 ∧ ∀ j, j < P.len → P.T j = B j) ∨ (x = 0 ∧ (l0 = 0 ∨ cd_lt P.T B P.len))
theorem cd_lt_up {K Q B : Nat → Nat} {n m : Nat} (h : cd_lt K B n) (hm : n ≤ m) (hq : ∀ j, j < n → Q j = K j) : cd_lt Q B m := by
  obtain ⟨j, hj, hl, hb⟩ := h
  exact ⟨j, Nat.lt_of_lt_of_le hj hm, by rw [hq j hj]; exact hl, fun i hi => (hq i (Nat.lt_trans hi hj)).trans (hb i hi)⟩
theorem tf_td_0 (B : Nat → Nat) {l0 : Nat} (P : tf_P) (h : P.len = 0) : tf_td B l0 P (if 0 < l0 then 1 else 0) := by
  split
  · rename_i q
    exact Or.inl ⟨rfl, q, fun j hj => absurd hj (by omega)⟩
  · exact Or.inr ⟨rfl, Or.inl (by omega)⟩
/-- one cell more: the tie goes on or the row is less -/
theorem tf_td_s {B : Nat → Nat} {l0 : Nat} {P Q : tf_P} {x : Int32} (h : tf_td B l0 P x) (he : tf_ext P Q) (hl : Q.len = P.len + 1) (hn : x = 1 → Q.T P.len ≤ B P.len) : tf_td B l0 Q (if x = 1 ∧ Q.T P.len = B P.len then 1 else 0) := by
  rcases h with ⟨hx, h0, h1⟩ | ⟨hx, h1⟩
  · have hle := hn hx
    by_cases e : Q.T P.len = B P.len
    · rw [if_pos ⟨hx, e⟩]
      refine Or.inl ⟨rfl, h0, fun j hj => ?_⟩
      rcases Nat.lt_or_ge j P.len with q | q
      · rw [he.2 j q]; exact h1 j q
      · have : j = P.len := by omega
        rw [this]; exact e
    · rw [if_neg (fun q => e q.2)]
      exact Or.inr ⟨rfl, Or.inr ⟨P.len, by omega, by omega, fun i hi => (he.2 i hi).trans (h1 i hi)⟩⟩
  · rw [if_neg (fun q => by rw [hx] at q; exact absurd q.1 (by decide))]
    refine Or.inr ⟨rfl, ?_⟩
    rcases h1 with h1 | h1
    · exact Or.inl h1
    · exact Or.inr (cd_lt_up h1 he.1 he.2)
theorem ow_shlb {v : Nat} (hv : v < 24) : (1 : Int32) <<< (nI v &&& 31) = nI (2 ^ v) := by
  have key : ∀ i : Fin 24, (1 : Int32) <<< (nI i.1 &&& 31) = nI (2 ^ i.1) := by decide +kernel
  exact key ⟨v, hv⟩
theorem ow_shrb {n v : Nat} (hn : n < 2 ^ 31) (hv : v < 32) : nI n >>> (nI v &&& 31) = nI (n / 2 ^ v) := by
  have key : ∀ i : Fin 32, ((nI i.1 &&& 31).toBitVec.smod 32).toNat = i.1 := by decide +kernel
  exact pk_shrN hn _ v (key ⟨v, hv⟩)
theorem ow_or {a b : Nat} (ha : a < 2 ^ 32) (hb : b < 2 ^ 32) : nI a ||| nI b = nI (a ||| b) := by
  apply Int32.toBitVec_inj.mp
  apply BitVec.eq_of_toNat_eq
  rw [Int32.toBitVec_or, BitVec.toNat_or, pk_tn ha, pk_tn hb, pk_tn (Nat.or_lt_two_pow ha hb)]
theorem ow_i2b {w : Nat} (h : w < 128) : (nI w).toInt8.toInt32 = nI w := by
  have key : ∀ i : Fin 128, (nI i.1).toInt8.toInt32 = nI i.1 := by decide +kernel
  exact key ⟨w, h⟩
theorem ow_fill0 (M : Nat → Nat) (n : Nat) : np_fill (ow_nI M) 0 n 0 = ow_nI (fun k => if k < n then 0 else M k) := by
  funext k
  show (if 0 ≤ k ∧ k < n then (0 : Int32) else nI (M k)) = nI (if k < n then 0 else M k)
  by_cases h : k < n
  · rw [if_pos ⟨Nat.zero_le k, h⟩, if_pos h]; rfl
  · rw [if_neg (fun q => h q.2), if_neg h]
/-- two rows agree on their first n places -/
def ag (n : Nat) (M P : Nat → Nat) : Prop := ∀ k, k < n → M k = P k
theorem ag_nu {n : Nat} {M P : Nat → Nat} (h : ag n M P) (j w : Nat) : ag n (nu M j w) (nu P j w) := by
  intro k hk
  show (if k = j then w else M k) = if k = j then w else P k
  split
  · rfl
  · exact h k hk
theorem ag_nus {n : Nat} {M P : Nat → Nat} (h : ag n M P) (w : Nat) : ag (n + 1) (nu M n w) (nu P n w) := by
  intro k hk
  show (if k = n then w else M k) = if k = n then w else P k
  split
  · rfl
  · exact h k (by omega)
/-- and the first row's numbers are below 128 -/
def agb (n : Nat) (M P : Nat → Nat) : Prop := ag n M P ∧ ow_b128 M
theorem agb_nus {n : Nat} {M P : Nat → Nat} {w : Nat} (h : agb n M P) (hw : w < 128) : agb (n + 1) (nu M n w) (nu P n w) := ⟨ag_nus h.1 w, nu_b128 h.2 hw⟩
theorem dgX2_tryFrom_0 : decode cX2_tryFrom 0 = .ok (.aload_n 0, 1) := by decide +kernel
theorem dgX2_tryFrom_1 : decode cX2_tryFrom 1 = .ok (.getfield 30, 3) := by decide +kernel
theorem dgX2_tryFrom_4 : decode cX2_tryFrom 4 = .ok (.iconst 0, 1) := by decide +kernel
theorem dgX2_tryFrom_5 : decode cX2_tryFrom 5 = .ok (.invokestatic 106, 3) := by decide +kernel
theorem dgX2_tryFrom_8 : decode cX2_tryFrom 8 = .ok (.aload_n 0, 1) := by decide +kernel
theorem dgX2_tryFrom_9 : decode cX2_tryFrom 9 = .ok (.getfield 20, 3) := by decide +kernel
theorem dgX2_tryFrom_12 : decode cX2_tryFrom 12 = .ok (.getfield 51, 3) := by decide +kernel
theorem dgX2_tryFrom_15 : decode cX2_tryFrom 15 = .ok (.astore_n 3, 1) := by decide +kernel
theorem dgX2_tryFrom_16 : decode cX2_tryFrom 16 = .ok (.aload_n 0, 1) := by decide +kernel
theorem dgX2_tryFrom_17 : decode cX2_tryFrom 17 = .ok (.getfield 20, 3) := by decide +kernel
theorem dgX2_tryFrom_20 : decode cX2_tryFrom 20 = .ok (.getfield 48, 3) := by decide +kernel
theorem dgX2_tryFrom_23 : decode cX2_tryFrom 23 = .ok (.iconst 0, 1) := by decide +kernel
theorem dgX2_tryFrom_24 : decode cX2_tryFrom 24 = .ok (.baload, 1) := by decide +kernel
theorem dgX2_tryFrom_25 : decode cX2_tryFrom 25 = .ok (.ifCond .le 7, 3) := by decide +kernel
theorem dgX2_tryFrom_28 : decode cX2_tryFrom 28 = .ok (.iconst 1, 1) := by decide +kernel
theorem dgX2_tryFrom_29 : decode cX2_tryFrom 29 = .ok (.goto 4, 3) := by decide +kernel
theorem dgX2_tryFrom_32 : decode cX2_tryFrom 32 = .ok (.iconst 0, 1) := by decide +kernel
theorem dgX2_tryFrom_33 : decode cX2_tryFrom 33 = .ok (.istore 4, 2) := by decide +kernel
theorem dgX2_tryFrom_35 : decode cX2_tryFrom 35 = .ok (.iconst 0, 1) := by decide +kernel
theorem dgX2_tryFrom_36 : decode cX2_tryFrom 36 = .ok (.istore 5, 2) := by decide +kernel
theorem dgX2_tryFrom_38 : decode cX2_tryFrom 38 = .ok (.iconst 0, 1) := by decide +kernel
theorem dgX2_tryFrom_39 : decode cX2_tryFrom 39 = .ok (.istore 6, 2) := by decide +kernel
theorem dgX2_tryFrom_41 : decode cX2_tryFrom 41 = .ok (.iconst 0, 1) := by decide +kernel
theorem dgX2_tryFrom_42 : decode cX2_tryFrom 42 = .ok (.istore 7, 2) := by decide +kernel
theorem dgX2_tryFrom_44 : decode cX2_tryFrom 44 = .ok (.iconst 0, 1) := by decide +kernel
theorem dgX2_tryFrom_45 : decode cX2_tryFrom 45 = .ok (.istore 8, 2) := by decide +kernel
theorem dgX2_tryFrom_47 : decode cX2_tryFrom 47 = .ok (.iload_n 2, 1) := by decide +kernel
theorem dgX2_tryFrom_48 : decode cX2_tryFrom 48 = .ok (.istore 9, 2) := by decide +kernel
theorem dgX2_tryFrom_50 : decode cX2_tryFrom 50 = .ok (.iconst 0, 1) := by decide +kernel
theorem dgX2_tryFrom_51 : decode cX2_tryFrom 51 = .ok (.istore 10, 2) := by decide +kernel
theorem dgX2_tryFrom_53 : decode cX2_tryFrom 53 = .ok (.iload 10, 2) := by decide +kernel
theorem dgX2_tryFrom_55 : decode cX2_tryFrom 55 = .ok (.bipush 24, 2) := by decide +kernel
theorem dgX2_tryFrom_57 : decode cX2_tryFrom 57 = .ok (.if_icmp .ge 270, 3) := by decide +kernel
theorem dgX2_tryFrom_60 : decode cX2_tryFrom 60 = .ok (.iload 9, 2) := by decide +kernel
theorem dgX2_tryFrom_62 : decode cX2_tryFrom 62 = .ok (.iconst (-1), 1) := by decide +kernel
theorem dgX2_tryFrom_63 : decode cX2_tryFrom 63 = .ok (.if_icmp .eq 264, 3) := by decide +kernel
theorem dgX2_tryFrom_66 : decode cX2_tryFrom 66 = .ok (.iload 9, 2) := by decide +kernel
theorem dgX2_tryFrom_68 : decode cX2_tryFrom 68 = .ok (.istore 11, 2) := by decide +kernel
theorem dgX2_tryFrom_70 : decode cX2_tryFrom 70 = .ok (.iconst 0, 1) := by decide +kernel
theorem dgX2_tryFrom_71 : decode cX2_tryFrom 71 = .ok (.istore 12, 2) := by decide +kernel
theorem dgX2_tryFrom_73 : decode cX2_tryFrom 73 = .ok (.iload 12, 2) := by decide +kernel
theorem dgX2_tryFrom_75 : decode cX2_tryFrom 75 = .ok (.bipush 24, 2) := by decide +kernel
theorem dgX2_tryFrom_77 : decode cX2_tryFrom 77 = .ok (.if_icmp .ge 144, 3) := by decide +kernel
theorem dgX2_tryFrom_80 : decode cX2_tryFrom 80 = .ok (.iload 11, 2) := by decide +kernel
theorem dgX2_tryFrom_82 : decode cX2_tryFrom 82 = .ok (.iconst 1, 1) := by decide +kernel
theorem dgX2_tryFrom_83 : decode cX2_tryFrom 83 = .ok (.ishr, 1) := by decide +kernel
theorem dgX2_tryFrom_84 : decode cX2_tryFrom 84 = .ok (.istore 13, 2) := by decide +kernel
theorem dgX2_tryFrom_86 : decode cX2_tryFrom 86 = .ok (.aload_n 0, 1) := by decide +kernel
theorem dgX2_tryFrom_87 : decode cX2_tryFrom 87 = .ok (.getfield 30, 3) := by decide +kernel
theorem dgX2_tryFrom_90 : decode cX2_tryFrom 90 = .ok (.iload 13, 2) := by decide +kernel
theorem dgX2_tryFrom_92 : decode cX2_tryFrom 92 = .ok (.iaload, 1) := by decide +kernel
theorem dgX2_tryFrom_93 : decode cX2_tryFrom 93 = .ok (.ifCond .ne 24, 3) := by decide +kernel
theorem dgX2_tryFrom_96 : decode cX2_tryFrom 96 = .ok (.aload_n 0, 1) := by decide +kernel
theorem dgX2_tryFrom_97 : decode cX2_tryFrom 97 = .ok (.getfield 34, 3) := by decide +kernel
theorem dgX2_tryFrom_100 : decode cX2_tryFrom 100 = .ok (.iload 5, 2) := by decide +kernel
theorem dgX2_tryFrom_102 : decode cX2_tryFrom 102 = .ok (.iload 13, 2) := by decide +kernel
theorem dgX2_tryFrom_104 : decode cX2_tryFrom 104 = .ok (.iastore, 1) := by decide +kernel
theorem dgX2_tryFrom_105 : decode cX2_tryFrom 105 = .ok (.iinc 5 1, 3) := by decide +kernel
theorem dgX2_tryFrom_108 : decode cX2_tryFrom 108 = .ok (.aload_n 0, 1) := by decide +kernel
theorem dgX2_tryFrom_109 : decode cX2_tryFrom 109 = .ok (.getfield 30, 3) := by decide +kernel
theorem dgX2_tryFrom_112 : decode cX2_tryFrom 112 = .ok (.iload 13, 2) := by decide +kernel
theorem dgX2_tryFrom_114 : decode cX2_tryFrom 114 = .ok (.iload 5, 2) := by decide +kernel
theorem dgX2_tryFrom_116 : decode cX2_tryFrom 116 = .ok (.iastore, 1) := by decide +kernel
theorem dgX2_tryFrom_117 : decode cX2_tryFrom 117 = .ok (.iconst 4, 1) := by decide +kernel
theorem dgX2_tryFrom_118 : decode cX2_tryFrom 118 = .ok (.aload_n 0, 1) := by decide +kernel
theorem dgX2_tryFrom_119 : decode cX2_tryFrom 119 = .ok (.getfield 30, 3) := by decide +kernel
theorem dgX2_tryFrom_122 : decode cX2_tryFrom 122 = .ok (.iload 13, 2) := by decide +kernel
theorem dgX2_tryFrom_124 : decode cX2_tryFrom 124 = .ok (.iaload, 1) := by decide +kernel
theorem dgX2_tryFrom_125 : decode cX2_tryFrom 125 = .ok (.iconst 1, 1) := by decide +kernel
theorem dgX2_tryFrom_126 : decode cX2_tryFrom 126 = .ok (.isub, 1) := by decide +kernel
theorem dgX2_tryFrom_127 : decode cX2_tryFrom 127 = .ok (.imul, 1) := by decide +kernel
theorem dgX2_tryFrom_128 : decode cX2_tryFrom 128 = .ok (.aload_n 1, 1) := by decide +kernel
theorem dgX2_tryFrom_129 : decode cX2_tryFrom 129 = .ok (.iload 11, 2) := by decide +kernel
theorem dgX2_tryFrom_131 : decode cX2_tryFrom 131 = .ok (.invokestatic 91, 3) := by decide +kernel
theorem dgX2_tryFrom_134 : decode cX2_tryFrom 134 = .ok (.iadd, 1) := by decide +kernel
theorem dgX2_tryFrom_135 : decode cX2_tryFrom 135 = .ok (.istore 14, 2) := by decide +kernel
theorem dgX2_tryFrom_137 : decode cX2_tryFrom 137 = .ok (.iload 4, 2) := by decide +kernel
theorem dgX2_tryFrom_139 : decode cX2_tryFrom 139 = .ok (.ifCond .eq 14, 3) := by decide +kernel
theorem dgX2_tryFrom_142 : decode cX2_tryFrom 142 = .ok (.iload 14, 2) := by decide +kernel
theorem dgX2_tryFrom_144 : decode cX2_tryFrom 144 = .ok (.aload_n 3, 1) := by decide +kernel
theorem dgX2_tryFrom_145 : decode cX2_tryFrom 145 = .ok (.iload 8, 2) := by decide +kernel
theorem dgX2_tryFrom_147 : decode cX2_tryFrom 147 = .ok (.baload, 1) := by decide +kernel
theorem dgX2_tryFrom_148 : decode cX2_tryFrom 148 = .ok (.if_icmp .le 5, 3) := by decide +kernel
theorem dgX2_tryFrom_151 : decode cX2_tryFrom 151 = .ok (.iconst 0, 1) := by decide +kernel
theorem dgX2_tryFrom_152 : decode cX2_tryFrom 152 = .ok (.ireturn, 1) := by decide +kernel
theorem dgX2_tryFrom_153 : decode cX2_tryFrom 153 = .ok (.iload 4, 2) := by decide +kernel
theorem dgX2_tryFrom_155 : decode cX2_tryFrom 155 = .ok (.ifCond .eq 16, 3) := by decide +kernel
theorem dgX2_tryFrom_158 : decode cX2_tryFrom 158 = .ok (.iload 14, 2) := by decide +kernel
theorem dgX2_tryFrom_160 : decode cX2_tryFrom 160 = .ok (.aload_n 3, 1) := by decide +kernel
theorem dgX2_tryFrom_161 : decode cX2_tryFrom 161 = .ok (.iload 8, 2) := by decide +kernel
theorem dgX2_tryFrom_163 : decode cX2_tryFrom 163 = .ok (.baload, 1) := by decide +kernel
theorem dgX2_tryFrom_164 : decode cX2_tryFrom 164 = .ok (.if_icmp .ne 7, 3) := by decide +kernel
theorem dgX2_tryFrom_167 : decode cX2_tryFrom 167 = .ok (.iconst 1, 1) := by decide +kernel
theorem dgX2_tryFrom_168 : decode cX2_tryFrom 168 = .ok (.goto 4, 3) := by decide +kernel
theorem dgX2_tryFrom_171 : decode cX2_tryFrom 171 = .ok (.iconst 0, 1) := by decide +kernel
theorem dgX2_tryFrom_172 : decode cX2_tryFrom 172 = .ok (.istore 4, 2) := by decide +kernel
theorem dgX2_tryFrom_174 : decode cX2_tryFrom 174 = .ok (.aload_n 0, 1) := by decide +kernel
theorem dgX2_tryFrom_175 : decode cX2_tryFrom 175 = .ok (.getfield 26, 3) := by decide +kernel
theorem dgX2_tryFrom_178 : decode cX2_tryFrom 178 = .ok (.iload 8, 2) := by decide +kernel
theorem dgX2_tryFrom_180 : decode cX2_tryFrom 180 = .ok (.iload 14, 2) := by decide +kernel
theorem dgX2_tryFrom_182 : decode cX2_tryFrom 182 = .ok (.i2b, 1) := by decide +kernel
theorem dgX2_tryFrom_183 : decode cX2_tryFrom 183 = .ok (.bastore, 1) := by decide +kernel
theorem dgX2_tryFrom_184 : decode cX2_tryFrom 184 = .ok (.iinc 8 1, 3) := by decide +kernel
theorem dgX2_tryFrom_187 : decode cX2_tryFrom 187 = .ok (.iload 7, 2) := by decide +kernel
theorem dgX2_tryFrom_189 : decode cX2_tryFrom 189 = .ok (.iconst 1, 1) := by decide +kernel
theorem dgX2_tryFrom_190 : decode cX2_tryFrom 190 = .ok (.iload 11, 2) := by decide +kernel
theorem dgX2_tryFrom_192 : decode cX2_tryFrom 192 = .ok (.ishl, 1) := by decide +kernel
theorem dgX2_tryFrom_193 : decode cX2_tryFrom 193 = .ok (.ior, 1) := by decide +kernel
theorem dgX2_tryFrom_194 : decode cX2_tryFrom 194 = .ok (.istore 7, 2) := by decide +kernel
theorem dgX2_tryFrom_196 : decode cX2_tryFrom 196 = .ok (.aload_n 1, 1) := by decide +kernel
theorem dgX2_tryFrom_197 : decode cX2_tryFrom 197 = .ok (.getfield 112, 3) := by decide +kernel
theorem dgX2_tryFrom_200 : decode cX2_tryFrom 200 = .ok (.iload 11, 2) := by decide +kernel
theorem dgX2_tryFrom_202 : decode cX2_tryFrom 202 = .ok (.iaload, 1) := by decide +kernel
theorem dgX2_tryFrom_203 : decode cX2_tryFrom 203 = .ok (.istore 11, 2) := by decide +kernel
theorem dgX2_tryFrom_205 : decode cX2_tryFrom 205 = .ok (.iload 11, 2) := by decide +kernel
theorem dgX2_tryFrom_207 : decode cX2_tryFrom 207 = .ok (.iload 9, 2) := by decide +kernel
theorem dgX2_tryFrom_209 : decode cX2_tryFrom 209 = .ok (.if_icmp .ne 6, 3) := by decide +kernel
theorem dgX2_tryFrom_212 : decode cX2_tryFrom 212 = .ok (.goto 9, 3) := by decide +kernel
theorem dgX2_tryFrom_215 : decode cX2_tryFrom 215 = .ok (.iinc 12 1, 3) := by decide +kernel
theorem dgX2_tryFrom_218 : decode cX2_tryFrom 218 = .ok (.goto (-145), 3) := by decide +kernel
theorem dgX2_tryFrom_221 : decode cX2_tryFrom 221 = .ok (.iload 4, 2) := by decide +kernel
theorem dgX2_tryFrom_223 : decode cX2_tryFrom 223 = .ok (.ifCond .eq 14, 3) := by decide +kernel
theorem dgX2_tryFrom_226 : decode cX2_tryFrom 226 = .ok (.aload_n 3, 1) := by decide +kernel
theorem dgX2_tryFrom_227 : decode cX2_tryFrom 227 = .ok (.iload 8, 2) := by decide +kernel
theorem dgX2_tryFrom_229 : decode cX2_tryFrom 229 = .ok (.baload, 1) := by decide +kernel
theorem dgX2_tryFrom_230 : decode cX2_tryFrom 230 = .ok (.ifCond .ne 7, 3) := by decide +kernel
theorem dgX2_tryFrom_233 : decode cX2_tryFrom 233 = .ok (.iconst 1, 1) := by decide +kernel
theorem dgX2_tryFrom_234 : decode cX2_tryFrom 234 = .ok (.goto 4, 3) := by decide +kernel
theorem dgX2_tryFrom_237 : decode cX2_tryFrom 237 = .ok (.iconst 0, 1) := by decide +kernel
theorem dgX2_tryFrom_238 : decode cX2_tryFrom 238 = .ok (.istore 4, 2) := by decide +kernel
theorem dgX2_tryFrom_240 : decode cX2_tryFrom 240 = .ok (.aload_n 0, 1) := by decide +kernel
theorem dgX2_tryFrom_241 : decode cX2_tryFrom 241 = .ok (.getfield 26, 3) := by decide +kernel
theorem dgX2_tryFrom_244 : decode cX2_tryFrom 244 = .ok (.iload 8, 2) := by decide +kernel
theorem dgX2_tryFrom_246 : decode cX2_tryFrom 246 = .ok (.iconst 0, 1) := by decide +kernel
theorem dgX2_tryFrom_247 : decode cX2_tryFrom 247 = .ok (.bastore, 1) := by decide +kernel
theorem dgX2_tryFrom_248 : decode cX2_tryFrom 248 = .ok (.iinc 8 1, 3) := by decide +kernel
theorem dgX2_tryFrom_251 : decode cX2_tryFrom 251 = .ok (.iconst (-1), 1) := by decide +kernel
theorem dgX2_tryFrom_252 : decode cX2_tryFrom 252 = .ok (.istore 9, 2) := by decide +kernel
theorem dgX2_tryFrom_254 : decode cX2_tryFrom 254 = .ok (.iload 6, 2) := by decide +kernel
theorem dgX2_tryFrom_256 : decode cX2_tryFrom 256 = .ok (.iload 5, 2) := by decide +kernel
theorem dgX2_tryFrom_258 : decode cX2_tryFrom 258 = .ok (.if_icmp .ge 63, 3) := by decide +kernel
theorem dgX2_tryFrom_261 : decode cX2_tryFrom 261 = .ok (.iload 9, 2) := by decide +kernel
theorem dgX2_tryFrom_263 : decode cX2_tryFrom 263 = .ok (.iconst (-1), 1) := by decide +kernel
theorem dgX2_tryFrom_264 : decode cX2_tryFrom 264 = .ok (.if_icmp .ne 57, 3) := by decide +kernel
theorem dgX2_tryFrom_267 : decode cX2_tryFrom 267 = .ok (.iconst 2, 1) := by decide +kernel
theorem dgX2_tryFrom_268 : decode cX2_tryFrom 268 = .ok (.aload_n 0, 1) := by decide +kernel
theorem dgX2_tryFrom_269 : decode cX2_tryFrom 269 = .ok (.getfield 34, 3) := by decide +kernel
theorem dgX2_tryFrom_272 : decode cX2_tryFrom 272 = .ok (.iload 6, 2) := by decide +kernel
theorem dgX2_tryFrom_274 : decode cX2_tryFrom 274 = .ok (.iaload, 1) := by decide +kernel
theorem dgX2_tryFrom_275 : decode cX2_tryFrom 275 = .ok (.imul, 1) := by decide +kernel
theorem dgX2_tryFrom_276 : decode cX2_tryFrom 276 = .ok (.istore 12, 2) := by decide +kernel
theorem dgX2_tryFrom_278 : decode cX2_tryFrom 278 = .ok (.iload 7, 2) := by decide +kernel
theorem dgX2_tryFrom_280 : decode cX2_tryFrom 280 = .ok (.iload 12, 2) := by decide +kernel
theorem dgX2_tryFrom_282 : decode cX2_tryFrom 282 = .ok (.ishr, 1) := by decide +kernel
theorem dgX2_tryFrom_283 : decode cX2_tryFrom 283 = .ok (.iconst 1, 1) := by decide +kernel
theorem dgX2_tryFrom_284 : decode cX2_tryFrom 284 = .ok (.iand, 1) := by decide +kernel
theorem dgX2_tryFrom_285 : decode cX2_tryFrom 285 = .ok (.ifCond .ne 8, 3) := by decide +kernel
theorem dgX2_tryFrom_288 : decode cX2_tryFrom 288 = .ok (.iload 12, 2) := by decide +kernel
theorem dgX2_tryFrom_290 : decode cX2_tryFrom 290 = .ok (.goto 23, 3) := by decide +kernel
theorem dgX2_tryFrom_293 : decode cX2_tryFrom 293 = .ok (.iload 7, 2) := by decide +kernel
theorem dgX2_tryFrom_295 : decode cX2_tryFrom 295 = .ok (.iload 12, 2) := by decide +kernel
theorem dgX2_tryFrom_297 : decode cX2_tryFrom 297 = .ok (.iconst 1, 1) := by decide +kernel
theorem dgX2_tryFrom_298 : decode cX2_tryFrom 298 = .ok (.iadd, 1) := by decide +kernel
theorem dgX2_tryFrom_299 : decode cX2_tryFrom 299 = .ok (.ishr, 1) := by decide +kernel
theorem dgX2_tryFrom_300 : decode cX2_tryFrom 300 = .ok (.iconst 1, 1) := by decide +kernel
theorem dgX2_tryFrom_301 : decode cX2_tryFrom 301 = .ok (.iand, 1) := by decide +kernel
theorem dgX2_tryFrom_302 : decode cX2_tryFrom 302 = .ok (.ifCond .ne 10, 3) := by decide +kernel
theorem dgX2_tryFrom_305 : decode cX2_tryFrom 305 = .ok (.iload 12, 2) := by decide +kernel
theorem dgX2_tryFrom_307 : decode cX2_tryFrom 307 = .ok (.iconst 1, 1) := by decide +kernel
theorem dgX2_tryFrom_308 : decode cX2_tryFrom 308 = .ok (.iadd, 1) := by decide +kernel
theorem dgX2_tryFrom_309 : decode cX2_tryFrom 309 = .ok (.goto 4, 3) := by decide +kernel
theorem dgX2_tryFrom_312 : decode cX2_tryFrom 312 = .ok (.iconst (-1), 1) := by decide +kernel
theorem dgX2_tryFrom_313 : decode cX2_tryFrom 313 = .ok (.istore 9, 2) := by decide +kernel
theorem dgX2_tryFrom_315 : decode cX2_tryFrom 315 = .ok (.iinc 6 1, 3) := by decide +kernel
theorem dgX2_tryFrom_318 : decode cX2_tryFrom 318 = .ok (.goto (-64), 3) := by decide +kernel
theorem dgX2_tryFrom_321 : decode cX2_tryFrom 321 = .ok (.iinc 10 1, 3) := by decide +kernel
theorem dgX2_tryFrom_324 : decode cX2_tryFrom 324 = .ok (.goto (-271), 3) := by decide +kernel
theorem dgX2_tryFrom_327 : decode cX2_tryFrom 327 = .ok (.iload 4, 2) := by decide +kernel
theorem dgX2_tryFrom_329 : decode cX2_tryFrom 329 = .ok (.ifCond .eq 7, 3) := by decide +kernel
theorem dgX2_tryFrom_332 : decode cX2_tryFrom 332 = .ok (.iconst 0, 1) := by decide +kernel
theorem dgX2_tryFrom_333 : decode cX2_tryFrom 333 = .ok (.goto 5, 3) := by decide +kernel
theorem dgX2_tryFrom_336 : decode cX2_tryFrom 336 = .ok (.iload 8, 2) := by decide +kernel
theorem dgX2_tryFrom_338 : decode cX2_tryFrom 338 = .ok (.ireturn, 1) := by decide +kernel
def wg_X2_tryFrom : List Cond := .code yX2_tryFrom cX2_tryFrom 15 (some .int) :: (([.fieldLink RX2 30 "KnotHouse$Coder" "number" "[I", .fieldLink RX2 20 "KnotHouse$Coder" "one" "LKnotHouse$Codes;", .fieldLink RX2 51 "KnotHouse$Codes" "cells" "[B", .fieldLink RX2 48 "KnotHouse$Codes" "lengths" "[B", .fieldLink RX2 34 "KnotHouse$Coder" "named" "[I", .fieldLink RX2 26 "KnotHouse$Coder" "trial" "[B", .fieldLink RX2 112 "KnotHouse$Net" "next" "[I"] ++ wsX20 ++ wsX30 ++ wsX70) ++ (va_wsS RX2 106 yJ7_fill_53178 wg_J7_fill_53178 ++ (va_wsS RX2 91 yX2_firstCell wg_X2_firstCell ++ [])))
theorem gg_X2_tryFrom_0 : GoodIn wg_X2_tryFrom (va_wsS RX2 106 yJ7_fill_53178 wg_J7_fill_53178) := goodIn_sub (fun _ h => List.mem_cons_of_mem _ (List.mem_append_right _ (List.mem_append_left _ h))) (by decide +kernel)
theorem gg_X2_tryFrom_1 : GoodIn wg_X2_tryFrom (va_wsS RX2 91 yX2_firstCell wg_X2_firstCell) := goodIn_sub (fun _ h => List.mem_cons_of_mem _ (List.mem_append_right _ (List.mem_append_right _ (List.mem_append_left _ h)))) (by decide +kernel)
set_option maxHeartbeats 4000000 in
set_option maxRecDepth 100000 in
theorem kg_X2_tryFrom (l : Launch) (dC : Nat → ClassId) (dI : Nat → Nat → Nat) (cI cB cJ cZ : ClassId) (aK : Nat) (kx fo : Nat → Nat) (B0 L0 : Nat → Nat) (z0 : Int32) (t0 M0 N0 : Nat → Nat) (aX : Nat) (nx : Nat → Nat) (x7 x8 x9 x10 : Int32) (S : ow_NP) (hS0 : ow_b24 S) (G : Nat → Int32) (v0 : Nat) (hv0 : v0 < 24) (hB0 : ow_b128 B0) (hL0 : L0 0 < 128) (ht0 : ow_b128 t0) (hlen : (tf_code G S.1 v0).len ≤ 30) (sz : Nat) : Met l yX2_tryFrom wg_X2_tryFrom (({ frames := 1, cells := 0, slots := 0, locals := 70 } : Room)) (va_Pc [.ref aK, .ref aX, .int (nI v0)] (fun U => U.heap.size = sz ∧ va_P (dC, dI) vwCl [(aK, .inr (5, [.ref (kx 0), .ref (kx 1), .ref (kx 2), .ref (kx 3), .ref (kx 4), .ref (kx 5)])), ((kx 1), .inr (6, [.ref (fo 0), .ref (fo 1), .ref (fo 2), .ref (fo 3), .int z0])), ((fo 0), .inl (cB, (30 * 1), .inl (ow_nI B0))), ((fo 1), .inl (cB, 1, .inl (ow_nI L0))), ((kx 3), .inl (cB, 48, .inl (ow_nI t0))), ((kx 4), .inl (cI, 12, .inl (ow_nI M0))), ((kx 5), .inl (cI, 12, .inl (ow_nI N0))), (aX, .inr (10, [.ref (nx 0), .ref (nx 1), .ref (nx 2), .ref (nx 3), .ref (nx 4), .ref (nx 5), .ref (nx 6), .int x7, .int x8, .int x9, .int x10])), ((nx 0), .inl (cI, 24, .inl (ow_nI S.1))), ((nx 2), .inl (cI, 12, .inl G))] U.heap ∧ va_K (dC, dI) vwCl [(cI, .int), (cB, .byte), (cJ, .long), (cZ, .boolean)] U ∧ va_D (fun _ => True) [(aK, .inr (5, [.ref (kx 0), .ref (kx 1), .ref (kx 2), .ref (kx 3), .ref (kx 4), .ref (kx 5)])), ((kx 1), .inr (6, [.ref (fo 0), .ref (fo 1), .ref (fo 2), .ref (fo 3), .int z0])), ((fo 0), .inl (cB, (30 * 1), .inl (ow_nI B0))), ((fo 1), .inl (cB, 1, .inl (ow_nI L0))), ((kx 3), .inl (cB, 48, .inl (ow_nI t0))), ((kx 4), .inl (cI, 12, .inl (ow_nI M0))), ((kx 5), .inl (cI, 12, .inl (ow_nI N0))), (aX, .inr (10, [.ref (nx 0), .ref (nx 1), .ref (nx 2), .ref (nx 3), .ref (nx 4), .ref (nx 5), .ref (nx 6), .int x7, .int x8, .int x9, .int x10])), ((nx 0), .inl (cI, 24, .inl (ow_nI S.1))), ((nx 2), .inl (cI, 12, .inl G))])) (va_Qi (fun r (g : (Nat → Nat) × (Nat → Nat) × (Nat → Nat)) => ((r = nI (tf_code G S.1 v0).len ∧ (L0 0 = 0 ∨ cd_lt (tf_code G S.1 v0).T B0 (tf_code G S.1 v0).len) ∧ ag (tf_code G S.1 v0).len g.1 (tf_code G S.1 v0).T) ∨ (r = 0 ∧ 0 < L0 0 ∧ ¬ cd_lt (tf_code G S.1 v0).T B0 (tf_code G S.1 v0).len)) ∧ ow_b128 g.1) (fun g t => va_P (dC, dI) vwCl [(aK, .inr (5, [.ref (kx 0), .ref (kx 1), .ref (kx 2), .ref (kx 3), .ref (kx 4), .ref (kx 5)])), ((kx 1), .inr (6, [.ref (fo 0), .ref (fo 1), .ref (fo 2), .ref (fo 3), .int z0])), ((fo 0), .inl (cB, (30 * 1), .inl (ow_nI B0))), ((fo 1), .inl (cB, 1, .inl (ow_nI L0))), ((kx 3), .inl (cB, 48, .inl (ow_nI g.1))), ((kx 4), .inl (cI, 12, .inl (ow_nI g.2.1))), ((kx 5), .inl (cI, 12, .inl (ow_nI g.2.2))), (aX, .inr (10, [.ref (nx 0), .ref (nx 1), .ref (nx 2), .ref (nx 3), .ref (nx 4), .ref (nx 5), .ref (nx 6), .int x7, .int x8, .int x9, .int x10])), ((nx 0), .inl (cI, 24, .inl (ow_nI S.1))), ((nx 2), .inl (cI, 12, .inl G))] t.heap ∧ va_D (va_A [(aK, .inr (5, [.ref (kx 0), .ref (kx 1), .ref (kx 2), .ref (kx 3), .ref (kx 4), .ref (kx 5)])), ((kx 1), .inr (6, [.ref (fo 0), .ref (fo 1), .ref (fo 2), .ref (fo 3), .int z0])), ((fo 0), .inl (cB, (30 * 1), .inl (ow_nI B0))), ((fo 1), .inl (cB, 1, .inl (ow_nI L0))), ((kx 3), .inl (cB, 48, .inl (ow_nI t0))), ((kx 4), .inl (cI, 12, .inl (ow_nI M0))), ((kx 5), .inl (cI, 12, .inl (ow_nI N0))), (aX, .inr (10, [.ref (nx 0), .ref (nx 1), .ref (nx 2), .ref (nx 3), .ref (nx 4), .ref (nx 5), .ref (nx 6), .int x7, .int x8, .int x9, .int x10])), ((nx 0), .inl (cI, 24, .inl (ow_nI S.1))), ((nx 2), .inl (cI, 12, .inl G))] sz) [(aK, .inr (5, [.ref (kx 0), .ref (kx 1), .ref (kx 2), .ref (kx 3), .ref (kx 4), .ref (kx 5)])), ((kx 1), .inr (6, [.ref (fo 0), .ref (fo 1), .ref (fo 2), .ref (fo 3), .int z0])), ((fo 0), .inl (cB, (30 * 1), .inl (ow_nI B0))), ((fo 1), .inl (cB, 1, .inl (ow_nI L0))), ((kx 3), .inl (cB, 48, .inl (ow_nI g.1))), ((kx 4), .inl (cI, 12, .inl (ow_nI g.2.1))), ((kx 5), .inl (cI, 12, .inl (ow_nI g.2.2))), (aX, .inr (10, [.ref (nx 0), .ref (nx 1), .ref (nx 2), .ref (nx 3), .ref (nx 4), .ref (nx 5), .ref (nx 6), .int x7, .int x8, .int x9, .int x10])), ((nx 0), .inl (cI, 24, .inl (ow_nI S.1))), ((nx 2), .inl (cI, 12, .inl G))]) (va_A [(aK, .inr (5, [.ref (kx 0), .ref (kx 1), .ref (kx 2), .ref (kx 3), .ref (kx 4), .ref (kx 5)])), ((kx 1), .inr (6, [.ref (fo 0), .ref (fo 1), .ref (fo 2), .ref (fo 3), .int z0])), ((fo 0), .inl (cB, (30 * 1), .inl (ow_nI B0))), ((fo 1), .inl (cB, 1, .inl (ow_nI L0))), ((kx 3), .inl (cB, 48, .inl (ow_nI t0))), ((kx 4), .inl (cI, 12, .inl (ow_nI M0))), ((kx 5), .inl (cI, 12, .inl (ow_nI N0))), (aX, .inr (10, [.ref (nx 0), .ref (nx 1), .ref (nx 2), .ref (nx 3), .ref (nx 4), .ref (nx 5), .ref (nx 6), .int x7, .int x8, .int x9, .int x10])), ((nx 0), .inl (cI, 24, .inl (ow_nI S.1))), ((nx 2), .inl (cI, 12, .inl G))] sz)) 0 0 (va_A [(aK, .inr (5, [.ref (kx 0), .ref (kx 1), .ref (kx 2), .ref (kx 3), .ref (kx 4), .ref (kx 5)])), ((kx 1), .inr (6, [.ref (fo 0), .ref (fo 1), .ref (fo 2), .ref (fo 3), .int z0])), ((fo 0), .inl (cB, (30 * 1), .inl (ow_nI B0))), ((fo 1), .inl (cB, 1, .inl (ow_nI L0))), ((kx 3), .inl (cB, 48, .inl (ow_nI t0))), ((kx 4), .inl (cI, 12, .inl (ow_nI M0))), ((kx 5), .inl (cI, 12, .inl (ow_nI N0))), (aX, .inr (10, [.ref (nx 0), .ref (nx 1), .ref (nx 2), .ref (nx 3), .ref (nx 4), .ref (nx 5), .ref (nx 6), .int x7, .int x8, .int x9, .int x10])), ((nx 0), .inl (cI, 24, .inl (ow_nI S.1))), ((nx 2), .inl (cI, 12, .inl G))] sz) := by
  refine Met.ofW (cc := cX2_tryFrom) (maxL := 15) (ret := (some .int)) (by decide) rfl ?_
  intro p e s m args below meth c s₁ B hml hv
  obtain ⟨rfl, hsz, hP, hK, hD0⟩ := hv
  have hx := B.exec
  have hb := B.bytes
  have hr := B.returns
  have hts := atoms_spec (ws := wg_X2_tryFrom) B.pre
  have hown : s.vm.findClass RX2 = some m.cls := findClass_of_methodNamed B.named
  have hlocks := B.notSynchronized
  subst hsz
  have hD := hD0.self (sz := s.heap.size)
  generalize hAe : va_A [(aK, .inr (5, [.ref (kx 0), .ref (kx 1), .ref (kx 2), .ref (kx 3), .ref (kx 4), .ref (kx 5)])), ((kx 1), .inr (6, [.ref (fo 0), .ref (fo 1), .ref (fo 2), .ref (fo 3), .int z0])), ((fo 0), .inl (cB, (30 * 1), .inl (ow_nI B0))), ((fo 1), .inl (cB, 1, .inl (ow_nI L0))), ((kx 3), .inl (cB, 48, .inl (ow_nI t0))), ((kx 4), .inl (cI, 12, .inl (ow_nI M0))), ((kx 5), .inl (cI, 12, .inl (ow_nI N0))), (aX, .inr (10, [.ref (nx 0), .ref (nx 1), .ref (nx 2), .ref (nx 3), .ref (nx 4), .ref (nx 5), .ref (nx 6), .int x7, .int x8, .int x9, .int x10])), ((nx 0), .inl (cI, 24, .inl (ow_nI S.1))), ((nx 2), .inl (cI, 12, .inl G))] s.heap.size = A at hD ⊢
  have hA : ∀ q : Nat, s.heap.size ≤ q → A q := fun q h => by rw [← hAe]; exact Or.inr h
  have hS : va_S A s.heap s.heap [] := va_S.rf
  have hP : va_P (dC, dI) vwCl [(aK, .inr (5, [.ref (kx 0), .ref (kx 1), .ref (kx 2), .ref (kx 3), .ref (kx 4), .ref (kx 5)])), ((kx 1), .inr (6, [.ref (fo 0), .ref (fo 1), .ref (fo 2), .ref (fo 3), .int z0])), ((fo 0), .inl (cB, (30 * 1), .inl (ow_nI B0))), ((fo 1), .inl (cB, 1, .inl (ow_nI L0))), ((kx 3), .inl (cB, 48, .inl (ow_nI t0))), ((kx 4), .inl (cI, 12, .inl (ow_nI M0))), ((kx 5), .inl (cI, 12, .inl (ow_nI N0))), (aX, .inr (10, [.ref (nx 0), .ref (nx 1), .ref (nx 2), .ref (nx 3), .ref (nx 4), .ref (nx 5), .ref (nx 6), .int x7, .int x8, .int x9, .int x10])), ((nx 0), .inl (cI, 24, .inl (ow_nI S.1))), ((nx 2), .inl (cI, 12, .inl G))] s.heap := hP
  have hl := lv_entry ([.ref aK, .ref aX, .int (nI v0)]) (n := 15) (Nat.le_of_ble_eq_true rfl)
  rw [lg_entry_eq]
  generalize (lg_sl ([.ref aK, .ref aX, .int (nI v0)]) ++ List.replicate (15 - (lg_sl ([.ref aK, .ref aX, .int (nI v0)])).length) Slot.unset).toArray = ls at hl ⊢
  have hl : lv_has ls 15 [(0, .ref aK), (1, .ref aX), (2, .int (nI v0))] := hl
  refine ow_named (fun QQ hQQ => ?_)
  suffices key9 : ∀ (H : Heap) (locs : List Loc), va_P (dC, dI) vwCl [(aK, .inr (5, [.ref (kx 0), .ref (kx 1), .ref (kx 2), .ref (kx 3), .ref (kx 4), .ref (kx 5)])), ((kx 1), .inr (6, [.ref (fo 0), .ref (fo 1), .ref (fo 2), .ref (fo 3), .int z0])), ((fo 0), .inl (cB, (30 * 1), .inl (ow_nI B0))), ((fo 1), .inl (cB, 1, .inl (ow_nI L0))), ((kx 3), .inl (cB, 48, .inl (ow_nI t0))), ((kx 4), .inl (cI, 12, .inl (ow_nI M0))), ((kx 5), .inl (cI, 12, .inl (ow_nI N0))), (aX, .inr (10, [.ref (nx 0), .ref (nx 1), .ref (nx 2), .ref (nx 3), .ref (nx 4), .ref (nx 5), .ref (nx 6), .int x7, .int x8, .int x9, .int x10])), ((nx 0), .inl (cI, 24, .inl (ow_nI S.1))), ((nx 2), .inl (cI, 12, .inl G))] H → va_S A s.heap H locs → W p l e ({ frames := 1, cells := 0, slots := 0, locals := 70 } : Room) s m ([.ref aK, .ref aX, .int (nI v0)] : List Value).toArray below meth c H locs 0 0 QQ (F0 m 0 ls []) from key9 s.heap [] hP hS
  intro H locs hP hS
  have K327 : ∀ (P : tf_P) (td fv : Int32) (k i : Nat) (tr M N : Nat → Nat), (tf_code G S.1 v0) = P → tf_td B0 (L0 0) P td → agb P.len tr P.T → ∀ (H : Heap) (locs : List Loc) (ls : Array Slot), va_P (dC, dI) vwCl [(aK, .inr (5, [.ref (kx 0), .ref (kx 1), .ref (kx 2), .ref (kx 3), .ref (kx 4), .ref (kx 5)])), ((kx 1), .inr (6, [.ref (fo 0), .ref (fo 1), .ref (fo 2), .ref (fo 3), .int z0])), ((fo 0), .inl (cB, (30 * 1), .inl (ow_nI B0))), ((fo 1), .inl (cB, 1, .inl (ow_nI L0))), ((kx 3), .inl (cB, 48, .inl (ow_nI tr))), ((kx 4), .inl (cI, 12, .inl (ow_nI M))), ((kx 5), .inl (cI, 12, .inl (ow_nI N))), (aX, .inr (10, [.ref (nx 0), .ref (nx 1), .ref (nx 2), .ref (nx 3), .ref (nx 4), .ref (nx 5), .ref (nx 6), .int x7, .int x8, .int x9, .int x10])), ((nx 0), .inl (cI, 24, .inl (ow_nI S.1))), ((nx 2), .inl (cI, 12, .inl G))] H → va_D A [(aK, .inr (5, [.ref (kx 0), .ref (kx 1), .ref (kx 2), .ref (kx 3), .ref (kx 4), .ref (kx 5)])), ((kx 1), .inr (6, [.ref (fo 0), .ref (fo 1), .ref (fo 2), .ref (fo 3), .int z0])), ((fo 0), .inl (cB, (30 * 1), .inl (ow_nI B0))), ((fo 1), .inl (cB, 1, .inl (ow_nI L0))), ((kx 3), .inl (cB, 48, .inl (ow_nI tr))), ((kx 4), .inl (cI, 12, .inl (ow_nI M))), ((kx 5), .inl (cI, 12, .inl (ow_nI N))), (aX, .inr (10, [.ref (nx 0), .ref (nx 1), .ref (nx 2), .ref (nx 3), .ref (nx 4), .ref (nx 5), .ref (nx 6), .int x7, .int x8, .int x9, .int x10])), ((nx 0), .inl (cI, 24, .inl (ow_nI S.1))), ((nx 2), .inl (cI, 12, .inl G))] → va_S A s.heap H locs → lv_has ls 15 [(0, .ref aK), (1, .ref aX), (3, .ref (fo 0)), (4, .int td), (5, .int (nI P.names)), (6, .int (nI k)), (7, .int (nI P.gone)), (8, .int (nI P.len)), (9, .int fv), (10, .int (nI i))] → W p l e ({ frames := 1, cells := 0, slots := 0, locals := 70 } : Room) s m ([.ref aK, .ref aX, .int (nI v0)] : List Value).toArray below meth c H locs 0 0 QQ (F0 m 327 ls []) := by
    intro P td fv k i tr M N hq htd htr H locs ls hP hD hS hl
    rcases htd with ⟨h1, h2, h3⟩ | ⟨h1, h2⟩
    · refine lv_iload hx hb dgX2_tryFrom_327 (lv_at hl 3 rfl) ?_
      refine lv_if_eq (tgt := 336) hx hb dgX2_tryFrom_329 (by decide) (fun c9 => absurd c9 (by rw [h1]; decide)) (fun _ => ?_)
      refine lv_iconst (v := 0) hx hb dgX2_tryFrom_332 (by decide) ?_
      refine lv_goto (tgt := 338) hx hb dgX2_tryFrom_333 (by decide) ?_
      rw [hQQ]
      exact W.iret (v := 0) hx hb hr (fun t ht hW => ⟨⟨0, (tr, M, N), rfl, ⟨Or.inr ⟨rfl, h2, by rw [hq]; exact cd_lt_no h3 (Or.inl (Nat.le_refl _))⟩, htr.2⟩, by rw [ht]; exact hP, hD⟩, hS.F ht⟩) hS.2.2 dgX2_tryFrom_338
    · refine lv_iload hx hb dgX2_tryFrom_327 (lv_at hl 3 rfl) ?_
      refine lv_if_eq (tgt := 336) hx hb dgX2_tryFrom_329 (by decide) (fun _ => ?_) (fun c9 => absurd (h1) c9)
      refine lv_iload hx hb dgX2_tryFrom_336 (lv_at hl 7 rfl) ?_
      rw [hQQ]
      exact W.iret (v := (nI P.len)) hx hb hr (fun t ht hW => ⟨⟨(nI P.len), (tr, M, N), rfl, ⟨Or.inl ⟨by rw [hq], by rw [hq]; exact h2, by rw [hq]; exact htr.1⟩, htr.2⟩, by rw [ht]; exact hP, hD⟩, hS.F ht⟩) hS.2.2 dgX2_tryFrom_338
  have L53 : ∀ (d i : Nat) (of : Option Nat) (k : Nat) (P : tf_P) (td fv : Int32) (tr M N : Nat → Nat), i + d = 24 → (tf_code G S.1 v0) = tf_out G S.1 d of k P → tf_ok P → k ≤ P.names → tf_td B0 (L0 0) P td → agb P.len tr P.T → ag 12 M P.num → ag P.names N P.nam → ((of = none ∧ fv = -1) ∨ ∃ f, of = some f ∧ fv = nI f ∧ f < 24) → ∀ (H : Heap) (locs : List Loc) (ls : Array Slot), va_P (dC, dI) vwCl [(aK, .inr (5, [.ref (kx 0), .ref (kx 1), .ref (kx 2), .ref (kx 3), .ref (kx 4), .ref (kx 5)])), ((kx 1), .inr (6, [.ref (fo 0), .ref (fo 1), .ref (fo 2), .ref (fo 3), .int z0])), ((fo 0), .inl (cB, (30 * 1), .inl (ow_nI B0))), ((fo 1), .inl (cB, 1, .inl (ow_nI L0))), ((kx 3), .inl (cB, 48, .inl (ow_nI tr))), ((kx 4), .inl (cI, 12, .inl (ow_nI M))), ((kx 5), .inl (cI, 12, .inl (ow_nI N))), (aX, .inr (10, [.ref (nx 0), .ref (nx 1), .ref (nx 2), .ref (nx 3), .ref (nx 4), .ref (nx 5), .ref (nx 6), .int x7, .int x8, .int x9, .int x10])), ((nx 0), .inl (cI, 24, .inl (ow_nI S.1))), ((nx 2), .inl (cI, 12, .inl G))] H → va_D A [(aK, .inr (5, [.ref (kx 0), .ref (kx 1), .ref (kx 2), .ref (kx 3), .ref (kx 4), .ref (kx 5)])), ((kx 1), .inr (6, [.ref (fo 0), .ref (fo 1), .ref (fo 2), .ref (fo 3), .int z0])), ((fo 0), .inl (cB, (30 * 1), .inl (ow_nI B0))), ((fo 1), .inl (cB, 1, .inl (ow_nI L0))), ((kx 3), .inl (cB, 48, .inl (ow_nI tr))), ((kx 4), .inl (cI, 12, .inl (ow_nI M))), ((kx 5), .inl (cI, 12, .inl (ow_nI N))), (aX, .inr (10, [.ref (nx 0), .ref (nx 1), .ref (nx 2), .ref (nx 3), .ref (nx 4), .ref (nx 5), .ref (nx 6), .int x7, .int x8, .int x9, .int x10])), ((nx 0), .inl (cI, 24, .inl (ow_nI S.1))), ((nx 2), .inl (cI, 12, .inl G))] → va_S A s.heap H locs → lv_has ls 15 [(0, .ref aK), (1, .ref aX), (3, .ref (fo 0)), (4, .int td), (5, .int (nI P.names)), (6, .int (nI k)), (7, .int (nI P.gone)), (8, .int (nI P.len)), (9, .int fv), (10, .int (nI i))] → W p l e ({ frames := 1, cells := 0, slots := 0, locals := 70 } : Room) s m ([.ref aK, .ref aX, .int (nI v0)] : List Value).toArray below meth c H locs 0 0 QQ (F0 m 53 ls []) := by
    intro d
    induction d with
    | zero =>
      intro i of k P td fv tr M N hi hq hok hk htd htr hM hN hfr H locs ls hP hD hS hl
      refine lv_iload hx hb dgX2_tryFrom_53 (lv_at hl 9 rfl) ?_
      refine lv_bipush (v := 24) hx hb dgX2_tryFrom_55 (by decide) ?_
      refine lv_icmp_ge (tgt := 327) hx hb dgX2_tryFrom_57 (by decide) (fun _ => ?_) (fun c9 => absurd (nI_le (a := 24) (b := i) (by omega) (by omega)) c9)
      exact K327 P td fv k i tr M N hq htd htr H locs ls hP hD hS (lv_sub hl [0, 1, 2, 3, 4, 5, 6, 7, 8, 9] rfl)
    | succ d ih =>
      intro i of k P td fv tr M N hi hq hok hk htd htr hM hN hfr H locs ls hP hD hS hl
      refine lv_iload hx hb dgX2_tryFrom_53 (lv_at hl 9 rfl) ?_
      refine lv_bipush (v := 24) hx hb dgX2_tryFrom_55 (by decide) ?_
      refine lv_icmp_ge (tgt := 327) hx hb dgX2_tryFrom_57 (by decide) (fun c9 => absurd c9 (nI_ge (a := i) (b := 24) (by omega) (by omega))) (fun _ => ?_)
      rcases hfr with ⟨hof, hfv⟩ | ⟨f, hof, hfv, hf24⟩
      · rw [hof] at hq
        refine lv_iload hx hb dgX2_tryFrom_60 (lv_at hl 8 rfl) ?_
        refine lv_iconst (v := (-1)) hx hb dgX2_tryFrom_62 (by decide) ?_
        refine lv_icmp_eq (tgt := 327) hx hb dgX2_tryFrom_63 (by decide) (fun _ => ?_) (fun c9 => absurd (hfv) c9)
        exact K327 P td fv k i tr M N hq htd htr H locs ls hP hD hS (lv_sub hl [0, 1, 2, 3, 4, 5, 6, 7, 8, 9] rfl)
      · rw [hof] at hq
        rw [hfv] at hl
        have hq : (tf_code G S.1 v0) = tf_rest G S.1 d k (tf_ring G S.1 f 24 f P) := hq
        have K221 : ∀ (P : tf_P) (td : Int32) (tr M N : Nat → Nat), (tf_code G S.1 v0) = tf_rest G S.1 d k P → tf_ok P → k ≤ P.names → tf_td B0 (L0 0) P td → agb P.len tr P.T → ag 12 M P.num → ag P.names N P.nam → ∀ (H : Heap) (locs : List Loc) (ls : Array Slot), va_P (dC, dI) vwCl [(aK, .inr (5, [.ref (kx 0), .ref (kx 1), .ref (kx 2), .ref (kx 3), .ref (kx 4), .ref (kx 5)])), ((kx 1), .inr (6, [.ref (fo 0), .ref (fo 1), .ref (fo 2), .ref (fo 3), .int z0])), ((fo 0), .inl (cB, (30 * 1), .inl (ow_nI B0))), ((fo 1), .inl (cB, 1, .inl (ow_nI L0))), ((kx 3), .inl (cB, 48, .inl (ow_nI tr))), ((kx 4), .inl (cI, 12, .inl (ow_nI M))), ((kx 5), .inl (cI, 12, .inl (ow_nI N))), (aX, .inr (10, [.ref (nx 0), .ref (nx 1), .ref (nx 2), .ref (nx 3), .ref (nx 4), .ref (nx 5), .ref (nx 6), .int x7, .int x8, .int x9, .int x10])), ((nx 0), .inl (cI, 24, .inl (ow_nI S.1))), ((nx 2), .inl (cI, 12, .inl G))] H → va_D A [(aK, .inr (5, [.ref (kx 0), .ref (kx 1), .ref (kx 2), .ref (kx 3), .ref (kx 4), .ref (kx 5)])), ((kx 1), .inr (6, [.ref (fo 0), .ref (fo 1), .ref (fo 2), .ref (fo 3), .int z0])), ((fo 0), .inl (cB, (30 * 1), .inl (ow_nI B0))), ((fo 1), .inl (cB, 1, .inl (ow_nI L0))), ((kx 3), .inl (cB, 48, .inl (ow_nI tr))), ((kx 4), .inl (cI, 12, .inl (ow_nI M))), ((kx 5), .inl (cI, 12, .inl (ow_nI N))), (aX, .inr (10, [.ref (nx 0), .ref (nx 1), .ref (nx 2), .ref (nx 3), .ref (nx 4), .ref (nx 5), .ref (nx 6), .int x7, .int x8, .int x9, .int x10])), ((nx 0), .inl (cI, 24, .inl (ow_nI S.1))), ((nx 2), .inl (cI, 12, .inl G))] → va_S A s.heap H locs → lv_has ls 15 [(0, .ref aK), (1, .ref aX), (3, .ref (fo 0)), (4, .int td), (5, .int (nI P.names)), (6, .int (nI k)), (7, .int (nI P.gone)), (8, .int (nI P.len)), (9, .int (nI f)), (10, .int (nI i))] → W p l e ({ frames := 1, cells := 0, slots := 0, locals := 70 } : Room) s m ([.ref aK, .ref aX, .int (nI v0)] : List Value).toArray below meth c H locs 0 0 QQ (F0 m 221 ls []) := by
          intro P td tr M N hq hok hk htd htr hM hN H locs ls hP hD hS hl
          have hxt : tf_ext (tf_sep P) (tf_code G S.1 v0) := by rw [hq]; exact tf_rest_ext _ _ _ _ _
          have hl30 : P.len + 1 ≤ 30 := Nat.le_trans hxt.1 hlen
          have hg24 := hok.2.2.2
          have hn12 := tf_ok_le hok
          have K321 : ∀ (kk : Nat) (of : Option Nat) (td fv : Int32), (tf_code G S.1 v0) = tf_out G S.1 d of kk (tf_sep P) → kk ≤ P.names → tf_td B0 (L0 0) (tf_sep P) td → ((of = none ∧ fv = -1) ∨ ∃ f, of = some f ∧ fv = nI f ∧ f < 24) → ∀ (H : Heap) (locs : List Loc) (ls : Array Slot), va_P (dC, dI) vwCl [(aK, .inr (5, [.ref (kx 0), .ref (kx 1), .ref (kx 2), .ref (kx 3), .ref (kx 4), .ref (kx 5)])), ((kx 1), .inr (6, [.ref (fo 0), .ref (fo 1), .ref (fo 2), .ref (fo 3), .int z0])), ((fo 0), .inl (cB, (30 * 1), .inl (ow_nI B0))), ((fo 1), .inl (cB, 1, .inl (ow_nI L0))), ((kx 3), .inl (cB, 48, .inl (ow_nI (nu tr P.len 0)))), ((kx 4), .inl (cI, 12, .inl (ow_nI M))), ((kx 5), .inl (cI, 12, .inl (ow_nI N))), (aX, .inr (10, [.ref (nx 0), .ref (nx 1), .ref (nx 2), .ref (nx 3), .ref (nx 4), .ref (nx 5), .ref (nx 6), .int x7, .int x8, .int x9, .int x10])), ((nx 0), .inl (cI, 24, .inl (ow_nI S.1))), ((nx 2), .inl (cI, 12, .inl G))] H → va_D A [(aK, .inr (5, [.ref (kx 0), .ref (kx 1), .ref (kx 2), .ref (kx 3), .ref (kx 4), .ref (kx 5)])), ((kx 1), .inr (6, [.ref (fo 0), .ref (fo 1), .ref (fo 2), .ref (fo 3), .int z0])), ((fo 0), .inl (cB, (30 * 1), .inl (ow_nI B0))), ((fo 1), .inl (cB, 1, .inl (ow_nI L0))), ((kx 3), .inl (cB, 48, .inl (ow_nI (nu tr P.len 0)))), ((kx 4), .inl (cI, 12, .inl (ow_nI M))), ((kx 5), .inl (cI, 12, .inl (ow_nI N))), (aX, .inr (10, [.ref (nx 0), .ref (nx 1), .ref (nx 2), .ref (nx 3), .ref (nx 4), .ref (nx 5), .ref (nx 6), .int x7, .int x8, .int x9, .int x10])), ((nx 0), .inl (cI, 24, .inl (ow_nI S.1))), ((nx 2), .inl (cI, 12, .inl G))] → va_S A s.heap H locs → lv_has ls 15 [(0, .ref aK), (1, .ref aX), (3, .ref (fo 0)), (4, .int td), (5, .int (nI P.names)), (6, .int (nI kk)), (7, .int (nI P.gone)), (8, .int (nI (P.len + 1))), (9, .int fv), (10, .int (nI i))] → W p l e ({ frames := 1, cells := 0, slots := 0, locals := 70 } : Room) s m ([.ref aK, .ref aX, .int (nI v0)] : List Value).toArray below meth c H locs 0 0 QQ (F0 m 321 ls []) := by
            intro kk of td fv hq hkk htd hfr H locs ls hP hD hS hl
            refine lv_iinc (v := nI (i + 1)) (lv' := [(10, .int (nI (i + 1))), (0, .ref aK), (1, .ref aX), (3, .ref (fo 0)), (4, .int td), (5, .int (nI P.names)), (6, .int (nI kk)), (7, .int (nI P.gone)), (8, .int (nI (P.len + 1))), (9, .int fv)]) hx hb dgX2_tryFrom_321 hl (k := 9) rfl (nI_1 i) (by decide) rfl (fun ls hl => ?_)
            refine lv_goto (tgt := 53) hx hb dgX2_tryFrom_324 (by decide) ?_
            exact ih (i + 1) of kk (tf_sep P) td fv (nu tr P.len 0) M N (by omega) hq (tf_sep_ok hok) hkk htd (agb_nus htr (by decide)) hM hN hfr H locs ls hP hD hS (lv_sub hl [1, 2, 3, 4, 5, 6, 7, 8, 9, 0] rfl)
          have K254 : ∀ (kk f1 : Nat) (td : Int32), (tf_code G S.1 v0) = tf_out G S.1 d (some f1) kk (tf_sep P) → kk ≤ P.names → tf_td B0 (L0 0) (tf_sep P) td → f1 < 24 → ∀ (H : Heap) (locs : List Loc) (ls : Array Slot), va_P (dC, dI) vwCl [(aK, .inr (5, [.ref (kx 0), .ref (kx 1), .ref (kx 2), .ref (kx 3), .ref (kx 4), .ref (kx 5)])), ((kx 1), .inr (6, [.ref (fo 0), .ref (fo 1), .ref (fo 2), .ref (fo 3), .int z0])), ((fo 0), .inl (cB, (30 * 1), .inl (ow_nI B0))), ((fo 1), .inl (cB, 1, .inl (ow_nI L0))), ((kx 3), .inl (cB, 48, .inl (ow_nI (nu tr P.len 0)))), ((kx 4), .inl (cI, 12, .inl (ow_nI M))), ((kx 5), .inl (cI, 12, .inl (ow_nI N))), (aX, .inr (10, [.ref (nx 0), .ref (nx 1), .ref (nx 2), .ref (nx 3), .ref (nx 4), .ref (nx 5), .ref (nx 6), .int x7, .int x8, .int x9, .int x10])), ((nx 0), .inl (cI, 24, .inl (ow_nI S.1))), ((nx 2), .inl (cI, 12, .inl G))] H → va_D A [(aK, .inr (5, [.ref (kx 0), .ref (kx 1), .ref (kx 2), .ref (kx 3), .ref (kx 4), .ref (kx 5)])), ((kx 1), .inr (6, [.ref (fo 0), .ref (fo 1), .ref (fo 2), .ref (fo 3), .int z0])), ((fo 0), .inl (cB, (30 * 1), .inl (ow_nI B0))), ((fo 1), .inl (cB, 1, .inl (ow_nI L0))), ((kx 3), .inl (cB, 48, .inl (ow_nI (nu tr P.len 0)))), ((kx 4), .inl (cI, 12, .inl (ow_nI M))), ((kx 5), .inl (cI, 12, .inl (ow_nI N))), (aX, .inr (10, [.ref (nx 0), .ref (nx 1), .ref (nx 2), .ref (nx 3), .ref (nx 4), .ref (nx 5), .ref (nx 6), .int x7, .int x8, .int x9, .int x10])), ((nx 0), .inl (cI, 24, .inl (ow_nI S.1))), ((nx 2), .inl (cI, 12, .inl G))] → va_S A s.heap H locs → lv_has ls 15 [(0, .ref aK), (1, .ref aX), (3, .ref (fo 0)), (4, .int td), (5, .int (nI P.names)), (6, .int (nI kk)), (7, .int (nI P.gone)), (8, .int (nI (P.len + 1))), (9, .int (nI f1)), (10, .int (nI i))] → W p l e ({ frames := 1, cells := 0, slots := 0, locals := 70 } : Room) s m ([.ref aK, .ref aX, .int (nI v0)] : List Value).toArray below meth c H locs 0 0 QQ (F0 m 254 ls []) := by
            intro kk f1 td hq hkk htd hf1 H locs ls hP hD hS hl
            rcases Nat.lt_or_ge kk P.names with q | q
            · refine lv_iload hx hb dgX2_tryFrom_254 (lv_at hl 5 rfl) ?_
              refine lv_iload hx hb dgX2_tryFrom_256 (lv_at hl 4 rfl) ?_
              refine lv_icmp_ge (tgt := 321) hx hb dgX2_tryFrom_258 (by decide) (fun c9 => absurd c9 (nI_ge (a := kk) (b := P.names) q (by omega))) (fun _ => ?_)
              refine lv_iload hx hb dgX2_tryFrom_261 (lv_at hl 8 rfl) ?_
              refine lv_iconst (v := (-1)) hx hb dgX2_tryFrom_263 (by decide) ?_
              refine lv_icmp_ne (tgt := 321) hx hb dgX2_tryFrom_264 (by decide) (fun _ => ?_) (fun c9 => absurd c9 (nI_nm1 (by omega)))
              exact K321 kk (some f1) td (nI f1) hq hkk htd (Or.inr ⟨f1, rfl, rfl, hf1⟩) H locs ls hP hD hS (lv_sub hl [0, 1, 2, 3, 4, 5, 6, 7, 8, 9] rfl)
            · refine lv_iload hx hb dgX2_tryFrom_254 (lv_at hl 5 rfl) ?_
              refine lv_iload hx hb dgX2_tryFrom_256 (lv_at hl 4 rfl) ?_
              refine lv_icmp_ge (tgt := 321) hx hb dgX2_tryFrom_258 (by decide) (fun _ => ?_) (fun c9 => absurd (nI_le (a := P.names) (b := kk) q (by omega)) c9)
              exact K321 kk (some f1) td (nI f1) hq hkk htd (Or.inr ⟨f1, rfl, rfl, hf1⟩) H locs ls hP hD hS (lv_sub hl [0, 1, 2, 3, 4, 5, 6, 7, 8, 9] rfl)
          have L254 : ∀ (e2 kk : Nat) (td : Int32), kk + e2 = P.names → (tf_code G S.1 v0) = tf_out G S.1 d (tf_look (tf_sep P) e2 kk).1 (tf_look (tf_sep P) e2 kk).2 (tf_sep P) → tf_td B0 (L0 0) (tf_sep P) td → ∀ (H : Heap) (locs : List Loc) (ls : Array Slot), va_P (dC, dI) vwCl [(aK, .inr (5, [.ref (kx 0), .ref (kx 1), .ref (kx 2), .ref (kx 3), .ref (kx 4), .ref (kx 5)])), ((kx 1), .inr (6, [.ref (fo 0), .ref (fo 1), .ref (fo 2), .ref (fo 3), .int z0])), ((fo 0), .inl (cB, (30 * 1), .inl (ow_nI B0))), ((fo 1), .inl (cB, 1, .inl (ow_nI L0))), ((kx 3), .inl (cB, 48, .inl (ow_nI (nu tr P.len 0)))), ((kx 4), .inl (cI, 12, .inl (ow_nI M))), ((kx 5), .inl (cI, 12, .inl (ow_nI N))), (aX, .inr (10, [.ref (nx 0), .ref (nx 1), .ref (nx 2), .ref (nx 3), .ref (nx 4), .ref (nx 5), .ref (nx 6), .int x7, .int x8, .int x9, .int x10])), ((nx 0), .inl (cI, 24, .inl (ow_nI S.1))), ((nx 2), .inl (cI, 12, .inl G))] H → va_D A [(aK, .inr (5, [.ref (kx 0), .ref (kx 1), .ref (kx 2), .ref (kx 3), .ref (kx 4), .ref (kx 5)])), ((kx 1), .inr (6, [.ref (fo 0), .ref (fo 1), .ref (fo 2), .ref (fo 3), .int z0])), ((fo 0), .inl (cB, (30 * 1), .inl (ow_nI B0))), ((fo 1), .inl (cB, 1, .inl (ow_nI L0))), ((kx 3), .inl (cB, 48, .inl (ow_nI (nu tr P.len 0)))), ((kx 4), .inl (cI, 12, .inl (ow_nI M))), ((kx 5), .inl (cI, 12, .inl (ow_nI N))), (aX, .inr (10, [.ref (nx 0), .ref (nx 1), .ref (nx 2), .ref (nx 3), .ref (nx 4), .ref (nx 5), .ref (nx 6), .int x7, .int x8, .int x9, .int x10])), ((nx 0), .inl (cI, 24, .inl (ow_nI S.1))), ((nx 2), .inl (cI, 12, .inl G))] → va_S A s.heap H locs → lv_has ls 15 [(0, .ref aK), (1, .ref aX), (3, .ref (fo 0)), (4, .int td), (5, .int (nI P.names)), (6, .int (nI kk)), (7, .int (nI P.gone)), (8, .int (nI (P.len + 1))), (9, .int (-1)), (10, .int (nI i))] → W p l e ({ frames := 1, cells := 0, slots := 0, locals := 70 } : Room) s m ([.ref aK, .ref aX, .int (nI v0)] : List Value).toArray below meth c H locs 0 0 QQ (F0 m 254 ls []) := by
            intro e2
            induction e2 with
            | zero =>
              intro kk td hkk hq htd H locs ls hP hD hS hl
              refine lv_iload hx hb dgX2_tryFrom_254 (lv_at hl 5 rfl) ?_
              refine lv_iload hx hb dgX2_tryFrom_256 (lv_at hl 4 rfl) ?_
              refine lv_icmp_ge (tgt := 321) hx hb dgX2_tryFrom_258 (by decide) (fun _ => ?_) (fun c9 => absurd (nI_le (a := P.names) (b := kk) (by omega) (by omega)) c9)
              exact K321 kk none td (-1) hq (by omega) htd (Or.inl ⟨rfl, rfl⟩) H locs ls hP hD hS (lv_sub hl [0, 1, 2, 3, 4, 5, 6, 7, 8, 9] rfl)
            | succ e2 ih2 =>
              intro kk td hkk hq htd H locs ls hP hD hS hl
              have hna : P.nam kk < 12 := hok.2.2.1 kk
              have hb1 : P.gone / 2 ^ (2 * P.nam kk) < 2 ^ 24 := Nat.lt_of_le_of_lt (Nat.div_le_self _ _) hg24
              have hb2 : P.gone / 2 ^ (2 * P.nam kk + 1) < 2 ^ 24 := Nat.lt_of_le_of_lt (Nat.div_le_self _ _) hg24
              refine lv_iload hx hb dgX2_tryFrom_254 (lv_at hl 5 rfl) ?_
              refine lv_iload hx hb dgX2_tryFrom_256 (lv_at hl 4 rfl) ?_
              refine lv_icmp_ge (tgt := 321) hx hb dgX2_tryFrom_258 (by decide) (fun c9 => absurd c9 (nI_ge (a := kk) (b := P.names) (by omega) (by omega))) (fun _ => ?_)
              refine lv_iload hx hb dgX2_tryFrom_261 (lv_at hl 8 rfl) ?_
              refine lv_iconst (v := (-1)) hx hb dgX2_tryFrom_263 (by decide) ?_
              refine lv_icmp_ne (tgt := 321) hx hb dgX2_tryFrom_264 (by decide) (fun c9 => absurd c9 (not_not_intro rfl)) (fun _ => ?_)
              refine lv_iconst (v := 2) hx hb dgX2_tryFrom_267 (by decide) ?_
              refine lv_aload_n hx hb dgX2_tryFrom_268 rfl (lv_at hl 0 rfl) ?_
              refine va_get (D := (dC, dI)) (ci := 5) (v := .ref (kx 5)) (C := RX2) (T := TX2) (N := 6) hx hb hts (fun _ h => List.mem_cons_of_mem _ (List.mem_append_left _ (List.mem_append_left _ (List.mem_append_left _ (List.mem_append_right _ h))))) hown hK hP 0 rfl rfl 5 (by decide) (hts (.fieldLink RX2 34 "KnotHouse$Coder" "named" "[I") (by decide +kernel)) (fun _ h9 => h9) rfl dgX2_tryFrom_269 ?_
              refine lv_iload hx hb dgX2_tryFrom_272 (lv_at hl 5 rfl) ?_
              refine va_iald hx hb hK hP 6 0 rfl rfl (vp_in_nI (n := kk) (N := 12) (by omega) (by decide)) dgX2_tryFrom_274 ?_
              refine ow_topi (y := nI (N kk)) (ow_nI_at N (Nat.lt_trans (m := 12) (by omega) (by decide))) ?_
              refine lv_imul hx hb dgX2_tryFrom_275 ?_
              refine ow_topi (y := nI (2 * P.nam kk)) (by rw [hN kk (by omega)]; exact pk_mul 2 _) ?_
              refine lv_istore (lv' := [(12, .int (nI (2 * P.nam kk))), (0, .ref aK), (1, .ref aX), (3, .ref (fo 0)), (4, .int td), (5, .int (nI P.names)), (6, .int (nI kk)), (7, .int (nI P.gone)), (8, .int (nI (P.len + 1))), (9, .int (-1)), (10, .int (nI i))]) hx hb dgX2_tryFrom_276 hl (by decide) rfl (fun ls hl => ?_)
              refine lv_iload hx hb dgX2_tryFrom_278 (lv_at hl 7 rfl) ?_
              refine lv_iload hx hb dgX2_tryFrom_280 (lv_at hl 0 rfl) ?_
              refine lv_ishr hx hb dgX2_tryFrom_282 ?_
              refine ow_topi (y := nI (P.gone / 2 ^ (2 * P.nam kk))) (ow_shrb (by omega) (by omega)) ?_
              refine lv_iconst (v := 1) hx hb dgX2_tryFrom_283 (by decide) ?_
              refine lv_iand hx hb dgX2_tryFrom_284 ?_
              refine ow_topi (y := nI ((P.gone / 2 ^ (2 * P.nam kk)) % 2)) (ow_and1 (n := P.gone / 2 ^ (2 * P.nam kk)) (by omega)) ?_
              refine lv_if_ne (tgt := 293) hx hb dgX2_tryFrom_285 (by decide) (fun c1 => ?_) (fun c1 => ?_)
              · have h1 : ¬ P.gone / 2 ^ (2 * P.nam kk) % 2 = 0 := fun h9 => c1 (by rw [h9]; rfl)
                refine lv_iload hx hb dgX2_tryFrom_293 (lv_at hl 7 rfl) ?_
                refine lv_iload hx hb dgX2_tryFrom_295 (lv_at hl 0 rfl) ?_
                refine lv_iconst (v := 1) hx hb dgX2_tryFrom_297 (by decide) ?_
                refine lv_iadd hx hb dgX2_tryFrom_298 ?_
                refine ow_topi (y := nI (2 * P.nam kk + 1)) (nI_1 (2 * P.nam kk)) ?_
                refine lv_ishr hx hb dgX2_tryFrom_299 ?_
                refine ow_topi (y := nI (P.gone / 2 ^ (2 * P.nam kk + 1))) (ow_shrb (by omega) (by omega)) ?_
                refine lv_iconst (v := 1) hx hb dgX2_tryFrom_300 (by decide) ?_
                refine lv_iand hx hb dgX2_tryFrom_301 ?_
                refine ow_topi (y := nI ((P.gone / 2 ^ (2 * P.nam kk + 1)) % 2)) (ow_and1 (n := P.gone / 2 ^ (2 * P.nam kk + 1)) (by omega)) ?_
                refine lv_if_ne (tgt := 312) hx hb dgX2_tryFrom_302 (by decide) (fun c2 => ?_) (fun c2 => ?_)
                · have h2 : ¬ P.gone / 2 ^ (2 * P.nam kk + 1) % 2 = 0 := fun h9 => c2 (by rw [h9]; rfl)
                  have hq : (tf_code G S.1 v0) = tf_out G S.1 d (tf_look (tf_sep P) e2 (kk + 1)).1 (tf_look (tf_sep P) e2 (kk + 1)).2 (tf_sep P) := by rw [hq, show tf_look (tf_sep P) (e2 + 1) kk = tf_look (tf_sep P) e2 (kk + 1) from (if_neg h1).trans (if_neg h2)]
                  refine lv_iconst (v := (-1)) hx hb dgX2_tryFrom_312 (by decide) ?_
                  refine lv_istore (lv' := [(9, .int (-1)), (12, .int (nI (2 * P.nam kk))), (0, .ref aK), (1, .ref aX), (3, .ref (fo 0)), (4, .int td), (5, .int (nI P.names)), (6, .int (nI kk)), (7, .int (nI P.gone)), (8, .int (nI (P.len + 1))), (10, .int (nI i))]) hx hb dgX2_tryFrom_313 hl (by decide) rfl (fun ls hl => ?_)
                  refine lv_iinc (v := nI (kk + 1)) (lv' := [(6, .int (nI (kk + 1))), (9, .int (-1)), (12, .int (nI (2 * P.nam kk))), (0, .ref aK), (1, .ref aX), (3, .ref (fo 0)), (4, .int td), (5, .int (nI P.names)), (7, .int (nI P.gone)), (8, .int (nI (P.len + 1))), (10, .int (nI i))]) hx hb dgX2_tryFrom_315 hl (k := 7) rfl (nI_1 kk) (by decide) rfl (fun ls hl => ?_)
                  refine lv_goto (tgt := 254) hx hb dgX2_tryFrom_318 (by decide) ?_
                  exact ih2 (kk + 1) td (by omega) hq htd H locs ls hP hD hS (lv_sub hl [3, 4, 5, 6, 7, 0, 8, 9, 1, 10] rfl)
                · have h2 : P.gone / 2 ^ (2 * P.nam kk + 1) % 2 = 0 := ow_nI_inj (b := 0) (by omega) (by decide) c2
                  have hq : (tf_code G S.1 v0) = tf_out G S.1 d ((some (2 * P.nam kk + 1), kk + 1)).1 ((some (2 * P.nam kk + 1), kk + 1)).2 (tf_sep P) := by rw [hq, show tf_look (tf_sep P) (e2 + 1) kk = (some (2 * P.nam kk + 1), kk + 1) from (if_neg h1).trans (if_pos h2)]
                  refine lv_iload hx hb dgX2_tryFrom_305 (lv_at hl 0 rfl) ?_
                  refine lv_iconst (v := 1) hx hb dgX2_tryFrom_307 (by decide) ?_
                  refine lv_iadd hx hb dgX2_tryFrom_308 ?_
                  refine ow_topi (y := nI (2 * P.nam kk + 1)) (nI_1 (2 * P.nam kk)) ?_
                  refine lv_goto (tgt := 313) hx hb dgX2_tryFrom_309 (by decide) ?_
                  refine lv_istore (lv' := [(9, .int (nI (2 * P.nam kk + 1))), (12, .int (nI (2 * P.nam kk))), (0, .ref aK), (1, .ref aX), (3, .ref (fo 0)), (4, .int td), (5, .int (nI P.names)), (6, .int (nI kk)), (7, .int (nI P.gone)), (8, .int (nI (P.len + 1))), (10, .int (nI i))]) hx hb dgX2_tryFrom_313 hl (by decide) rfl (fun ls hl => ?_)
                  refine lv_iinc (v := nI (kk + 1)) (lv' := [(6, .int (nI (kk + 1))), (9, .int (nI (2 * P.nam kk + 1))), (12, .int (nI (2 * P.nam kk))), (0, .ref aK), (1, .ref aX), (3, .ref (fo 0)), (4, .int td), (5, .int (nI P.names)), (7, .int (nI P.gone)), (8, .int (nI (P.len + 1))), (10, .int (nI i))]) hx hb dgX2_tryFrom_315 hl (k := 7) rfl (nI_1 kk) (by decide) rfl (fun ls hl => ?_)
                  refine lv_goto (tgt := 254) hx hb dgX2_tryFrom_318 (by decide) ?_
                  exact K254 (kk + 1) (2 * P.nam kk + 1) td hq (by omega) htd (by omega) H locs ls hP hD hS (lv_sub hl [3, 4, 5, 6, 7, 0, 8, 9, 1, 10] rfl)
              · have h1 : P.gone / 2 ^ (2 * P.nam kk) % 2 = 0 := ow_nI_inj (b := 0) (by omega) (by decide) c1
                have hq : (tf_code G S.1 v0) = tf_out G S.1 d ((some (2 * P.nam kk), kk + 1)).1 ((some (2 * P.nam kk), kk + 1)).2 (tf_sep P) := by rw [hq, show tf_look (tf_sep P) (e2 + 1) kk = (some (2 * P.nam kk), kk + 1) from if_pos h1]
                refine lv_iload hx hb dgX2_tryFrom_288 (lv_at hl 0 rfl) ?_
                refine lv_goto (tgt := 313) hx hb dgX2_tryFrom_290 (by decide) ?_
                refine lv_istore (lv' := [(9, .int (nI (2 * P.nam kk))), (12, .int (nI (2 * P.nam kk))), (0, .ref aK), (1, .ref aX), (3, .ref (fo 0)), (4, .int td), (5, .int (nI P.names)), (6, .int (nI kk)), (7, .int (nI P.gone)), (8, .int (nI (P.len + 1))), (10, .int (nI i))]) hx hb dgX2_tryFrom_313 hl (by decide) rfl (fun ls hl => ?_)
                refine lv_iinc (v := nI (kk + 1)) (lv' := [(6, .int (nI (kk + 1))), (9, .int (nI (2 * P.nam kk))), (12, .int (nI (2 * P.nam kk))), (0, .ref aK), (1, .ref aX), (3, .ref (fo 0)), (4, .int td), (5, .int (nI P.names)), (7, .int (nI P.gone)), (8, .int (nI (P.len + 1))), (10, .int (nI i))]) hx hb dgX2_tryFrom_315 hl (k := 7) rfl (nI_1 kk) (by decide) rfl (fun ls hl => ?_)
                refine lv_goto (tgt := 254) hx hb dgX2_tryFrom_318 (by decide) ?_
                exact K254 (kk + 1) (2 * P.nam kk) td hq (by omega) htd (by omega) H locs ls hP hD hS (lv_sub hl [3, 4, 5, 6, 7, 0, 8, 9, 1, 10] rfl)
          have K238 : ∀ (y : Int32), tf_td B0 (L0 0) (tf_sep P) y → ∀ (H : Heap) (locs : List Loc) (ls : Array Slot), va_P (dC, dI) vwCl [(aK, .inr (5, [.ref (kx 0), .ref (kx 1), .ref (kx 2), .ref (kx 3), .ref (kx 4), .ref (kx 5)])), ((kx 1), .inr (6, [.ref (fo 0), .ref (fo 1), .ref (fo 2), .ref (fo 3), .int z0])), ((fo 0), .inl (cB, (30 * 1), .inl (ow_nI B0))), ((fo 1), .inl (cB, 1, .inl (ow_nI L0))), ((kx 3), .inl (cB, 48, .inl (ow_nI tr))), ((kx 4), .inl (cI, 12, .inl (ow_nI M))), ((kx 5), .inl (cI, 12, .inl (ow_nI N))), (aX, .inr (10, [.ref (nx 0), .ref (nx 1), .ref (nx 2), .ref (nx 3), .ref (nx 4), .ref (nx 5), .ref (nx 6), .int x7, .int x8, .int x9, .int x10])), ((nx 0), .inl (cI, 24, .inl (ow_nI S.1))), ((nx 2), .inl (cI, 12, .inl G))] H → va_D A [(aK, .inr (5, [.ref (kx 0), .ref (kx 1), .ref (kx 2), .ref (kx 3), .ref (kx 4), .ref (kx 5)])), ((kx 1), .inr (6, [.ref (fo 0), .ref (fo 1), .ref (fo 2), .ref (fo 3), .int z0])), ((fo 0), .inl (cB, (30 * 1), .inl (ow_nI B0))), ((fo 1), .inl (cB, 1, .inl (ow_nI L0))), ((kx 3), .inl (cB, 48, .inl (ow_nI tr))), ((kx 4), .inl (cI, 12, .inl (ow_nI M))), ((kx 5), .inl (cI, 12, .inl (ow_nI N))), (aX, .inr (10, [.ref (nx 0), .ref (nx 1), .ref (nx 2), .ref (nx 3), .ref (nx 4), .ref (nx 5), .ref (nx 6), .int x7, .int x8, .int x9, .int x10])), ((nx 0), .inl (cI, 24, .inl (ow_nI S.1))), ((nx 2), .inl (cI, 12, .inl G))] → va_S A s.heap H locs → lv_has ls 15 [(0, .ref aK), (1, .ref aX), (3, .ref (fo 0)), (4, .int td), (5, .int (nI P.names)), (6, .int (nI k)), (7, .int (nI P.gone)), (8, .int (nI P.len)), (9, .int (nI f)), (10, .int (nI i))] → W p l e ({ frames := 1, cells := 0, slots := 0, locals := 70 } : Room) s m ([.ref aK, .ref aX, .int (nI v0)] : List Value).toArray below meth c H locs 0 0 QQ (F0 m 238 ls [.int y]) := by
            intro y hy H locs ls hP hD hS hl
            refine lv_istore (lv' := [(4, .int y), (0, .ref aK), (1, .ref aX), (3, .ref (fo 0)), (5, .int (nI P.names)), (6, .int (nI k)), (7, .int (nI P.gone)), (8, .int (nI P.len)), (9, .int (nI f)), (10, .int (nI i))]) hx hb dgX2_tryFrom_238 hl (by decide) rfl (fun ls hl => ?_)
            refine lv_aload_n hx hb dgX2_tryFrom_240 rfl (lv_at hl 1 rfl) ?_
            refine va_get (D := (dC, dI)) (ci := 5) (v := .ref (kx 3)) (C := RX2) (T := TX2) (N := 6) hx hb hts (fun _ h => List.mem_cons_of_mem _ (List.mem_append_left _ (List.mem_append_left _ (List.mem_append_left _ (List.mem_append_right _ h))))) hown hK hP 0 rfl rfl 3 (by decide) (hts (.fieldLink RX2 26 "KnotHouse$Coder" "trial" "[B") (by decide +kernel)) (fun _ h9 => h9) rfl dgX2_tryFrom_241 ?_
            refine lv_iload hx hb dgX2_tryFrom_244 (lv_at hl 7 rfl) ?_
            refine lv_iconst (v := 0) hx hb dgX2_tryFrom_246 (by decide) ?_
            refine ow_topi (y := nI 0) (by decide) ?_
            refine ow_bastN (j := P.len) (w := 0) hx hb hK hP hD hS 4 1 rfl rfl (by omega) (by decide) (by decide) dgX2_tryFrom_247 (fun H locs hP hD hS => ?_)
            have hP : va_P (dC, dI) vwCl [(aK, .inr (5, [.ref (kx 0), .ref (kx 1), .ref (kx 2), .ref (kx 3), .ref (kx 4), .ref (kx 5)])), ((kx 1), .inr (6, [.ref (fo 0), .ref (fo 1), .ref (fo 2), .ref (fo 3), .int z0])), ((fo 0), .inl (cB, (30 * 1), .inl (ow_nI B0))), ((fo 1), .inl (cB, 1, .inl (ow_nI L0))), ((kx 3), .inl (cB, 48, .inl (ow_nI (nu tr P.len 0)))), ((kx 4), .inl (cI, 12, .inl (ow_nI M))), ((kx 5), .inl (cI, 12, .inl (ow_nI N))), (aX, .inr (10, [.ref (nx 0), .ref (nx 1), .ref (nx 2), .ref (nx 3), .ref (nx 4), .ref (nx 5), .ref (nx 6), .int x7, .int x8, .int x9, .int x10])), ((nx 0), .inl (cI, 24, .inl (ow_nI S.1))), ((nx 2), .inl (cI, 12, .inl G))] H := hP
            have hD : va_D A [(aK, .inr (5, [.ref (kx 0), .ref (kx 1), .ref (kx 2), .ref (kx 3), .ref (kx 4), .ref (kx 5)])), ((kx 1), .inr (6, [.ref (fo 0), .ref (fo 1), .ref (fo 2), .ref (fo 3), .int z0])), ((fo 0), .inl (cB, (30 * 1), .inl (ow_nI B0))), ((fo 1), .inl (cB, 1, .inl (ow_nI L0))), ((kx 3), .inl (cB, 48, .inl (ow_nI (nu tr P.len 0)))), ((kx 4), .inl (cI, 12, .inl (ow_nI M))), ((kx 5), .inl (cI, 12, .inl (ow_nI N))), (aX, .inr (10, [.ref (nx 0), .ref (nx 1), .ref (nx 2), .ref (nx 3), .ref (nx 4), .ref (nx 5), .ref (nx 6), .int x7, .int x8, .int x9, .int x10])), ((nx 0), .inl (cI, 24, .inl (ow_nI S.1))), ((nx 2), .inl (cI, 12, .inl G))] := hD
            refine lv_iinc (v := nI (P.len + 1)) (lv' := [(8, .int (nI (P.len + 1))), (4, .int y), (0, .ref aK), (1, .ref aX), (3, .ref (fo 0)), (5, .int (nI P.names)), (6, .int (nI k)), (7, .int (nI P.gone)), (9, .int (nI f)), (10, .int (nI i))]) hx hb dgX2_tryFrom_248 hl (k := 7) rfl (nI_1 P.len) (by decide) rfl (fun ls hl => ?_)
            refine lv_iconst (v := (-1)) hx hb dgX2_tryFrom_251 (by decide) ?_
            refine lv_istore (lv' := [(9, .int (-1)), (8, .int (nI (P.len + 1))), (4, .int y), (0, .ref aK), (1, .ref aX), (3, .ref (fo 0)), (5, .int (nI P.names)), (6, .int (nI k)), (7, .int (nI P.gone)), (10, .int (nI i))]) hx hb dgX2_tryFrom_252 hl (by decide) rfl (fun ls hl => ?_)
            exact L254 (P.names - k) k y (by omega) hq hy H locs ls hP hD hS (lv_sub hl [3, 4, 5, 2, 6, 7, 8, 1, 0, 9] rfl)
          have hsT : (tf_sep P).T P.len = 0 := nu_same _ _ _
          have hup := tf_td_s (Q := (tf_sep P)) htd (tf_sep_ext P) rfl (fun _ => by rw [hsT]; exact Nat.zero_le _)
          rcases htd with ⟨h1, h2, h3⟩ | ⟨h1, h2⟩
          · refine lv_iload hx hb dgX2_tryFrom_221 (lv_at hl 3 rfl) ?_
            refine lv_if_eq (tgt := 237) hx hb dgX2_tryFrom_223 (by decide) (fun c9 => absurd c9 (by rw [h1]; decide)) (fun _ => ?_)
            refine lv_aload_n hx hb dgX2_tryFrom_226 rfl (lv_at hl 2 rfl) ?_
            refine lv_iload hx hb dgX2_tryFrom_227 (lv_at hl 7 rfl) ?_
            refine va_bald hx hb hK hP 2 1 rfl rfl (vp_in_nI (n := P.len) (N := (30 * 1)) (by omega) (by decide)) dgX2_tryFrom_229 ?_
            refine ow_topi (y := nI (B0 P.len)) (ow_nI_at B0 (Nat.lt_trans (m := (30 * 1)) (by omega) (by decide))) ?_
            refine lv_if_ne (tgt := 237) hx hb dgX2_tryFrom_230 (by decide) (fun c3 => ?_) (fun c3 => ?_)
            · have h4 : ¬ 0 = B0 P.len := fun h9 => c3 (by rw [← h9]; rfl)
              rw [if_neg (fun h9 => h4 (hsT.symm.trans h9.2))] at hup
              refine lv_iconst (v := 0) hx hb dgX2_tryFrom_237 (by decide) ?_
              exact K238 0 hup H locs ls hP hD hS (lv_sub hl [0, 1, 2, 3, 4, 5, 6, 7, 8, 9] rfl)
            · have h4 : B0 P.len = 0 := ow_nI_inj (b := 0) (Nat.lt_trans (hB0 _) (by decide)) (by decide) c3
              rw [if_pos ⟨h1, hsT.trans h4.symm⟩] at hup
              refine lv_iconst (v := 1) hx hb dgX2_tryFrom_233 (by decide) ?_
              refine lv_goto (tgt := 238) hx hb dgX2_tryFrom_234 (by decide) ?_
              exact K238 1 hup H locs ls hP hD hS (lv_sub hl [0, 1, 2, 3, 4, 5, 6, 7, 8, 9] rfl)
          · rw [if_neg (fun h9 => by rw [h1] at h9; exact absurd h9.1 (by decide))] at hup
            refine lv_iload hx hb dgX2_tryFrom_221 (lv_at hl 3 rfl) ?_
            refine lv_if_eq (tgt := 237) hx hb dgX2_tryFrom_223 (by decide) (fun _ => ?_) (fun c9 => absurd (h1) c9)
            refine lv_iconst (v := 0) hx hb dgX2_tryFrom_237 (by decide) ?_
            exact K238 0 hup H locs ls hP hD hS (lv_sub hl [0, 1, 2, 3, 4, 5, 6, 7, 8, 9] rfl)
        have L73 : ∀ (e2 j w : Nat) (P : tf_P) (td : Int32) (tr M N : Nat → Nat), j + e2 = 24 → w < 24 → (tf_code G S.1 v0) = tf_rest G S.1 d k (tf_ring G S.1 f e2 w P) → tf_ok P → k ≤ P.names → tf_td B0 (L0 0) P td → agb P.len tr P.T → ag 12 M P.num → ag P.names N P.nam → ∀ (H : Heap) (locs : List Loc) (ls : Array Slot), va_P (dC, dI) vwCl [(aK, .inr (5, [.ref (kx 0), .ref (kx 1), .ref (kx 2), .ref (kx 3), .ref (kx 4), .ref (kx 5)])), ((kx 1), .inr (6, [.ref (fo 0), .ref (fo 1), .ref (fo 2), .ref (fo 3), .int z0])), ((fo 0), .inl (cB, (30 * 1), .inl (ow_nI B0))), ((fo 1), .inl (cB, 1, .inl (ow_nI L0))), ((kx 3), .inl (cB, 48, .inl (ow_nI tr))), ((kx 4), .inl (cI, 12, .inl (ow_nI M))), ((kx 5), .inl (cI, 12, .inl (ow_nI N))), (aX, .inr (10, [.ref (nx 0), .ref (nx 1), .ref (nx 2), .ref (nx 3), .ref (nx 4), .ref (nx 5), .ref (nx 6), .int x7, .int x8, .int x9, .int x10])), ((nx 0), .inl (cI, 24, .inl (ow_nI S.1))), ((nx 2), .inl (cI, 12, .inl G))] H → va_D A [(aK, .inr (5, [.ref (kx 0), .ref (kx 1), .ref (kx 2), .ref (kx 3), .ref (kx 4), .ref (kx 5)])), ((kx 1), .inr (6, [.ref (fo 0), .ref (fo 1), .ref (fo 2), .ref (fo 3), .int z0])), ((fo 0), .inl (cB, (30 * 1), .inl (ow_nI B0))), ((fo 1), .inl (cB, 1, .inl (ow_nI L0))), ((kx 3), .inl (cB, 48, .inl (ow_nI tr))), ((kx 4), .inl (cI, 12, .inl (ow_nI M))), ((kx 5), .inl (cI, 12, .inl (ow_nI N))), (aX, .inr (10, [.ref (nx 0), .ref (nx 1), .ref (nx 2), .ref (nx 3), .ref (nx 4), .ref (nx 5), .ref (nx 6), .int x7, .int x8, .int x9, .int x10])), ((nx 0), .inl (cI, 24, .inl (ow_nI S.1))), ((nx 2), .inl (cI, 12, .inl G))] → va_S A s.heap H locs → lv_has ls 15 [(0, .ref aK), (1, .ref aX), (3, .ref (fo 0)), (4, .int td), (5, .int (nI P.names)), (6, .int (nI k)), (7, .int (nI P.gone)), (8, .int (nI P.len)), (9, .int (nI f)), (10, .int (nI i)), (11, .int (nI w)), (12, .int (nI j))] → W p l e ({ frames := 1, cells := 0, slots := 0, locals := 70 } : Room) s m ([.ref aK, .ref aX, .int (nI v0)] : List Value).toArray below meth c H locs 0 0 QQ (F0 m 73 ls []) := by
          intro e2
          induction e2 with
          | zero =>
            intro j w P td tr M N hj hw24 hq hok hk htd htr hM hN H locs ls hP hD hS hl
            refine lv_iload hx hb dgX2_tryFrom_73 (lv_at hl 11 rfl) ?_
            refine lv_bipush (v := 24) hx hb dgX2_tryFrom_75 (by decide) ?_
            refine lv_icmp_ge (tgt := 221) hx hb dgX2_tryFrom_77 (by decide) (fun _ => ?_) (fun c9 => absurd (nI_le (a := 24) (b := j) (by omega) (by omega)) c9)
            exact K221 P td tr M N hq hok hk htd htr hM hN H locs ls hP hD hS (lv_sub hl [0, 1, 2, 3, 4, 5, 6, 7, 8, 9] rfl)
          | succ e2 ih2 =>
            intro j w P td tr M N hj hw24 hq hok hk htd htr hM hN H locs ls hP hD hS hl
            refine lv_iload hx hb dgX2_tryFrom_73 (lv_at hl 11 rfl) ?_
            refine lv_bipush (v := 24) hx hb dgX2_tryFrom_75 (by decide) ?_
            refine lv_icmp_ge (tgt := 221) hx hb dgX2_tryFrom_77 (by decide) (fun c9 => absurd c9 (nI_ge (a := j) (b := 24) (by omega) (by omega))) (fun _ => ?_)
            refine lv_iload hx hb dgX2_tryFrom_80 (lv_at hl 10 rfl) ?_
            refine lv_iconst (v := 1) hx hb dgX2_tryFrom_82 (by decide) ?_
            refine lv_ishr hx hb dgX2_tryFrom_83 ?_
            refine ow_topi (y := nI (w / 2)) (ow_shr1 (n := w) (by omega)) ?_
            refine lv_istore (lv' := [(13, .int (nI (w / 2))), (0, .ref aK), (1, .ref aX), (3, .ref (fo 0)), (4, .int td), (5, .int (nI P.names)), (6, .int (nI k)), (7, .int (nI P.gone)), (8, .int (nI P.len)), (9, .int (nI f)), (10, .int (nI i)), (11, .int (nI w)), (12, .int (nI j))]) hx hb dgX2_tryFrom_84 hl (by decide) rfl (fun ls hl => ?_)
            have hq : (tf_code G S.1 v0) = tf_rest G S.1 d k (if S.1 w = f then (tf_vis G P w) else tf_ring G S.1 f e2 (S.1 w) (tf_vis G P w)) := hq
            have hxr : tf_ext (tf_vis G P w) (if S.1 w = f then (tf_vis G P w) else tf_ring G S.1 f e2 (S.1 w) (tf_vis G P w)) := by
              split
              · exact tf_ext_rf _
              · exact tf_ring_ext _ _ _ _ _ _
            have hxt : tf_ext (tf_vis G P w) (tf_code G S.1 v0) := by rw [hq]; exact tf_ext_tr hxr (tf_ext_tr (tf_sep_ext _) (tf_rest_ext _ _ _ _ _))
            have hl30 : P.len + 1 ≤ 30 := Nat.le_trans hxt.1 hlen
            have hvk : tf_ok (tf_vis G P w) := tf_vis_ok hok hw24
            have hno := tf_name_ok (x := w / 2) hok (by omega)
            have hcl := tf_cell_lt (G := G) hok hw24
            have hnk : k ≤ (tf_name P (w / 2)).names := by
              unfold tf_name
              split
              · exact Nat.le_succ_of_le hk
              · exact hk
            have hg24 := hok.2.2.2
            have hcT : (tf_vis G P w).T P.len = tf_cell G P w := nu_same _ _ _
            have K172 : ∀ (y : Int32) (M N : Nat → Nat), tf_td B0 (L0 0) (tf_vis G P w) y → ag 12 M (tf_name P (w / 2)).num → ag (tf_name P (w / 2)).names N (tf_name P (w / 2)).nam → ∀ (H : Heap) (locs : List Loc) (ls : Array Slot), va_P (dC, dI) vwCl [(aK, .inr (5, [.ref (kx 0), .ref (kx 1), .ref (kx 2), .ref (kx 3), .ref (kx 4), .ref (kx 5)])), ((kx 1), .inr (6, [.ref (fo 0), .ref (fo 1), .ref (fo 2), .ref (fo 3), .int z0])), ((fo 0), .inl (cB, (30 * 1), .inl (ow_nI B0))), ((fo 1), .inl (cB, 1, .inl (ow_nI L0))), ((kx 3), .inl (cB, 48, .inl (ow_nI tr))), ((kx 4), .inl (cI, 12, .inl (ow_nI M))), ((kx 5), .inl (cI, 12, .inl (ow_nI N))), (aX, .inr (10, [.ref (nx 0), .ref (nx 1), .ref (nx 2), .ref (nx 3), .ref (nx 4), .ref (nx 5), .ref (nx 6), .int x7, .int x8, .int x9, .int x10])), ((nx 0), .inl (cI, 24, .inl (ow_nI S.1))), ((nx 2), .inl (cI, 12, .inl G))] H → va_D A [(aK, .inr (5, [.ref (kx 0), .ref (kx 1), .ref (kx 2), .ref (kx 3), .ref (kx 4), .ref (kx 5)])), ((kx 1), .inr (6, [.ref (fo 0), .ref (fo 1), .ref (fo 2), .ref (fo 3), .int z0])), ((fo 0), .inl (cB, (30 * 1), .inl (ow_nI B0))), ((fo 1), .inl (cB, 1, .inl (ow_nI L0))), ((kx 3), .inl (cB, 48, .inl (ow_nI tr))), ((kx 4), .inl (cI, 12, .inl (ow_nI M))), ((kx 5), .inl (cI, 12, .inl (ow_nI N))), (aX, .inr (10, [.ref (nx 0), .ref (nx 1), .ref (nx 2), .ref (nx 3), .ref (nx 4), .ref (nx 5), .ref (nx 6), .int x7, .int x8, .int x9, .int x10])), ((nx 0), .inl (cI, 24, .inl (ow_nI S.1))), ((nx 2), .inl (cI, 12, .inl G))] → va_S A s.heap H locs → lv_has ls 15 [(0, .ref aK), (1, .ref aX), (3, .ref (fo 0)), (4, .int td), (5, .int (nI (tf_name P (w / 2)).names)), (6, .int (nI k)), (7, .int (nI P.gone)), (8, .int (nI P.len)), (9, .int (nI f)), (10, .int (nI i)), (11, .int (nI w)), (12, .int (nI j)), (14, .int (nI (tf_cell G P w)))] → W p l e ({ frames := 1, cells := 0, slots := 0, locals := 70 } : Room) s m ([.ref aK, .ref aX, .int (nI v0)] : List Value).toArray below meth c H locs 0 0 QQ (F0 m 172 ls [.int y]) := by
              intro y M N hy hM hN H locs ls hP hD hS hl
              refine lv_istore (lv' := [(4, .int y), (0, .ref aK), (1, .ref aX), (3, .ref (fo 0)), (5, .int (nI (tf_name P (w / 2)).names)), (6, .int (nI k)), (7, .int (nI P.gone)), (8, .int (nI P.len)), (9, .int (nI f)), (10, .int (nI i)), (11, .int (nI w)), (12, .int (nI j)), (14, .int (nI (tf_cell G P w)))]) hx hb dgX2_tryFrom_172 hl (by decide) rfl (fun ls hl => ?_)
              refine lv_aload_n hx hb dgX2_tryFrom_174 rfl (lv_at hl 1 rfl) ?_
              refine va_get (D := (dC, dI)) (ci := 5) (v := .ref (kx 3)) (C := RX2) (T := TX2) (N := 6) hx hb hts (fun _ h => List.mem_cons_of_mem _ (List.mem_append_left _ (List.mem_append_left _ (List.mem_append_left _ (List.mem_append_right _ h))))) hown hK hP 0 rfl rfl 3 (by decide) (hts (.fieldLink RX2 26 "KnotHouse$Coder" "trial" "[B") (by decide +kernel)) (fun _ h9 => h9) rfl dgX2_tryFrom_175 ?_
              refine lv_iload hx hb dgX2_tryFrom_178 (lv_at hl 7 rfl) ?_
              refine lv_iload hx hb dgX2_tryFrom_180 (lv_at hl 12 rfl) ?_
              refine lv_i2b hx hb dgX2_tryFrom_182 rfl ?_
              refine ow_topi (y := nI (tf_cell G P w)) (ow_i2b hcl) ?_
              refine ow_bastN (j := P.len) (w := tf_cell G P w) hx hb hK hP hD hS 4 1 rfl rfl (by omega) (by decide) hcl dgX2_tryFrom_183 (fun H locs hP hD hS => ?_)
              have hP : va_P (dC, dI) vwCl [(aK, .inr (5, [.ref (kx 0), .ref (kx 1), .ref (kx 2), .ref (kx 3), .ref (kx 4), .ref (kx 5)])), ((kx 1), .inr (6, [.ref (fo 0), .ref (fo 1), .ref (fo 2), .ref (fo 3), .int z0])), ((fo 0), .inl (cB, (30 * 1), .inl (ow_nI B0))), ((fo 1), .inl (cB, 1, .inl (ow_nI L0))), ((kx 3), .inl (cB, 48, .inl (ow_nI (nu tr P.len (tf_cell G P w))))), ((kx 4), .inl (cI, 12, .inl (ow_nI M))), ((kx 5), .inl (cI, 12, .inl (ow_nI N))), (aX, .inr (10, [.ref (nx 0), .ref (nx 1), .ref (nx 2), .ref (nx 3), .ref (nx 4), .ref (nx 5), .ref (nx 6), .int x7, .int x8, .int x9, .int x10])), ((nx 0), .inl (cI, 24, .inl (ow_nI S.1))), ((nx 2), .inl (cI, 12, .inl G))] H := hP
              have hD : va_D A [(aK, .inr (5, [.ref (kx 0), .ref (kx 1), .ref (kx 2), .ref (kx 3), .ref (kx 4), .ref (kx 5)])), ((kx 1), .inr (6, [.ref (fo 0), .ref (fo 1), .ref (fo 2), .ref (fo 3), .int z0])), ((fo 0), .inl (cB, (30 * 1), .inl (ow_nI B0))), ((fo 1), .inl (cB, 1, .inl (ow_nI L0))), ((kx 3), .inl (cB, 48, .inl (ow_nI (nu tr P.len (tf_cell G P w))))), ((kx 4), .inl (cI, 12, .inl (ow_nI M))), ((kx 5), .inl (cI, 12, .inl (ow_nI N))), (aX, .inr (10, [.ref (nx 0), .ref (nx 1), .ref (nx 2), .ref (nx 3), .ref (nx 4), .ref (nx 5), .ref (nx 6), .int x7, .int x8, .int x9, .int x10])), ((nx 0), .inl (cI, 24, .inl (ow_nI S.1))), ((nx 2), .inl (cI, 12, .inl G))] := hD
              refine lv_iinc (v := nI (P.len + 1)) (lv' := [(8, .int (nI (P.len + 1))), (4, .int y), (0, .ref aK), (1, .ref aX), (3, .ref (fo 0)), (5, .int (nI (tf_name P (w / 2)).names)), (6, .int (nI k)), (7, .int (nI P.gone)), (9, .int (nI f)), (10, .int (nI i)), (11, .int (nI w)), (12, .int (nI j)), (14, .int (nI (tf_cell G P w)))]) hx hb dgX2_tryFrom_184 hl (k := 7) rfl (nI_1 P.len) (by decide) rfl (fun ls hl => ?_)
              refine lv_iload hx hb dgX2_tryFrom_187 (lv_at hl 7 rfl) ?_
              refine lv_iconst (v := 1) hx hb dgX2_tryFrom_189 (by decide) ?_
              refine lv_iload hx hb dgX2_tryFrom_190 (lv_at hl 10 rfl) ?_
              refine lv_ishl hx hb dgX2_tryFrom_192 ?_
              refine ow_topi (y := nI (2 ^ w)) (ow_shlb hw24) ?_
              refine lv_ior hx hb dgX2_tryFrom_193 ?_
              refine ow_topi (y := nI (P.gone ||| 2 ^ w)) (ow_or (by omega) (Nat.lt_trans (Nat.pow_lt_pow_right (by decide) hw24) (by decide))) ?_
              refine lv_istore (lv' := [(7, .int (nI (P.gone ||| 2 ^ w))), (8, .int (nI (P.len + 1))), (4, .int y), (0, .ref aK), (1, .ref aX), (3, .ref (fo 0)), (5, .int (nI (tf_name P (w / 2)).names)), (6, .int (nI k)), (9, .int (nI f)), (10, .int (nI i)), (11, .int (nI w)), (12, .int (nI j)), (14, .int (nI (tf_cell G P w)))]) hx hb dgX2_tryFrom_194 hl (by decide) rfl (fun ls hl => ?_)
              refine lv_aload_n hx hb dgX2_tryFrom_196 rfl (lv_at hl 4 rfl) ?_
              refine va_get (D := (dC, dI)) (ci := 10) (v := .ref (nx 0)) (C := RX7) (T := TX7) (N := 11) hx hb hts (fun _ h => List.mem_cons_of_mem _ (List.mem_append_left _ (List.mem_append_right _ h))) hown hK hP 7 rfl rfl 0 (by decide) (hts (.fieldLink RX2 112 "KnotHouse$Net" "next" "[I") (by decide +kernel)) (fun _ h9 => h9) rfl dgX2_tryFrom_197 ?_
              refine lv_iload hx hb dgX2_tryFrom_200 (lv_at hl 10 rfl) ?_
              refine va_iald hx hb hK hP 8 0 rfl rfl (vp_in_nI (n := w) (N := 24) hw24 (by decide)) dgX2_tryFrom_202 ?_
              refine ow_topi (y := nI (S.1 w)) (ow_nI_at S.1 (Nat.lt_trans (m := 24) hw24 (by decide))) ?_
              refine lv_istore (lv' := [(11, .int (nI (S.1 w))), (7, .int (nI (P.gone ||| 2 ^ w))), (8, .int (nI (P.len + 1))), (4, .int y), (0, .ref aK), (1, .ref aX), (3, .ref (fo 0)), (5, .int (nI (tf_name P (w / 2)).names)), (6, .int (nI k)), (9, .int (nI f)), (10, .int (nI i)), (12, .int (nI j)), (14, .int (nI (tf_cell G P w)))]) hx hb dgX2_tryFrom_203 hl (by decide) rfl (fun ls hl => ?_)
              refine lv_iload hx hb dgX2_tryFrom_205 (lv_at hl 0 rfl) ?_
              refine lv_iload hx hb dgX2_tryFrom_207 (lv_at hl 9 rfl) ?_
              refine lv_icmp_ne (tgt := 215) hx hb dgX2_tryFrom_209 (by decide) (fun c4 => ?_) (fun c4 => ?_)
              · have hne : ¬ S.1 w = f := fun h9 => c4 (congrArg nI h9)
                rw [if_neg hne] at hq
                refine lv_iinc (v := nI (j + 1)) (lv' := [(12, .int (nI (j + 1))), (11, .int (nI (S.1 w))), (7, .int (nI (P.gone ||| 2 ^ w))), (8, .int (nI (P.len + 1))), (4, .int y), (0, .ref aK), (1, .ref aX), (3, .ref (fo 0)), (5, .int (nI (tf_name P (w / 2)).names)), (6, .int (nI k)), (9, .int (nI f)), (10, .int (nI i)), (14, .int (nI (tf_cell G P w)))]) hx hb dgX2_tryFrom_215 hl (k := 11) rfl (nI_1 j) (by decide) rfl (fun ls hl => ?_)
                refine lv_goto (tgt := 73) hx hb dgX2_tryFrom_218 (by decide) ?_
                exact ih2 (j + 1) (S.1 w) (tf_vis G P w) y (nu tr P.len (tf_cell G P w)) M N (by omega) (hS0.1 w) hq hvk hnk hy (agb_nus htr hcl) hM hN H locs ls hP hD hS (lv_sub hl [5, 6, 7, 4, 8, 9, 2, 3, 10, 11, 1, 0] rfl)
              · have heq : S.1 w = f := ow_nI_inj (Nat.lt_trans (hS0.1 w) (by decide)) (by omega) c4
                rw [if_pos heq] at hq
                refine lv_goto (tgt := 221) hx hb dgX2_tryFrom_212 (by decide) ?_
                exact K221 (tf_vis G P w) y (nu tr P.len (tf_cell G P w)) M N hq hvk hnk hy (agb_nus htr hcl) hM hN H locs ls hP hD hS (lv_sub hl [4, 5, 6, 3, 7, 8, 1, 2, 9, 10] rfl)
            have K117 : ∀ (Q9 : tf_P) (M N : Nat → Nat), tf_name P (w / 2) = Q9 → ag 12 M Q9.num → ag Q9.names N Q9.nam → ∀ (H : Heap) (locs : List Loc) (ls : Array Slot), va_P (dC, dI) vwCl [(aK, .inr (5, [.ref (kx 0), .ref (kx 1), .ref (kx 2), .ref (kx 3), .ref (kx 4), .ref (kx 5)])), ((kx 1), .inr (6, [.ref (fo 0), .ref (fo 1), .ref (fo 2), .ref (fo 3), .int z0])), ((fo 0), .inl (cB, (30 * 1), .inl (ow_nI B0))), ((fo 1), .inl (cB, 1, .inl (ow_nI L0))), ((kx 3), .inl (cB, 48, .inl (ow_nI tr))), ((kx 4), .inl (cI, 12, .inl (ow_nI M))), ((kx 5), .inl (cI, 12, .inl (ow_nI N))), (aX, .inr (10, [.ref (nx 0), .ref (nx 1), .ref (nx 2), .ref (nx 3), .ref (nx 4), .ref (nx 5), .ref (nx 6), .int x7, .int x8, .int x9, .int x10])), ((nx 0), .inl (cI, 24, .inl (ow_nI S.1))), ((nx 2), .inl (cI, 12, .inl G))] H → va_D A [(aK, .inr (5, [.ref (kx 0), .ref (kx 1), .ref (kx 2), .ref (kx 3), .ref (kx 4), .ref (kx 5)])), ((kx 1), .inr (6, [.ref (fo 0), .ref (fo 1), .ref (fo 2), .ref (fo 3), .int z0])), ((fo 0), .inl (cB, (30 * 1), .inl (ow_nI B0))), ((fo 1), .inl (cB, 1, .inl (ow_nI L0))), ((kx 3), .inl (cB, 48, .inl (ow_nI tr))), ((kx 4), .inl (cI, 12, .inl (ow_nI M))), ((kx 5), .inl (cI, 12, .inl (ow_nI N))), (aX, .inr (10, [.ref (nx 0), .ref (nx 1), .ref (nx 2), .ref (nx 3), .ref (nx 4), .ref (nx 5), .ref (nx 6), .int x7, .int x8, .int x9, .int x10])), ((nx 0), .inl (cI, 24, .inl (ow_nI S.1))), ((nx 2), .inl (cI, 12, .inl G))] → va_S A s.heap H locs → lv_has ls 15 [(0, .ref aK), (1, .ref aX), (3, .ref (fo 0)), (4, .int td), (5, .int (nI Q9.names)), (6, .int (nI k)), (7, .int (nI P.gone)), (8, .int (nI P.len)), (9, .int (nI f)), (10, .int (nI i)), (11, .int (nI w)), (12, .int (nI j)), (13, .int (nI (w / 2)))] → W p l e ({ frames := 1, cells := 0, slots := 0, locals := 70 } : Room) s m ([.ref aK, .ref aX, .int (nI v0)] : List Value).toArray below meth c H locs 0 0 QQ (F0 m 117 ls []) := by
              intro Q9 M N hQ hM hN H locs ls hP hD hS hl
              subst hQ
              refine lv_iconst (v := 4) hx hb dgX2_tryFrom_117 (by decide) ?_
              refine lv_aload_n hx hb dgX2_tryFrom_118 rfl (lv_at hl 0 rfl) ?_
              refine va_get (D := (dC, dI)) (ci := 5) (v := .ref (kx 4)) (C := RX2) (T := TX2) (N := 6) hx hb hts (fun _ h => List.mem_cons_of_mem _ (List.mem_append_left _ (List.mem_append_left _ (List.mem_append_left _ (List.mem_append_right _ h))))) hown hK hP 0 rfl rfl 4 (by decide) (hts (.fieldLink RX2 30 "KnotHouse$Coder" "number" "[I") (by decide +kernel)) (fun _ h9 => h9) rfl dgX2_tryFrom_119 ?_
              refine lv_iload hx hb dgX2_tryFrom_122 (lv_at hl 12 rfl) ?_
              refine va_iald hx hb hK hP 5 0 rfl rfl (vp_in_nI (n := w / 2) (N := 12) (by omega) (by decide)) dgX2_tryFrom_124 ?_
              refine ow_topi (y := nI (M (w / 2))) (ow_nI_at M (Nat.lt_trans (m := 12) (by omega) (by decide))) ?_
              refine lv_iconst (v := 1) hx hb dgX2_tryFrom_125 (by decide) ?_
              refine lv_isub hx hb dgX2_tryFrom_126 ?_
              refine ow_topi (y := nI ((tf_name P (w / 2)).num (w / 2) - 1)) (by rw [hM (w / 2) (by omega)]; exact pk_sub (b := 1) hno.2) ?_
              refine lv_imul hx hb dgX2_tryFrom_127 ?_
              refine ow_topi (y := nI (4 * ((tf_name P (w / 2)).num (w / 2) - 1))) (pk_mul 4 ((tf_name P (w / 2)).num (w / 2) - 1)) ?_
              refine lv_aload_n hx hb dgX2_tryFrom_128 rfl (lv_at hl 1 rfl) ?_
              refine lv_iload hx hb dgX2_tryFrom_129 (lv_at hl 10 rfl) ?_
              have hPc := hP.sub (ws' := [(aX, .inr (10, [.ref (nx 0), .ref (nx 1), .ref (nx 2), .ref (nx 3), .ref (nx 4), .ref (nx 5), .ref (nx 6), .int x7, .int x8, .int x9, .int x10])), ((nx 2), .inl (cI, 12, .inl G))]) [7, 9] rfl
              refine va_calli (va_runS (As := [.ref aX, .int (nI w)]) (rest := [.int (nI (4 * ((tf_name P (w / 2)).num (w / 2) - 1)))]) ⟨hx, hb, hml, hown, hts⟩ (kg_X2_firstCell l dC dI cI cB cJ cZ aX nx x7 x8 x9 x10 G w hw24) (va_cwS 2 hts gg_X2_tryFrom_1 rfl rfl rfl (by decide +kernel) ⟨(Nat.le_of_ble_eq_true rfl), (Nat.le_of_ble_eq_true rfl)⟩) ⟨fun a U g mk q => by obtain ⟨q0, qP, qK⟩ := q; exact ⟨q0, qP, va_K.moved (u := U) (U := U.calling g mk a) (Vm.Alike.refl U.vm) qK⟩, fun U hU hW => ⟨rfl, by rw [hU]; exact hPc, va_K.moved hW.alike hK⟩⟩ rfl rfl hl.1 rfl (lv_room (Nat.le_of_ble_eq_true rfl)) dgX2_tryFrom_131 ⟨(Nat.le_of_ble_eq_true rfl), (Nat.le_of_ble_eq_true rfl)⟩) hS (fun q _ h => h.elim) (fun q h => h.elim) (fun r9 un t H1 locs ht hvm hw9 hB hz1 hk1 hS => ?_)
              have hP := hP.kept (fun k9 x9 h9 => hk1 x9.1 ((hP k9 x9 h9).lt) id)
              generalize H1 = H at hP hS ⊢
              obtain rfl : r9 = nI (cd_first G w) := hw9
              refine lv_iadd hx hb dgX2_tryFrom_134 ?_
              refine ow_topi (y := nI (tf_cell G P w)) (nI_add _ _) ?_
              refine lv_istore (lv' := [(14, .int (nI (tf_cell G P w))), (0, .ref aK), (1, .ref aX), (3, .ref (fo 0)), (4, .int td), (5, .int (nI (tf_name P (w / 2)).names)), (6, .int (nI k)), (7, .int (nI P.gone)), (8, .int (nI P.len)), (9, .int (nI f)), (10, .int (nI i)), (11, .int (nI w)), (12, .int (nI j)), (13, .int (nI (w / 2)))]) hx hb dgX2_tryFrom_135 hl (by decide) rfl (fun ls hl => ?_)
              have hup : (td = 1 → (tf_vis G P w).T P.len ≤ B0 P.len) → _ := fun h9 => tf_td_s (Q := (tf_vis G P w)) htd (tf_vis_ext G P w) rfl h9
              rcases htd with ⟨h1, h2, h3⟩ | ⟨h1, h2⟩
              · refine lv_iload hx hb dgX2_tryFrom_137 (lv_at hl 4 rfl) ?_
                refine lv_if_eq (tgt := 153) hx hb dgX2_tryFrom_139 (by decide) (fun c9 => absurd c9 (by rw [h1]; decide)) (fun _ => ?_)
                refine lv_iload hx hb dgX2_tryFrom_142 (lv_at hl 0 rfl) ?_
                refine lv_aload_n hx hb dgX2_tryFrom_144 rfl (lv_at hl 3 rfl) ?_
                refine lv_iload hx hb dgX2_tryFrom_145 (lv_at hl 8 rfl) ?_
                refine va_bald hx hb hK hP 2 1 rfl rfl (vp_in_nI (n := P.len) (N := (30 * 1)) (by omega) (by decide)) dgX2_tryFrom_147 ?_
                refine ow_topi (y := nI (B0 P.len)) (ow_nI_at B0 (Nat.lt_trans (m := (30 * 1)) (by omega) (by decide))) ?_
                refine lv_icmp_le (tgt := 153) hx hb dgX2_tryFrom_148 (by decide) (fun c5 => ?_) (fun c5 => ?_)
                · have h4 : tf_cell G P w ≤ B0 P.len := (nI_leI (by omega) (Nat.lt_trans (hB0 _) (by decide))).mp c5
                  have hup := hup (fun _ => by rw [hcT]; exact h4)
                  refine lv_iload hx hb dgX2_tryFrom_153 (lv_at hl 4 rfl) ?_
                  refine lv_if_eq (tgt := 171) hx hb dgX2_tryFrom_155 (by decide) (fun c9 => absurd c9 (by rw [h1]; decide)) (fun _ => ?_)
                  refine lv_iload hx hb dgX2_tryFrom_158 (lv_at hl 0 rfl) ?_
                  refine lv_aload_n hx hb dgX2_tryFrom_160 rfl (lv_at hl 3 rfl) ?_
                  refine lv_iload hx hb dgX2_tryFrom_161 (lv_at hl 8 rfl) ?_
                  refine va_bald hx hb hK hP 2 1 rfl rfl (vp_in_nI (n := P.len) (N := (30 * 1)) (by omega) (by decide)) dgX2_tryFrom_163 ?_
                  refine ow_topi (y := nI (B0 P.len)) (ow_nI_at B0 (Nat.lt_trans (m := (30 * 1)) (by omega) (by decide))) ?_
                  refine lv_icmp_ne (tgt := 171) hx hb dgX2_tryFrom_164 (by decide) (fun c6 => ?_) (fun c6 => ?_)
                  · have h5 : ¬ tf_cell G P w = B0 P.len := fun h9 => c6 (congrArg nI h9)
                    rw [if_neg (fun h9 => h5 (hcT.symm.trans h9.2))] at hup
                    refine lv_iconst (v := 0) hx hb dgX2_tryFrom_171 (by decide) ?_
                    exact K172 0 M N hup hM hN H locs ls hP hD hS (lv_sub hl [1, 2, 3, 4, 5, 6, 7, 8, 9, 10, 11, 12, 0] rfl)
                  · have h5 : tf_cell G P w = B0 P.len := ow_nI_inj (by omega) (Nat.lt_trans (hB0 _) (by decide)) c6
                    rw [if_pos ⟨h1, hcT.trans h5⟩] at hup
                    refine lv_iconst (v := 1) hx hb dgX2_tryFrom_167 (by decide) ?_
                    refine lv_goto (tgt := 172) hx hb dgX2_tryFrom_168 (by decide) ?_
                    exact K172 1 M N hup hM hN H locs ls hP hD hS (lv_sub hl [1, 2, 3, 4, 5, 6, 7, 8, 9, 10, 11, 12, 0] rfl)
                · have h4 : B0 P.len < tf_cell G P w := Nat.lt_of_not_le (fun h9 => c5 ((nI_leI (by omega) (Nat.lt_trans (hB0 _) (by decide))).mpr h9))
                  have hno9 : ¬ cd_lt (tf_code G S.1 v0).T B0 (tf_code G S.1 v0).len := cd_lt_no (k := P.len) (fun q hq9 => ((hxt.2 q (Nat.lt_succ_of_lt hq9)).trans ((tf_vis_ext G P w).2 q hq9)).trans (h3 q hq9)) (Or.inr (by rw [hxt.2 P.len (Nat.lt_succ_self _), hcT]; exact h4))
                  refine lv_iconst (v := 0) hx hb dgX2_tryFrom_151 (by decide) ?_
                  rw [hQQ]
                  exact W.iret (v := 0) hx hb hr (fun t ht hW => ⟨⟨0, (tr, M, N), rfl, ⟨Or.inr ⟨rfl, h2, hno9⟩, htr.2⟩, by rw [ht]; exact hP, hD⟩, hS.F ht⟩) hS.2.2 dgX2_tryFrom_152
              · have hup := hup (fun h9 => by rw [h1] at h9; exact absurd h9 (by decide))
                rw [if_neg (fun h9 => by rw [h1] at h9; exact absurd h9.1 (by decide))] at hup
                refine lv_iload hx hb dgX2_tryFrom_137 (lv_at hl 4 rfl) ?_
                refine lv_if_eq (tgt := 153) hx hb dgX2_tryFrom_139 (by decide) (fun _ => ?_) (fun c9 => absurd (h1) c9)
                refine lv_iload hx hb dgX2_tryFrom_153 (lv_at hl 4 rfl) ?_
                refine lv_if_eq (tgt := 171) hx hb dgX2_tryFrom_155 (by decide) (fun _ => ?_) (fun c9 => absurd (h1) c9)
                refine lv_iconst (v := 0) hx hb dgX2_tryFrom_171 (by decide) ?_
                exact K172 0 M N hup hM hN H locs ls hP hD hS (lv_sub hl [1, 2, 3, 4, 5, 6, 7, 8, 9, 10, 11, 12, 0] rfl)
            refine lv_aload_n hx hb dgX2_tryFrom_86 rfl (lv_at hl 1 rfl) ?_
            refine va_get (D := (dC, dI)) (ci := 5) (v := .ref (kx 4)) (C := RX2) (T := TX2) (N := 6) hx hb hts (fun _ h => List.mem_cons_of_mem _ (List.mem_append_left _ (List.mem_append_left _ (List.mem_append_left _ (List.mem_append_right _ h))))) hown hK hP 0 rfl rfl 4 (by decide) (hts (.fieldLink RX2 30 "KnotHouse$Coder" "number" "[I") (by decide +kernel)) (fun _ h9 => h9) rfl dgX2_tryFrom_87 ?_
            refine lv_iload hx hb dgX2_tryFrom_90 (lv_at hl 0 rfl) ?_
            refine va_iald hx hb hK hP 5 0 rfl rfl (vp_in_nI (n := w / 2) (N := 12) (by omega) (by decide)) dgX2_tryFrom_92 ?_
            refine ow_topi (y := nI (M (w / 2))) (ow_nI_at M (Nat.lt_trans (m := 12) (by omega) (by decide))) ?_
            refine lv_if_ne (tgt := 117) hx hb dgX2_tryFrom_93 (by decide) (fun c7 => ?_) (fun c7 => ?_)
            · have h0 : ¬ P.num (w / 2) = 0 := fun h9 => c7 (by rw [hM (w / 2) (by omega), h9]; rfl)
              exact K117 P M N (if_neg h0) hM hN H locs ls hP hD hS (lv_sub hl [1, 2, 3, 4, 5, 6, 7, 8, 9, 10, 11, 12, 0] rfl)
            · have h0 : P.num (w / 2) = 0 := by have h9 := hok.1 (w / 2); have h8 := tf_ok_le hok; exact ow_nI_inj (b := 0) (by omega) (by decide) (by rw [← hM (w / 2) (by omega)]; exact c7)
              have hnl := tf_name_lt hok (by omega) h0
              refine lv_aload_n hx hb dgX2_tryFrom_96 rfl (lv_at hl 1 rfl) ?_
              refine va_get (D := (dC, dI)) (ci := 5) (v := .ref (kx 5)) (C := RX2) (T := TX2) (N := 6) hx hb hts (fun _ h => List.mem_cons_of_mem _ (List.mem_append_left _ (List.mem_append_left _ (List.mem_append_left _ (List.mem_append_right _ h))))) hown hK hP 0 rfl rfl 5 (by decide) (hts (.fieldLink RX2 34 "KnotHouse$Coder" "named" "[I") (by decide +kernel)) (fun _ h9 => h9) rfl dgX2_tryFrom_97 ?_
              refine lv_iload hx hb dgX2_tryFrom_100 (lv_at hl 5 rfl) ?_
              refine lv_iload hx hb dgX2_tryFrom_102 (lv_at hl 0 rfl) ?_
              refine ow_iastN (j := P.names) (w := w / 2) hx hb hK hP hD hS 6 0 rfl rfl hnl (by decide) dgX2_tryFrom_104 (fun H locs hP hD hS => ?_)
              have hP : va_P (dC, dI) vwCl [(aK, .inr (5, [.ref (kx 0), .ref (kx 1), .ref (kx 2), .ref (kx 3), .ref (kx 4), .ref (kx 5)])), ((kx 1), .inr (6, [.ref (fo 0), .ref (fo 1), .ref (fo 2), .ref (fo 3), .int z0])), ((fo 0), .inl (cB, (30 * 1), .inl (ow_nI B0))), ((fo 1), .inl (cB, 1, .inl (ow_nI L0))), ((kx 3), .inl (cB, 48, .inl (ow_nI tr))), ((kx 4), .inl (cI, 12, .inl (ow_nI M))), ((kx 5), .inl (cI, 12, .inl (ow_nI (nu N P.names (w / 2))))), (aX, .inr (10, [.ref (nx 0), .ref (nx 1), .ref (nx 2), .ref (nx 3), .ref (nx 4), .ref (nx 5), .ref (nx 6), .int x7, .int x8, .int x9, .int x10])), ((nx 0), .inl (cI, 24, .inl (ow_nI S.1))), ((nx 2), .inl (cI, 12, .inl G))] H := hP
              have hD : va_D A [(aK, .inr (5, [.ref (kx 0), .ref (kx 1), .ref (kx 2), .ref (kx 3), .ref (kx 4), .ref (kx 5)])), ((kx 1), .inr (6, [.ref (fo 0), .ref (fo 1), .ref (fo 2), .ref (fo 3), .int z0])), ((fo 0), .inl (cB, (30 * 1), .inl (ow_nI B0))), ((fo 1), .inl (cB, 1, .inl (ow_nI L0))), ((kx 3), .inl (cB, 48, .inl (ow_nI tr))), ((kx 4), .inl (cI, 12, .inl (ow_nI M))), ((kx 5), .inl (cI, 12, .inl (ow_nI (nu N P.names (w / 2))))), (aX, .inr (10, [.ref (nx 0), .ref (nx 1), .ref (nx 2), .ref (nx 3), .ref (nx 4), .ref (nx 5), .ref (nx 6), .int x7, .int x8, .int x9, .int x10])), ((nx 0), .inl (cI, 24, .inl (ow_nI S.1))), ((nx 2), .inl (cI, 12, .inl G))] := hD
              refine lv_iinc (v := nI (P.names + 1)) (lv' := [(5, .int (nI (P.names + 1))), (13, .int (nI (w / 2))), (0, .ref aK), (1, .ref aX), (3, .ref (fo 0)), (4, .int td), (6, .int (nI k)), (7, .int (nI P.gone)), (8, .int (nI P.len)), (9, .int (nI f)), (10, .int (nI i)), (11, .int (nI w)), (12, .int (nI j))]) hx hb dgX2_tryFrom_105 hl (k := 5) rfl (nI_1 P.names) (by decide) rfl (fun ls hl => ?_)
              refine lv_aload_n hx hb dgX2_tryFrom_108 rfl (lv_at hl 2 rfl) ?_
              refine va_get (D := (dC, dI)) (ci := 5) (v := .ref (kx 4)) (C := RX2) (T := TX2) (N := 6) hx hb hts (fun _ h => List.mem_cons_of_mem _ (List.mem_append_left _ (List.mem_append_left _ (List.mem_append_left _ (List.mem_append_right _ h))))) hown hK hP 0 rfl rfl 4 (by decide) (hts (.fieldLink RX2 30 "KnotHouse$Coder" "number" "[I") (by decide +kernel)) (fun _ h9 => h9) rfl dgX2_tryFrom_109 ?_
              refine lv_iload hx hb dgX2_tryFrom_112 (lv_at hl 1 rfl) ?_
              refine lv_iload hx hb dgX2_tryFrom_114 (lv_at hl 0 rfl) ?_
              refine ow_iastN (j := w / 2) (w := P.names + 1) hx hb hK hP hD hS 5 0 rfl rfl (by omega) (by decide) dgX2_tryFrom_116 (fun H locs hP hD hS => ?_)
              have hP : va_P (dC, dI) vwCl [(aK, .inr (5, [.ref (kx 0), .ref (kx 1), .ref (kx 2), .ref (kx 3), .ref (kx 4), .ref (kx 5)])), ((kx 1), .inr (6, [.ref (fo 0), .ref (fo 1), .ref (fo 2), .ref (fo 3), .int z0])), ((fo 0), .inl (cB, (30 * 1), .inl (ow_nI B0))), ((fo 1), .inl (cB, 1, .inl (ow_nI L0))), ((kx 3), .inl (cB, 48, .inl (ow_nI tr))), ((kx 4), .inl (cI, 12, .inl (ow_nI (nu M (w / 2) (P.names + 1))))), ((kx 5), .inl (cI, 12, .inl (ow_nI (nu N P.names (w / 2))))), (aX, .inr (10, [.ref (nx 0), .ref (nx 1), .ref (nx 2), .ref (nx 3), .ref (nx 4), .ref (nx 5), .ref (nx 6), .int x7, .int x8, .int x9, .int x10])), ((nx 0), .inl (cI, 24, .inl (ow_nI S.1))), ((nx 2), .inl (cI, 12, .inl G))] H := hP
              have hD : va_D A [(aK, .inr (5, [.ref (kx 0), .ref (kx 1), .ref (kx 2), .ref (kx 3), .ref (kx 4), .ref (kx 5)])), ((kx 1), .inr (6, [.ref (fo 0), .ref (fo 1), .ref (fo 2), .ref (fo 3), .int z0])), ((fo 0), .inl (cB, (30 * 1), .inl (ow_nI B0))), ((fo 1), .inl (cB, 1, .inl (ow_nI L0))), ((kx 3), .inl (cB, 48, .inl (ow_nI tr))), ((kx 4), .inl (cI, 12, .inl (ow_nI (nu M (w / 2) (P.names + 1))))), ((kx 5), .inl (cI, 12, .inl (ow_nI (nu N P.names (w / 2))))), (aX, .inr (10, [.ref (nx 0), .ref (nx 1), .ref (nx 2), .ref (nx 3), .ref (nx 4), .ref (nx 5), .ref (nx 6), .int x7, .int x8, .int x9, .int x10])), ((nx 0), .inl (cI, 24, .inl (ow_nI S.1))), ((nx 2), .inl (cI, 12, .inl G))] := hD
              exact K117 _ _ _ (if_pos h0) (ag_nu hM _ _) (ag_nus hN _) H locs ls hP hD hS (lv_sub hl [2, 3, 4, 5, 0, 6, 7, 8, 9, 10, 11, 12, 1] rfl)
        refine lv_iload hx hb dgX2_tryFrom_60 (lv_at hl 8 rfl) ?_
        refine lv_iconst (v := (-1)) hx hb dgX2_tryFrom_62 (by decide) ?_
        refine lv_icmp_eq (tgt := 327) hx hb dgX2_tryFrom_63 (by decide) (fun c9 => absurd c9 (nI_nm1 (by omega))) (fun _ => ?_)
        refine lv_iload hx hb dgX2_tryFrom_66 (lv_at hl 8 rfl) ?_
        refine lv_istore (lv' := [(11, .int (nI f)), (0, .ref aK), (1, .ref aX), (3, .ref (fo 0)), (4, .int td), (5, .int (nI P.names)), (6, .int (nI k)), (7, .int (nI P.gone)), (8, .int (nI P.len)), (9, .int (nI f)), (10, .int (nI i))]) hx hb dgX2_tryFrom_68 hl (by decide) rfl (fun ls hl => ?_)
        refine lv_iconst (v := 0) hx hb dgX2_tryFrom_70 (by decide) ?_
        refine ow_topi (y := nI 0) (by decide) ?_
        refine lv_istore (lv' := [(12, .int (nI 0)), (11, .int (nI f)), (0, .ref aK), (1, .ref aX), (3, .ref (fo 0)), (4, .int td), (5, .int (nI P.names)), (6, .int (nI k)), (7, .int (nI P.gone)), (8, .int (nI P.len)), (9, .int (nI f)), (10, .int (nI i))]) hx hb dgX2_tryFrom_71 hl (by decide) rfl (fun ls hl => ?_)
        exact L73 24 0 f P td tr M N (by omega) hf24 hq hok hk htd htr hM hN H locs ls hP hD hS (lv_sub hl [2, 3, 4, 5, 6, 7, 8, 9, 10, 11, 1, 0] rfl)
  refine lv_aload_n hx hb dgX2_tryFrom_0 rfl (lv_at hl 0 rfl) ?_
  refine va_get (D := (dC, dI)) (ci := 5) (v := .ref (kx 4)) (C := RX2) (T := TX2) (N := 6) hx hb hts (fun _ h => List.mem_cons_of_mem _ (List.mem_append_left _ (List.mem_append_left _ (List.mem_append_left _ (List.mem_append_right _ h))))) hown hK hP 0 rfl rfl 4 (by decide) (hts (.fieldLink RX2 30 "KnotHouse$Coder" "number" "[I") (by decide +kernel)) (fun _ h9 => h9) rfl dgX2_tryFrom_1 ?_
  refine lv_iconst (v := 0) hx hb dgX2_tryFrom_4 (by decide) ?_
  have hfl : np_fill (ow_nI M0) 0 12 0 = ow_nI (fun k => if k < 12 then 0 else M0 k) := ow_fill0 M0 12
  have hPc := hP.sub (ws' := [((kx 4), .inl (cI, 12, .inl (ow_nI M0)))]) [5] rfl
  have hDc := hD.sub (ws' := [((kx 4), .inl (cI, 12, .inl (ow_nI M0)))]) [5] (by decide) rfl
  have hFc := va_free (wc := [((kx 4), .inl (cI, 12, .inl (ow_nI M0)))]) hD hS hA [5] rfl
  refine va_callv (va_runS (As := [.ref (kx 4), .int 0]) (rest := []) ⟨hx, hb, hml, hown, hts⟩ (kg_J7_fill_53178 l dC dI cI cB cJ cZ (kx 4) 12 (by decide) (ow_nI M0) 0 H.size) (va_cwS 2 hts gg_X2_tryFrom_0 rfl rfl rfl (by decide +kernel) ⟨(Nat.le_of_ble_eq_true rfl), (Nat.le_of_ble_eq_true rfl)⟩) ⟨fun a U g mk q => by obtain ⟨q0, q1, qP, qK, qD⟩ := q; exact ⟨q0, q1, qP, va_K.moved (u := U) (U := U.calling g mk a) (Vm.Alike.refl U.vm) qK, qD⟩, fun U hU hW => ⟨rfl, by rw [hU], by rw [hU]; exact hPc, va_K.moved hW.alike hK, hDc.weaken (fun _ _ _ _ => trivial)⟩⟩ rfl rfl hl.1 rfl (lv_room (Nat.le_of_ble_eq_true rfl)) dgX2_tryFrom_5 ⟨(Nat.le_of_ble_eq_true rfl), (Nat.le_of_ble_eq_true rfl)⟩) hS (fun q _ h => hFc q h) hFc (fun u9 t H1 locs ht hvm hw9 hB hz1 hk1 hS => ?_)
  obtain ⟨hP1, hD1⟩ := hB
  rw [ht] at hP1
  obtain ⟨hP, hD⟩ := va_join (wr := [(aK, .inr (5, [.ref (kx 0), .ref (kx 1), .ref (kx 2), .ref (kx 3), .ref (kx 4), .ref (kx 5)])), ((kx 1), .inr (6, [.ref (fo 0), .ref (fo 1), .ref (fo 2), .ref (fo 3), .int z0])), ((fo 0), .inl (cB, (30 * 1), .inl (ow_nI B0))), ((fo 1), .inl (cB, 1, .inl (ow_nI L0))), ((kx 3), .inl (cB, 48, .inl (ow_nI t0))), ((kx 5), .inl (cI, 12, .inl (ow_nI N0))), (aX, .inr (10, [.ref (nx 0), .ref (nx 1), .ref (nx 2), .ref (nx 3), .ref (nx 4), .ref (nx 5), .ref (nx 6), .int x7, .int x8, .int x9, .int x10])), ((nx 0), .inl (cI, 24, .inl (ow_nI S.1))), ((nx 2), .inl (cI, 12, .inl G))]) (w1 := [((kx 4), .inl (cI, 12, .inl (np_fill (ow_nI M0) 0 12 0)))]) hP hD [5] [0, 1, 2, 3, 4, 6, 7, 8, 9] rfl rfl (by decide) (by decide) hk1 hFc hP1 hD1
  generalize H1 = H at hP hS ⊢
  have hP : va_P (dC, dI) vwCl [(aK, .inr (5, [.ref (kx 0), .ref (kx 1), .ref (kx 2), .ref (kx 3), .ref (kx 4), .ref (kx 5)])), ((kx 1), .inr (6, [.ref (fo 0), .ref (fo 1), .ref (fo 2), .ref (fo 3), .int z0])), ((fo 0), .inl (cB, (30 * 1), .inl (ow_nI B0))), ((fo 1), .inl (cB, 1, .inl (ow_nI L0))), ((kx 3), .inl (cB, 48, .inl (ow_nI t0))), ((kx 5), .inl (cI, 12, .inl (ow_nI N0))), (aX, .inr (10, [.ref (nx 0), .ref (nx 1), .ref (nx 2), .ref (nx 3), .ref (nx 4), .ref (nx 5), .ref (nx 6), .int x7, .int x8, .int x9, .int x10])), ((nx 0), .inl (cI, 24, .inl (ow_nI S.1))), ((nx 2), .inl (cI, 12, .inl G)), ((kx 4), .inl (cI, 12, .inl (np_fill (ow_nI M0) 0 12 0)))] H := hP
  have hD : va_D A [(aK, .inr (5, [.ref (kx 0), .ref (kx 1), .ref (kx 2), .ref (kx 3), .ref (kx 4), .ref (kx 5)])), ((kx 1), .inr (6, [.ref (fo 0), .ref (fo 1), .ref (fo 2), .ref (fo 3), .int z0])), ((fo 0), .inl (cB, (30 * 1), .inl (ow_nI B0))), ((fo 1), .inl (cB, 1, .inl (ow_nI L0))), ((kx 3), .inl (cB, 48, .inl (ow_nI t0))), ((kx 5), .inl (cI, 12, .inl (ow_nI N0))), (aX, .inr (10, [.ref (nx 0), .ref (nx 1), .ref (nx 2), .ref (nx 3), .ref (nx 4), .ref (nx 5), .ref (nx 6), .int x7, .int x8, .int x9, .int x10])), ((nx 0), .inl (cI, 24, .inl (ow_nI S.1))), ((nx 2), .inl (cI, 12, .inl G)), ((kx 4), .inl (cI, 12, .inl (np_fill (ow_nI M0) 0 12 0)))] := hD
  have hP := hP.sub (ws' := [(aK, .inr (5, [.ref (kx 0), .ref (kx 1), .ref (kx 2), .ref (kx 3), .ref (kx 4), .ref (kx 5)])), ((kx 1), .inr (6, [.ref (fo 0), .ref (fo 1), .ref (fo 2), .ref (fo 3), .int z0])), ((fo 0), .inl (cB, (30 * 1), .inl (ow_nI B0))), ((fo 1), .inl (cB, 1, .inl (ow_nI L0))), ((kx 3), .inl (cB, 48, .inl (ow_nI t0))), ((kx 4), .inl (cI, 12, .inl (np_fill (ow_nI M0) 0 12 0))), ((kx 5), .inl (cI, 12, .inl (ow_nI N0))), (aX, .inr (10, [.ref (nx 0), .ref (nx 1), .ref (nx 2), .ref (nx 3), .ref (nx 4), .ref (nx 5), .ref (nx 6), .int x7, .int x8, .int x9, .int x10])), ((nx 0), .inl (cI, 24, .inl (ow_nI S.1))), ((nx 2), .inl (cI, 12, .inl G))]) [0, 1, 2, 3, 4, 9, 5, 6, 7, 8] rfl
  have hD := hD.sub (ws' := [(aK, .inr (5, [.ref (kx 0), .ref (kx 1), .ref (kx 2), .ref (kx 3), .ref (kx 4), .ref (kx 5)])), ((kx 1), .inr (6, [.ref (fo 0), .ref (fo 1), .ref (fo 2), .ref (fo 3), .int z0])), ((fo 0), .inl (cB, (30 * 1), .inl (ow_nI B0))), ((fo 1), .inl (cB, 1, .inl (ow_nI L0))), ((kx 3), .inl (cB, 48, .inl (ow_nI t0))), ((kx 4), .inl (cI, 12, .inl (np_fill (ow_nI M0) 0 12 0))), ((kx 5), .inl (cI, 12, .inl (ow_nI N0))), (aX, .inr (10, [.ref (nx 0), .ref (nx 1), .ref (nx 2), .ref (nx 3), .ref (nx 4), .ref (nx 5), .ref (nx 6), .int x7, .int x8, .int x9, .int x10])), ((nx 0), .inl (cI, 24, .inl (ow_nI S.1))), ((nx 2), .inl (cI, 12, .inl G))]) [0, 1, 2, 3, 4, 9, 5, 6, 7, 8] (by decide) rfl
  have hP : va_P (dC, dI) vwCl [(aK, .inr (5, [.ref (kx 0), .ref (kx 1), .ref (kx 2), .ref (kx 3), .ref (kx 4), .ref (kx 5)])), ((kx 1), .inr (6, [.ref (fo 0), .ref (fo 1), .ref (fo 2), .ref (fo 3), .int z0])), ((fo 0), .inl (cB, (30 * 1), .inl (ow_nI B0))), ((fo 1), .inl (cB, 1, .inl (ow_nI L0))), ((kx 3), .inl (cB, 48, .inl (ow_nI t0))), ((kx 4), .inl (cI, 12, .inl (ow_nI (fun k => if k < 12 then 0 else M0 k)))), ((kx 5), .inl (cI, 12, .inl (ow_nI N0))), (aX, .inr (10, [.ref (nx 0), .ref (nx 1), .ref (nx 2), .ref (nx 3), .ref (nx 4), .ref (nx 5), .ref (nx 6), .int x7, .int x8, .int x9, .int x10])), ((nx 0), .inl (cI, 24, .inl (ow_nI S.1))), ((nx 2), .inl (cI, 12, .inl G))] H := by rw [hfl] at hP; exact hP
  have hD : va_D A [(aK, .inr (5, [.ref (kx 0), .ref (kx 1), .ref (kx 2), .ref (kx 3), .ref (kx 4), .ref (kx 5)])), ((kx 1), .inr (6, [.ref (fo 0), .ref (fo 1), .ref (fo 2), .ref (fo 3), .int z0])), ((fo 0), .inl (cB, (30 * 1), .inl (ow_nI B0))), ((fo 1), .inl (cB, 1, .inl (ow_nI L0))), ((kx 3), .inl (cB, 48, .inl (ow_nI t0))), ((kx 4), .inl (cI, 12, .inl (ow_nI (fun k => if k < 12 then 0 else M0 k)))), ((kx 5), .inl (cI, 12, .inl (ow_nI N0))), (aX, .inr (10, [.ref (nx 0), .ref (nx 1), .ref (nx 2), .ref (nx 3), .ref (nx 4), .ref (nx 5), .ref (nx 6), .int x7, .int x8, .int x9, .int x10])), ((nx 0), .inl (cI, 24, .inl (ow_nI S.1))), ((nx 2), .inl (cI, 12, .inl G))] := by rw [hfl] at hD; exact hD
  refine lv_aload_n hx hb dgX2_tryFrom_8 rfl (lv_at hl 0 rfl) ?_
  refine va_get (D := (dC, dI)) (ci := 5) (v := .ref (kx 1)) (C := RX2) (T := TX2) (N := 6) hx hb hts (fun _ h => List.mem_cons_of_mem _ (List.mem_append_left _ (List.mem_append_left _ (List.mem_append_left _ (List.mem_append_right _ h))))) hown hK hP 0 rfl rfl 1 (by decide) (hts (.fieldLink RX2 20 "KnotHouse$Coder" "one" "LKnotHouse$Codes;") (by decide +kernel)) (fun _ h9 => h9) rfl dgX2_tryFrom_9 ?_
  refine va_get (D := (dC, dI)) (ci := 6) (v := .ref (fo 0)) (C := RX3) (T := TX3) (N := 5) hx hb hts (fun _ h => List.mem_cons_of_mem _ (List.mem_append_left _ (List.mem_append_left _ (List.mem_append_right _ h)))) hown hK hP 1 rfl rfl 0 (by decide) (hts (.fieldLink RX2 51 "KnotHouse$Codes" "cells" "[B") (by decide +kernel)) (fun _ h9 => h9) rfl dgX2_tryFrom_12 ?_
  refine lv_astore_n (lv' := [(3, .ref (fo 0)), (0, .ref aK), (1, .ref aX), (2, .int (nI v0))]) hx hb dgX2_tryFrom_15 rfl hl (by decide) rfl (fun ls hl => ?_)
  refine lv_aload_n hx hb dgX2_tryFrom_16 rfl (lv_at hl 1 rfl) ?_
  refine va_get (D := (dC, dI)) (ci := 5) (v := .ref (kx 1)) (C := RX2) (T := TX2) (N := 6) hx hb hts (fun _ h => List.mem_cons_of_mem _ (List.mem_append_left _ (List.mem_append_left _ (List.mem_append_left _ (List.mem_append_right _ h))))) hown hK hP 0 rfl rfl 1 (by decide) (hts (.fieldLink RX2 20 "KnotHouse$Coder" "one" "LKnotHouse$Codes;") (by decide +kernel)) (fun _ h9 => h9) rfl dgX2_tryFrom_17 ?_
  refine va_get (D := (dC, dI)) (ci := 6) (v := .ref (fo 1)) (C := RX3) (T := TX3) (N := 5) hx hb hts (fun _ h => List.mem_cons_of_mem _ (List.mem_append_left _ (List.mem_append_left _ (List.mem_append_right _ h)))) hown hK hP 1 rfl rfl 1 (by decide) (hts (.fieldLink RX2 48 "KnotHouse$Codes" "lengths" "[B") (by decide +kernel)) (fun _ h9 => h9) rfl dgX2_tryFrom_20 ?_
  refine lv_iconst (v := 0) hx hb dgX2_tryFrom_23 (by decide) ?_
  refine ow_topi (y := nI 0) (by decide) ?_
  refine va_bald hx hb hK hP 3 1 rfl rfl (vp_in_nI (n := 0) (N := 1) (by decide) (by decide)) dgX2_tryFrom_24 ?_
  refine ow_topi (y := nI (L0 0)) (ow_nI_at L0 (Nat.lt_trans (m := 1) (by decide) (by decide))) ?_
  rcases Nat.eq_zero_or_pos (L0 0) with hz | hz
  · refine lv_if_le (tgt := 32) hx hb dgX2_tryFrom_25 (by decide) (fun _ => ?_) (fun c9 => absurd (by rw [hz]; decide) c9)
    refine lv_iconst (v := 0) hx hb dgX2_tryFrom_32 (by decide) ?_
    refine lv_istore (lv' := [(4, .int 0), (3, .ref (fo 0)), (0, .ref aK), (1, .ref aX), (2, .int (nI v0))]) hx hb dgX2_tryFrom_33 hl (by decide) rfl (fun ls hl => ?_)
    refine lv_iconst (v := 0) hx hb dgX2_tryFrom_35 (by decide) ?_
    refine ow_topi (y := nI 0) (by decide) ?_
    refine lv_istore (lv' := [(5, .int (nI 0)), (4, .int 0), (3, .ref (fo 0)), (0, .ref aK), (1, .ref aX), (2, .int (nI v0))]) hx hb dgX2_tryFrom_36 hl (by decide) rfl (fun ls hl => ?_)
    refine lv_iconst (v := 0) hx hb dgX2_tryFrom_38 (by decide) ?_
    refine ow_topi (y := nI 0) (by decide) ?_
    refine lv_istore (lv' := [(6, .int (nI 0)), (5, .int (nI 0)), (4, .int 0), (3, .ref (fo 0)), (0, .ref aK), (1, .ref aX), (2, .int (nI v0))]) hx hb dgX2_tryFrom_39 hl (by decide) rfl (fun ls hl => ?_)
    refine lv_iconst (v := 0) hx hb dgX2_tryFrom_41 (by decide) ?_
    refine ow_topi (y := nI 0) (by decide) ?_
    refine lv_istore (lv' := [(7, .int (nI 0)), (6, .int (nI 0)), (5, .int (nI 0)), (4, .int 0), (3, .ref (fo 0)), (0, .ref aK), (1, .ref aX), (2, .int (nI v0))]) hx hb dgX2_tryFrom_42 hl (by decide) rfl (fun ls hl => ?_)
    refine lv_iconst (v := 0) hx hb dgX2_tryFrom_44 (by decide) ?_
    refine ow_topi (y := nI 0) (by decide) ?_
    refine lv_istore (lv' := [(8, .int (nI 0)), (7, .int (nI 0)), (6, .int (nI 0)), (5, .int (nI 0)), (4, .int 0), (3, .ref (fo 0)), (0, .ref aK), (1, .ref aX), (2, .int (nI v0))]) hx hb dgX2_tryFrom_45 hl (by decide) rfl (fun ls hl => ?_)
    refine lv_iload_n hx hb dgX2_tryFrom_47 rfl (lv_at hl 8 rfl) ?_
    refine lv_istore (lv' := [(9, .int (nI v0)), (8, .int (nI 0)), (7, .int (nI 0)), (6, .int (nI 0)), (5, .int (nI 0)), (4, .int 0), (3, .ref (fo 0)), (0, .ref aK), (1, .ref aX), (2, .int (nI v0))]) hx hb dgX2_tryFrom_48 hl (by decide) rfl (fun ls hl => ?_)
    refine lv_iconst (v := 0) hx hb dgX2_tryFrom_50 (by decide) ?_
    refine ow_topi (y := nI 0) (by decide) ?_
    refine lv_istore (lv' := [(10, .int (nI 0)), (9, .int (nI v0)), (8, .int (nI 0)), (7, .int (nI 0)), (6, .int (nI 0)), (5, .int (nI 0)), (4, .int 0), (3, .ref (fo 0)), (0, .ref aK), (1, .ref aX), (2, .int (nI v0))]) hx hb dgX2_tryFrom_51 hl (by decide) rfl (fun ls hl => ?_)
    exact L53 24 0 (some v0) 0 tf_0 0 (nI v0) t0 (fun k => if k < 12 then 0 else M0 k) N0 (by omega) rfl tf_ok_0 (Nat.zero_le _) (Or.inr ⟨rfl, Or.inl hz⟩) ⟨fun k hk => absurd hk (Nat.not_lt_zero k), ht0⟩ (fun k hk => if_pos hk) (fun k hk => absurd hk (Nat.not_lt_zero k)) (Or.inr ⟨v0, rfl, rfl, hv0⟩) H locs ls hP hD hS (lv_sub hl [8, 9, 7, 6, 5, 4, 3, 2, 1, 0] rfl)
  · refine lv_if_le (tgt := 32) hx hb dgX2_tryFrom_25 (by decide) (fun c9 => absurd c9 (Int32.not_le.mpr (nI_lt (a := 0) (b := L0 0) hz (by omega)))) (fun _ => ?_)
    refine lv_iconst (v := 1) hx hb dgX2_tryFrom_28 (by decide) ?_
    refine lv_goto (tgt := 33) hx hb dgX2_tryFrom_29 (by decide) ?_
    refine lv_istore (lv' := [(4, .int 1), (3, .ref (fo 0)), (0, .ref aK), (1, .ref aX), (2, .int (nI v0))]) hx hb dgX2_tryFrom_33 hl (by decide) rfl (fun ls hl => ?_)
    refine lv_iconst (v := 0) hx hb dgX2_tryFrom_35 (by decide) ?_
    refine ow_topi (y := nI 0) (by decide) ?_
    refine lv_istore (lv' := [(5, .int (nI 0)), (4, .int 1), (3, .ref (fo 0)), (0, .ref aK), (1, .ref aX), (2, .int (nI v0))]) hx hb dgX2_tryFrom_36 hl (by decide) rfl (fun ls hl => ?_)
    refine lv_iconst (v := 0) hx hb dgX2_tryFrom_38 (by decide) ?_
    refine ow_topi (y := nI 0) (by decide) ?_
    refine lv_istore (lv' := [(6, .int (nI 0)), (5, .int (nI 0)), (4, .int 1), (3, .ref (fo 0)), (0, .ref aK), (1, .ref aX), (2, .int (nI v0))]) hx hb dgX2_tryFrom_39 hl (by decide) rfl (fun ls hl => ?_)
    refine lv_iconst (v := 0) hx hb dgX2_tryFrom_41 (by decide) ?_
    refine ow_topi (y := nI 0) (by decide) ?_
    refine lv_istore (lv' := [(7, .int (nI 0)), (6, .int (nI 0)), (5, .int (nI 0)), (4, .int 1), (3, .ref (fo 0)), (0, .ref aK), (1, .ref aX), (2, .int (nI v0))]) hx hb dgX2_tryFrom_42 hl (by decide) rfl (fun ls hl => ?_)
    refine lv_iconst (v := 0) hx hb dgX2_tryFrom_44 (by decide) ?_
    refine ow_topi (y := nI 0) (by decide) ?_
    refine lv_istore (lv' := [(8, .int (nI 0)), (7, .int (nI 0)), (6, .int (nI 0)), (5, .int (nI 0)), (4, .int 1), (3, .ref (fo 0)), (0, .ref aK), (1, .ref aX), (2, .int (nI v0))]) hx hb dgX2_tryFrom_45 hl (by decide) rfl (fun ls hl => ?_)
    refine lv_iload_n hx hb dgX2_tryFrom_47 rfl (lv_at hl 8 rfl) ?_
    refine lv_istore (lv' := [(9, .int (nI v0)), (8, .int (nI 0)), (7, .int (nI 0)), (6, .int (nI 0)), (5, .int (nI 0)), (4, .int 1), (3, .ref (fo 0)), (0, .ref aK), (1, .ref aX), (2, .int (nI v0))]) hx hb dgX2_tryFrom_48 hl (by decide) rfl (fun ls hl => ?_)
    refine lv_iconst (v := 0) hx hb dgX2_tryFrom_50 (by decide) ?_
    refine ow_topi (y := nI 0) (by decide) ?_
    refine lv_istore (lv' := [(10, .int (nI 0)), (9, .int (nI v0)), (8, .int (nI 0)), (7, .int (nI 0)), (6, .int (nI 0)), (5, .int (nI 0)), (4, .int 1), (3, .ref (fo 0)), (0, .ref aK), (1, .ref aX), (2, .int (nI v0))]) hx hb dgX2_tryFrom_51 hl (by decide) rfl (fun ls hl => ?_)
    exact L53 24 0 (some v0) 0 tf_0 1 (nI v0) t0 (fun k => if k < 12 then 0 else M0 k) N0 (by omega) rfl tf_ok_0 (Nat.zero_le _) (Or.inl ⟨rfl, hz, fun k hk => absurd hk (Nat.not_lt_zero k)⟩) ⟨fun k hk => absurd hk (Nat.not_lt_zero k), ht0⟩ (fun k hk => if_pos hk) (fun k hk => absurd hk (Nat.not_lt_zero k)) (Or.inr ⟨v0, rfl, rfl, hv0⟩) H locs ls hP hD hS (lv_sub hl [8, 9, 7, 6, 5, 4, 3, 2, 1, 0] rfl)
