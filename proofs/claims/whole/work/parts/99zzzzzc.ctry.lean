/-! the class: Coder.tryFrom -/
theorem cd_first_lt (G : Nat → Int32) (v : Nat) : 4 ≤ cd_first G v ∧ cd_first G v < 8 := by
  unfold cd_first
  split <;> omega
def tf_rest (G : Nat → Int32) (N : Nat → Nat) (d k : Nat) (P : tf_P) : tf_P := tf_out G N d (tf_look (tf_sep P) ((tf_sep P).names - k) k).1 (tf_look (tf_sep P) ((tf_sep P).names - k) k).2 (tf_sep P)
/-- the cells so far stay -/
def tf_ext (P Q : tf_P) : Prop := P.len ≤ Q.len ∧ ∀ j, j < P.len → Q.T j = P.T j
theorem tf_ext_rf (P : tf_P) : tf_ext P P := ⟨Nat.le_refl _, fun _ _ => rfl⟩
theorem tf_ext_tr {P Q R : tf_P} (h : tf_ext P Q) (k : tf_ext Q R) : tf_ext P R := ⟨Nat.le_trans h.1 k.1, fun j hj => (k.2 j (Nat.lt_of_lt_of_le hj h.1)).trans (h.2 j hj)⟩
theorem tf_vis_ext (G : Nat → Int32) (P : tf_P) (v : Nat) : tf_ext P (tf_vis G P v) := ⟨Nat.le_succ _, fun j hj => nu_ne _ _ (by omega)⟩
theorem tf_sep_ext (P : tf_P) : tf_ext P (tf_sep P) := ⟨Nat.le_succ _, fun j hj => nu_ne _ _ (by omega)⟩
theorem tf_ring_ext (G : Nat → Int32) (N : Nat → Nat) (f : Nat) : ∀ (d v : Nat) (P : tf_P), tf_ext P (tf_ring G N f d v P) := by
  intro d
  induction d with
  | zero => intro v P; exact tf_ext_rf P
  | succ d ih =>
    intro v P
    rw [tf_ring]
    split
    · exact tf_vis_ext G P v
    · exact tf_ext_tr (tf_vis_ext G P v) (ih _ _)
theorem tf_out_ext (G : Nat → Int32) (N : Nat → Nat) : ∀ (d : Nat) (f : Option Nat) (k : Nat) (P : tf_P), tf_ext P (tf_out G N d f k P) := by
  intro d
  induction d with
  | zero => intro f k P; exact tf_ext_rf P
  | succ d ih =>
    intro f k P
    cases f with
    | none => exact tf_ext_rf P
    | some f => exact tf_ext_tr (tf_ext_tr (tf_ring_ext G N f 24 f P) (tf_sep_ext _)) (ih _ _ _)
theorem tf_rest_ext (G : Nat → Int32) (N : Nat → Nat) (d k : Nat) (P : tf_P) : tf_ext (tf_sep P) (tf_rest G N d k P) := tf_out_ext _ _ _ _ _ _
/-- how many places are 0 -/
def cntZ (M : Nat → Nat) : Nat → Nat
  | 0 => 0
  | n + 1 => cntZ M n + (if M n = 0 then 1 else 0)
theorem cntZ_nu {M : Nat → Nat} {j w : Nat} : ∀ n, (j < n → M j = 0 → 0 < w → cntZ (nu M j w) n + 1 = cntZ M n) ∧ (n ≤ j → cntZ (nu M j w) n = cntZ M n) := by
  intro n
  induction n with
  | zero => exact ⟨fun h => absurd h (Nat.not_lt_zero _), fun _ => rfl⟩
  | succ n ih =>
    constructor
    · intro h h0 hw
      show cntZ (nu M j w) n + (if nu M j w n = 0 then 1 else 0) + 1 = cntZ M n + (if M n = 0 then 1 else 0)
      by_cases e : n = j
      · rw [show nu M j w n = w from by rw [e, nu_same], if_neg (by omega), show M n = 0 from by rw [e]; exact h0, if_pos rfl, ih.2 (by omega)]
      · rw [nu_ne _ _ e, ← ih.1 (by omega) h0 hw]; omega
    · intro h
      show cntZ (nu M j w) n + (if nu M j w n = 0 then 1 else 0) = cntZ M n + (if M n = 0 then 1 else 0)
      rw [ih.2 (by omega), nu_ne _ _ (by omega : n ≠ j)]
def tf_ok (P : tf_P) : Prop := (∀ k, P.num k ≤ P.names) ∧ P.names + cntZ P.num 12 ≤ 12 ∧ (∀ k, P.nam k < 12) ∧ P.gone < 2 ^ 24
theorem tf_ok_0 : tf_ok tf_0 := ⟨fun _ => Nat.le_refl 0, by decide, fun _ => Nat.succ_pos 11, by decide⟩
theorem tf_name_ok {P : tf_P} {x : Nat} (h : tf_ok P) (hx : x < 12) : tf_ok (tf_name P x) ∧ 0 < (tf_name P x).num x := by
  unfold tf_name
  split
  · rename_i h0
    have hc := (cntZ_nu (M := P.num) (j := x) (w := P.names + 1) 12).1 hx h0 (Nat.succ_pos _)
    have h2 := h.2.1
    refine ⟨⟨fun k => ?_, ?_, fun k => ?_, h.2.2.2⟩, ?_⟩
    · show (if k = x then P.names + 1 else P.num k) ≤ P.names + 1
      split
      · exact Nat.le_refl _
      · exact Nat.le_succ_of_le (h.1 k)
    · show P.names + 1 + cntZ (nu P.num x (P.names + 1)) 12 ≤ 12
      omega
    · show (if k = P.names then x else P.nam k) < 12
      split
      · exact hx
      · exact h.2.2.1 k
    · show 0 < nu P.num x (P.names + 1) x
      rw [nu_same]; exact Nat.succ_pos _
  · rename_i h0
    exact ⟨h, Nat.pos_of_ne_zero h0⟩
theorem tf_name_lt {P : tf_P} {x : Nat} (h : tf_ok P) (hx : x < 12) (h0 : P.num x = 0) : P.names < 12 := by
  have hc := (cntZ_nu (M := P.num) (j := x) (w := 1) 12).1 hx h0 (Nat.succ_pos _)
  have h2 := h.2.1
  omega
theorem tf_vis_ok {G : Nat → Int32} {P : tf_P} {v : Nat} (h : tf_ok P) (hv : v < 24) : tf_ok (tf_vis G P v) := by
  have hn := (tf_name_ok (x := v / 2) h (by omega)).1
  exact ⟨hn.1, hn.2.1, hn.2.2.1, Nat.or_lt_two_pow h.2.2.2 (Nat.pow_lt_pow_right (by decide) hv)⟩
theorem tf_cell_lt {G : Nat → Int32} {P : tf_P} {v : Nat} (h : tf_ok P) (hv : v < 24) : tf_cell G P v < 128 := by
  have hn := (tf_name_ok (x := v / 2) h (by omega)).1
  have h1 := hn.1 (v / 2)
  have h2 := hn.2.1
  have h3 := cd_first_lt G v
  unfold tf_cell
  omega
theorem tf_sep_ok {P : tf_P} (h : tf_ok P) : tf_ok (tf_sep P) := h
theorem tf_ok_le {P : tf_P} (h : tf_ok P) : P.names ≤ 12 := by
  have := h.2.1
  omega
/-- the first cell that differs is less -/
def cd_lt (K B : Nat → Nat) (n : Nat) : Prop := ∃ j, j < n ∧ K j < B j ∧ ∀ i, i < j → K i = B i
theorem cd_lt_no {K B : Nat → Nat} {n k : Nat} (h : ∀ i, i < k → K i = B i) (h2 : n ≤ k ∨ B k < K k) : ¬ cd_lt K B n := by
  intro ⟨j, hj, hlt, hb⟩
  rcases Nat.lt_trichotomy j k with q | q | q
  · have := h j q
    omega
  · rw [q] at hlt hj
    omega
  · have := hb k q
    omega
/-- what 'tied' says -/
def tf_td (B : Nat → Nat) (l0 : Nat) (P : tf_P) (x : Int32) : Prop := (x = 1 ∧ 0 < l0 ∧ ∀ j, j < P.len → P.T j = B j) ∨ (x = 0 ∧ (l0 = 0 ∨ cd_lt P.T B P.len))
theorem cd_lt_up {K Q B : Nat → Nat} {n m : Nat} (h : cd_lt K B n) (hm : n ≤ m) (hq : ∀ j, j < n → Q j = K j) : cd_lt Q B m := by
  obtain ⟨j, hj, hl, hb⟩ := h
  exact ⟨j, Nat.lt_of_lt_of_le hj hm, by rw [hq j hj]; exact hl, fun i hi => (hq i (Nat.lt_trans hi hj)).trans (hb i hi)⟩
theorem tf_td_0 (B : Nat → Nat) {l0 : Nat} (P : tf_P) (h : P.len = 0) : tf_td B l0 P (if 0 < l0 then 1 else 0) := by
  split
  · rename_i q
    exact Or.inl ⟨rfl, q, fun j hj => absurd hj (by omega)⟩
  · exact Or.inr ⟨rfl, Or.inl (by omega)⟩
/-- one cell more: the tie goes on or the row is less -/
theorem tf_td_s {B : Nat → Nat} {l0 : Nat} {P Q : tf_P} {x : Int32} (h : tf_td B l0 P x) (he : tf_ext P Q) (hl : Q.len = P.len + 1) (hn : x = 1 → Q.T P.len ≤ B P.len) : tf_td B l0 Q (if x = 1 ∧ Q.T P.len = B P.len then 1 else 0) := by
  rcases h with ⟨hx, h0, h1⟩ | ⟨hx, h1⟩
  · have hle := hn hx
    by_cases e : Q.T P.len = B P.len
    · rw [if_pos ⟨hx, e⟩]
      refine Or.inl ⟨rfl, h0, fun j hj => ?_⟩
      rcases Nat.lt_or_ge j P.len with q | q
      · rw [he.2 j q]; exact h1 j q
      · have : j = P.len := by omega
        rw [this]; exact e
    · rw [if_neg (fun q => e q.2)]
      exact Or.inr ⟨rfl, Or.inr ⟨P.len, by omega, by omega, fun i hi => (he.2 i hi).trans (h1 i hi)⟩⟩
  · rw [if_neg (fun q => by rw [hx] at q; exact absurd q.1 (by decide))]
    refine Or.inr ⟨rfl, ?_⟩
    rcases h1 with h1 | h1
    · exact Or.inl h1
    · exact Or.inr (cd_lt_up h1 he.1 he.2)
theorem ow_shlb {v : Nat} (hv : v < 24) : (1 : Int32) <<< (nI v &&& 31) = nI (2 ^ v) := by
  have key : ∀ i : Fin 24, (1 : Int32) <<< (nI i.1 &&& 31) = nI (2 ^ i.1) := by decide +kernel
  exact key ⟨v, hv⟩
theorem ow_shrb {n v : Nat} (hn : n < 2 ^ 31) (hv : v < 32) : nI n >>> (nI v &&& 31) = nI (n / 2 ^ v) := by
  have key : ∀ i : Fin 32, ((nI i.1 &&& 31).toBitVec.smod 32).toNat = i.1 := by decide +kernel
  exact pk_shrN hn _ v (key ⟨v, hv⟩)
theorem ow_or {a b : Nat} (ha : a < 2 ^ 32) (hb : b < 2 ^ 32) : nI a ||| nI b = nI (a ||| b) := by
  apply Int32.toBitVec_inj.mp
  apply BitVec.eq_of_toNat_eq
  rw [Int32.toBitVec_or, BitVec.toNat_or, pk_tn ha, pk_tn hb, pk_tn (Nat.or_lt_two_pow ha hb)]
/-- two rows agree on their first n places -/
def ag (n : Nat) (M P : Nat → Nat) : Prop := ∀ k, k < n → M k = P k
theorem ag_nus {n : Nat} {M P : Nat → Nat} (h : ag n M P) (w : Nat) : ag (n + 1) (nu M n w) (nu P n w) := by
  intro k hk
  show (if k = n then w else M k) = if k = n then w else P k
  split
  · rfl
  · exact h k (by omega)
theorem tf_code_pos (G : Nat → Int32) (N : Nat → Nat) (v : Nat) : 0 < (tf_code G N v).len := Nat.lt_of_lt_of_le (Nat.succ_pos _) (tf_rest_ext G N 23 0 (tf_ring G N v 24 v tf_0)).1
/-- the two coders -/
def kH (k : Nat) : Prop := k = 7000 ∨ k = 20000
theorem kH_4 {vl : Nat → Nat} {k : Nat} (h : kH k) : ((cX vl).2 (k + 4)).2.1 = 48 := by
  rcases h with rfl | rfl <;> rfl
theorem kH_5 {vl : Nat → Nat} {k : Nat} (h : kH k) : ((cX vl).2 (k + 5)).2.1 = 12 := by
  rcases h with rfl | rfl <;> rfl
theorem kH_6 {vl : Nat → Nat} {k : Nat} (h : kH k) : ((cX vl).2 (k + 6)).2.1 = 12 := by
  rcases h with rfl | rfl <;> rfl
theorem kH_out {k : Nat} (h : kH k) : tH (k + 1000) 1 := by
  rcases h with rfl | rfl <;> (unfold tH; decide)
theorem kH_one {k : Nat} (h : kH k) : tH (k + 2000) 1 := by
  rcases h with rfl | rfl <;> (unfold tH; decide)
theorem kH_sort {k : Nat} (h : kH k) : tH (k + 3000) 12 := by
  rcases h with rfl | rfl <;> (unfold tH; decide)
theorem kH_dj {k h : Nat} (hk : kH k) (hh : nH h) : h + 12 ≤ k ∨ k + 3012 ≤ h := by
  rcases hk with rfl | rfl
  · exact nH_all (P := fun h => h + 12 ≤ 7000 ∨ 7000 + 3012 ≤ h) (by decide) hh
  · exact nH_all (P := fun h => h + 12 ≤ 20000 ∨ 20000 + 3012 ≤ h) (by decide) hh
def tfP (k g : Nat) : Prop := k + 4 ≤ g ∧ g ≤ k + 6
theorem cell64 {G : Nat → Int32} {P : tf_P} {v : Nat} (h : tf_ok P) (hv : v < 24) : tf_cell G P v < 64 := by
  have hn := (tf_name_ok (x := v / 2) h (by omega)).1
  have h1 := hn.1 (v / 2)
  have h2 := hn.2.1
  have h3 := first_b (G := G) (v := v)
  unfold tf_cell
  omega
theorem i2b64 : ∀ w : Fin 64, vp_nar .byte (nI w.1).toInt8.toInt32 = nI w.1 ∧ (nI w.1).toInt8.toInt32 = nI w.1 := by decide +kernel
theorem gbit {g v : Nat} (hg : g < 2 ^ 24) (hv : v < 24) : (nI g >>> (nI v &&& 31)) &&& 1 = nI (g / 2 ^ v % 2) := by
  have hq : g / 2 ^ v < 2 ^ 24 := Nat.lt_of_le_of_lt (Nat.div_le_self _ _) hg
  rw [ow_shrb (by omega) (by omega)]
  apply Int32.toBitVec_inj.mp
  apply BitVec.eq_of_toNat_eq
  rw [Int32.toBitVec_and, BitVec.toNat_and, pk_tn (by omega), pk_tn (by omega)]
  exact Nat.and_one_is_mod _
section CT
variable {vl : Nat → Nat} {y : ow_MS} {h k : Nat} {T : ow_NT}
theorem u_J7_fill_53178_1 {vl : Nat → Nat} {x1 : Int32} {x2 : Int32} {x3 : Int32} {r0 : Nat} {z : ow_MS} {Q : ow_MS → Prop} (H : Tt (fun K k => cm_J7_fill_53178_1 vl K (c_J7_fill_53178 vl K k) x1 x2 x3 r0 z) Q) : Tt (fun K k => c_J7_fill_53178 vl K k 1 x1 x2 x3 r0 z) Q := w_un (fun _ _ => rfl) H
theorem e_J7_fill_53178 {vl : Nat → Nat} {r0 : Nat} {x1 : Int32} {z : ow_MS} {Q : ow_MS → Prop} (H : Tt (fun K k => c_J7_fill_53178 vl K k 0 x1 0 0 r0 z) Q) : Te (fun K => ce_J7_fill_53178 vl K r0 x1 z) Q := w_te H
theorem u_J7_fill_53178_0 {vl : Nat → Nat} {x1 : Int32} {x2 : Int32} {x3 : Int32} {r0 : Nat} {z : ow_MS} {Q : ow_MS → Prop} (H : Tt (fun K k => cm_J7_fill_53178_0 vl K (c_J7_fill_53178 vl K k) x1 x2 x3 r0 z) Q) : Tt (fun K k => c_J7_fill_53178 vl K k 0 x1 x2 x3 r0 z) Q := w_un (fun _ _ => rfl) H
theorem tc_fillA {g l : Nat} {x : Int32} (hL : ((cX vl).2 g).2.1 = l) (hl : l < 2 ^ 31) : Te (fun K => ce_J7_fill_53178 vl K g x y) (fun y1 => (∀ j, j < l → y1.2.1 g j = x) ∧ fr (fun q => q = g) y y1) := by
  let Q : ow_MS → Prop := fun y1 => (∀ j, j < l → y1.2.1 g j = x) ∧ fr (fun q => q = g) y y1
  have c1 : ∀ (d i : Nat) (y1 : ow_MS), i + d = l → (∀ j, j < i → y1.2.1 g j = x) → fr (fun q => q = g) y y1 → Tt (fun K t => c_J7_fill_53178 vl K t 1 x (nI i) (nI l) g y1) Q := by
    intro d
    induction d with
    | zero =>
      intro i y1 hi h1 h2
      refine u_J7_fill_53178_1 ?_; unfold cm_J7_fill_53178_1
      exact w_leT (by omega) (by omega) (w_some ⟨fun j hj => h1 j (by omega), h2⟩)
    | succ d ih =>
      intro i y1 hi h1 h2
      refine u_J7_fill_53178_1 ?_; unfold cm_J7_fill_53178_1
      refine w_leF (by omega) (by omega) (w_ctI hL rfl (by omega) ?_)
      rw [nI_1]
      refine ih (i + 1) _ (by omega) (fun j hj => ?_) (fr_I2 h2 rfl)
      by_cases e : j = i
      · rw [e]; exact po_usI_at
      · exact rd_ne e (h1 j (by omega))
  refine e_J7_fill_53178 ?_
  refine u_J7_fill_53178_0 ?_; unfold cm_J7_fill_53178_0
  rw [show uw_len (cX vl) y g = l from hL]
  exact c1 l 0 y (by omega) (fun j hj => absurd hj (by omega)) fr_rf
/-- the rows of a coder while it goes on -/
def tfS (y : ow_MS) (k : Nat) (z : ow_MS) (P : tf_P) : Prop := (∀ x, x < 12 → z.2.1 (k + 5) x = nI (P.num x)) ∧ (∀ j, j < P.names → z.2.1 (k + 6) j = nI (P.nam j)) ∧ (∀ j, j < P.len → z.2.1 (k + 4) j = nI (P.T j)) ∧ fr (tfP k) y z
def tfR (y : ow_MS) (k : Nat) (C : tf_P) (B : Nat → Nat) (l0 : Nat) (r : Int32 × ow_MS) : Prop := fr (tfP k) y r.2 ∧ ((r.1 = nI C.len ∧ (∀ j, j < C.len → r.2.2.1 (k + 4) j = nI (C.T j)) ∧ (l0 = 0 ∨ cd_lt C.T B C.len)) ∨ (r.1 = 0 ∧ 0 < l0 ∧ ¬ cd_lt C.T B C.len))
def oNI : Option Nat → Int32
  | none => -1
  | some f => nI f
theorem tf_look_b {P : tf_P} (hn : ∀ j, P.nam j < 12) : ∀ (d j f : Nat), (tf_look P d j).1 = some f → f < 24
  | 0, j, f => fun e => by cases e
  | d + 1, j, f => by
    have := hn j
    rw [tf_look]
    split
    · intro e; cases e; omega
    · split
      · intro e; cases e; omega
      · exact tf_look_b hn d (j + 1) f
theorem tf_look_le {P : tf_P} : ∀ (d j : Nat), (tf_look P d j).2 ≤ j + d
  | 0, j => Nat.le_refl _
  | d + 1, j => by
    rw [tf_look]
    split
    · show j + 1 ≤ _
      omega
    · split
      · show j + 1 ≤ _
        omega
      · have := tf_look_le (P := P) d (j + 1)
        omega
theorem u_X2_tryFrom_14 {vl : Nat → Nat} {x2 : Int32} {x4 : Int32} {x5 : Int32} {x6 : Int32} {x7 : Int32} {x8 : Int32} {x9 : Int32} {x10 : Int32} {x11 : Int32} {x12 : Int32} {x13 : Int32} {x14 : Int32} {r0 : Nat} {r1 : Nat} {r3 : Nat} {t0 : Int32} {z : ow_MS} {Q : (Int32 × ow_MS) → Prop} (H : Tt (fun K k => cm_X2_tryFrom_14 vl K (c_X2_tryFrom vl K k) x2 x4 x5 x6 x7 x8 x9 x10 x11 x12 x13 x14 r0 r1 r3 t0 z) Q) : Tt (fun K k => c_X2_tryFrom vl K k 14 x2 x4 x5 x6 x7 x8 x9 x10 x11 x12 x13 x14 r0 r1 r3 t0 z) Q := w_un (fun _ _ => rfl) H
theorem u_X2_tryFrom_2 {vl : Nat → Nat} {x2 : Int32} {x4 : Int32} {x5 : Int32} {x6 : Int32} {x7 : Int32} {x8 : Int32} {x9 : Int32} {x10 : Int32} {x11 : Int32} {x12 : Int32} {x13 : Int32} {x14 : Int32} {r0 : Nat} {r1 : Nat} {r3 : Nat} {t0 : Int32} {z : ow_MS} {Q : (Int32 × ow_MS) → Prop} (H : Tt (fun K k => cm_X2_tryFrom_2 vl K (c_X2_tryFrom vl K k) x2 x4 x5 x6 x7 x8 x9 x10 x11 x12 x13 x14 r0 r1 r3 t0 z) Q) : Tt (fun K k => c_X2_tryFrom vl K k 2 x2 x4 x5 x6 x7 x8 x9 x10 x11 x12 x13 x14 r0 r1 r3 t0 z) Q := w_un (fun _ _ => rfl) H
theorem u_X2_tryFrom_11 {vl : Nat → Nat} {x2 : Int32} {x4 : Int32} {x5 : Int32} {x6 : Int32} {x7 : Int32} {x8 : Int32} {x9 : Int32} {x10 : Int32} {x11 : Int32} {x12 : Int32} {x13 : Int32} {x14 : Int32} {r0 : Nat} {r1 : Nat} {r3 : Nat} {t0 : Int32} {z : ow_MS} {Q : (Int32 × ow_MS) → Prop} (H : Tt (fun K k => cm_X2_tryFrom_11 vl K (c_X2_tryFrom vl K k) x2 x4 x5 x6 x7 x8 x9 x10 x11 x12 x13 x14 r0 r1 r3 t0 z) Q) : Tt (fun K k => c_X2_tryFrom vl K k 11 x2 x4 x5 x6 x7 x8 x9 x10 x11 x12 x13 x14 r0 r1 r3 t0 z) Q := w_un (fun _ _ => rfl) H
theorem u_X2_tryFrom_13 {vl : Nat → Nat} {x2 : Int32} {x4 : Int32} {x5 : Int32} {x6 : Int32} {x7 : Int32} {x8 : Int32} {x9 : Int32} {x10 : Int32} {x11 : Int32} {x12 : Int32} {x13 : Int32} {x14 : Int32} {r0 : Nat} {r1 : Nat} {r3 : Nat} {t0 : Int32} {z : ow_MS} {Q : (Int32 × ow_MS) → Prop} (H : Tt (fun K k => cm_X2_tryFrom_13 vl K (c_X2_tryFrom vl K k) x2 x4 x5 x6 x7 x8 x9 x10 x11 x12 x13 x14 r0 r1 r3 t0 z) Q) : Tt (fun K k => c_X2_tryFrom vl K k 13 x2 x4 x5 x6 x7 x8 x9 x10 x11 x12 x13 x14 r0 r1 r3 t0 z) Q := w_un (fun _ _ => rfl) H
theorem u_X2_tryFrom_12 {vl : Nat → Nat} {x2 : Int32} {x4 : Int32} {x5 : Int32} {x6 : Int32} {x7 : Int32} {x8 : Int32} {x9 : Int32} {x10 : Int32} {x11 : Int32} {x12 : Int32} {x13 : Int32} {x14 : Int32} {r0 : Nat} {r1 : Nat} {r3 : Nat} {t0 : Int32} {z : ow_MS} {Q : (Int32 × ow_MS) → Prop} (H : Tt (fun K k => cm_X2_tryFrom_12 vl K (c_X2_tryFrom vl K k) x2 x4 x5 x6 x7 x8 x9 x10 x11 x12 x13 x14 r0 r1 r3 t0 z) Q) : Tt (fun K k => c_X2_tryFrom vl K k 12 x2 x4 x5 x6 x7 x8 x9 x10 x11 x12 x13 x14 r0 r1 r3 t0 z) Q := w_un (fun _ _ => rfl) H
theorem u_X2_tryFrom_10 {vl : Nat → Nat} {x2 : Int32} {x4 : Int32} {x5 : Int32} {x6 : Int32} {x7 : Int32} {x8 : Int32} {x9 : Int32} {x10 : Int32} {x11 : Int32} {x12 : Int32} {x13 : Int32} {x14 : Int32} {r0 : Nat} {r1 : Nat} {r3 : Nat} {t0 : Int32} {z : ow_MS} {Q : (Int32 × ow_MS) → Prop} (H : Tt (fun K k => cm_X2_tryFrom_10 vl K (c_X2_tryFrom vl K k) x2 x4 x5 x6 x7 x8 x9 x10 x11 x12 x13 x14 r0 r1 r3 t0 z) Q) : Tt (fun K k => c_X2_tryFrom vl K k 10 x2 x4 x5 x6 x7 x8 x9 x10 x11 x12 x13 x14 r0 r1 r3 t0 z) Q := w_un (fun _ _ => rfl) H
theorem u_X2_tryFrom_9 {vl : Nat → Nat} {x2 : Int32} {x4 : Int32} {x5 : Int32} {x6 : Int32} {x7 : Int32} {x8 : Int32} {x9 : Int32} {x10 : Int32} {x11 : Int32} {x12 : Int32} {x13 : Int32} {x14 : Int32} {r0 : Nat} {r1 : Nat} {r3 : Nat} {t0 : Int32} {z : ow_MS} {Q : (Int32 × ow_MS) → Prop} (H : Tt (fun K k => cm_X2_tryFrom_9 vl K (c_X2_tryFrom vl K k) x2 x4 x5 x6 x7 x8 x9 x10 x11 x12 x13 x14 r0 r1 r3 t0 z) Q) : Tt (fun K k => c_X2_tryFrom vl K k 9 x2 x4 x5 x6 x7 x8 x9 x10 x11 x12 x13 x14 r0 r1 r3 t0 z) Q := w_un (fun _ _ => rfl) H
theorem u_X2_tryFrom_8 {vl : Nat → Nat} {x2 : Int32} {x4 : Int32} {x5 : Int32} {x6 : Int32} {x7 : Int32} {x8 : Int32} {x9 : Int32} {x10 : Int32} {x11 : Int32} {x12 : Int32} {x13 : Int32} {x14 : Int32} {r0 : Nat} {r1 : Nat} {r3 : Nat} {t0 : Int32} {z : ow_MS} {Q : (Int32 × ow_MS) → Prop} (H : Tt (fun K k => cm_X2_tryFrom_8 vl K (c_X2_tryFrom vl K k) x2 x4 x5 x6 x7 x8 x9 x10 x11 x12 x13 x14 r0 r1 r3 t0 z) Q) : Tt (fun K k => c_X2_tryFrom vl K k 8 x2 x4 x5 x6 x7 x8 x9 x10 x11 x12 x13 x14 r0 r1 r3 t0 z) Q := w_un (fun _ _ => rfl) H
theorem u_X2_tryFrom_3 {vl : Nat → Nat} {x2 : Int32} {x4 : Int32} {x5 : Int32} {x6 : Int32} {x7 : Int32} {x8 : Int32} {x9 : Int32} {x10 : Int32} {x11 : Int32} {x12 : Int32} {x13 : Int32} {x14 : Int32} {r0 : Nat} {r1 : Nat} {r3 : Nat} {t0 : Int32} {z : ow_MS} {Q : (Int32 × ow_MS) → Prop} (H : Tt (fun K k => cm_X2_tryFrom_3 vl K (c_X2_tryFrom vl K k) x2 x4 x5 x6 x7 x8 x9 x10 x11 x12 x13 x14 r0 r1 r3 t0 z) Q) : Tt (fun K k => c_X2_tryFrom vl K k 3 x2 x4 x5 x6 x7 x8 x9 x10 x11 x12 x13 x14 r0 r1 r3 t0 z) Q := w_un (fun _ _ => rfl) H
theorem u_X2_tryFrom_7 {vl : Nat → Nat} {x2 : Int32} {x4 : Int32} {x5 : Int32} {x6 : Int32} {x7 : Int32} {x8 : Int32} {x9 : Int32} {x10 : Int32} {x11 : Int32} {x12 : Int32} {x13 : Int32} {x14 : Int32} {r0 : Nat} {r1 : Nat} {r3 : Nat} {t0 : Int32} {z : ow_MS} {Q : (Int32 × ow_MS) → Prop} (H : Tt (fun K k => cm_X2_tryFrom_7 vl K (c_X2_tryFrom vl K k) x2 x4 x5 x6 x7 x8 x9 x10 x11 x12 x13 x14 r0 r1 r3 t0 z) Q) : Tt (fun K k => c_X2_tryFrom vl K k 7 x2 x4 x5 x6 x7 x8 x9 x10 x11 x12 x13 x14 r0 r1 r3 t0 z) Q := w_un (fun _ _ => rfl) H
theorem u_X2_tryFrom_6 {vl : Nat → Nat} {x2 : Int32} {x4 : Int32} {x5 : Int32} {x6 : Int32} {x7 : Int32} {x8 : Int32} {x9 : Int32} {x10 : Int32} {x11 : Int32} {x12 : Int32} {x13 : Int32} {x14 : Int32} {r0 : Nat} {r1 : Nat} {r3 : Nat} {t0 : Int32} {z : ow_MS} {Q : (Int32 × ow_MS) → Prop} (H : Tt (fun K k => cm_X2_tryFrom_6 vl K (c_X2_tryFrom vl K k) x2 x4 x5 x6 x7 x8 x9 x10 x11 x12 x13 x14 r0 r1 r3 t0 z) Q) : Tt (fun K k => c_X2_tryFrom vl K k 6 x2 x4 x5 x6 x7 x8 x9 x10 x11 x12 x13 x14 r0 r1 r3 t0 z) Q := w_un (fun _ _ => rfl) H
theorem u_X2_tryFrom_5 {vl : Nat → Nat} {x2 : Int32} {x4 : Int32} {x5 : Int32} {x6 : Int32} {x7 : Int32} {x8 : Int32} {x9 : Int32} {x10 : Int32} {x11 : Int32} {x12 : Int32} {x13 : Int32} {x14 : Int32} {r0 : Nat} {r1 : Nat} {r3 : Nat} {t0 : Int32} {z : ow_MS} {Q : (Int32 × ow_MS) → Prop} (H : Tt (fun K k => cm_X2_tryFrom_5 vl K (c_X2_tryFrom vl K k) x2 x4 x5 x6 x7 x8 x9 x10 x11 x12 x13 x14 r0 r1 r3 t0 z) Q) : Tt (fun K k => c_X2_tryFrom vl K k 5 x2 x4 x5 x6 x7 x8 x9 x10 x11 x12 x13 x14 r0 r1 r3 t0 z) Q := w_un (fun _ _ => rfl) H
theorem u_X2_tryFrom_4 {vl : Nat → Nat} {x2 : Int32} {x4 : Int32} {x5 : Int32} {x6 : Int32} {x7 : Int32} {x8 : Int32} {x9 : Int32} {x10 : Int32} {x11 : Int32} {x12 : Int32} {x13 : Int32} {x14 : Int32} {r0 : Nat} {r1 : Nat} {r3 : Nat} {t0 : Int32} {z : ow_MS} {Q : (Int32 × ow_MS) → Prop} (H : Tt (fun K k => cm_X2_tryFrom_4 vl K (c_X2_tryFrom vl K k) x2 x4 x5 x6 x7 x8 x9 x10 x11 x12 x13 x14 r0 r1 r3 t0 z) Q) : Tt (fun K k => c_X2_tryFrom vl K k 4 x2 x4 x5 x6 x7 x8 x9 x10 x11 x12 x13 x14 r0 r1 r3 t0 z) Q := w_un (fun _ _ => rfl) H
theorem e_X2_tryFrom {vl : Nat → Nat} {r0 : Nat} {r1 : Nat} {x2 : Int32} {z : ow_MS} {Q : (Int32 × ow_MS) → Prop} (H : Tt (fun K k => c_X2_tryFrom vl K k 0 x2 0 0 0 0 0 0 0 0 0 0 0 r0 r1 0 0 z) Q) : Te (fun K => ce_X2_tryFrom vl K r0 r1 x2 z) Q := w_te H
theorem u_X2_tryFrom_0 {vl : Nat → Nat} {x2 : Int32} {x4 : Int32} {x5 : Int32} {x6 : Int32} {x7 : Int32} {x8 : Int32} {x9 : Int32} {x10 : Int32} {x11 : Int32} {x12 : Int32} {x13 : Int32} {x14 : Int32} {r0 : Nat} {r1 : Nat} {r3 : Nat} {t0 : Int32} {z : ow_MS} {Q : (Int32 × ow_MS) → Prop} (H : Tt (fun K k => cm_X2_tryFrom_0 vl K (c_X2_tryFrom vl K k) x2 x4 x5 x6 x7 x8 x9 x10 x11 x12 x13 x14 r0 r1 r3 t0 z) Q) : Tt (fun K k => c_X2_tryFrom vl K k 0 x2 x4 x5 x6 x7 x8 x9 x10 x11 x12 x13 x14 r0 r1 r3 t0 z) Q := w_un (fun _ _ => rfl) H
theorem u_X2_tryFrom_1 {vl : Nat → Nat} {x2 : Int32} {x4 : Int32} {x5 : Int32} {x6 : Int32} {x7 : Int32} {x8 : Int32} {x9 : Int32} {x10 : Int32} {x11 : Int32} {x12 : Int32} {x13 : Int32} {x14 : Int32} {r0 : Nat} {r1 : Nat} {r3 : Nat} {t0 : Int32} {z : ow_MS} {Q : (Int32 × ow_MS) → Prop} (H : Tt (fun K k => cm_X2_tryFrom_1 vl K (c_X2_tryFrom vl K k) x2 x4 x5 x6 x7 x8 x9 x10 x11 x12 x13 x14 r0 r1 r3 t0 z) Q) : Tt (fun K k => c_X2_tryFrom vl K k 1 x2 x4 x5 x6 x7 x8 x9 x10 x11 x12 x13 x14 r0 r1 r3 t0 z) Q := w_un (fun _ _ => rfl) H
theorem tc_tryFrom {B : Nat → Nat} {l0 v0 : Nat} (hk : kH k) (hh : nH h) (hy : cAt y h T) (hb : ow_b24 T.2.2.1) (hv0 : v0 < 24) (h30 : (tf_code T.2.2.2 T.2.2.1.1 v0).len ≤ 30) (hl0 : l0 ≤ 30) (hL : y.2.1 (k + 2002) 0 = nI l0) (hl1 : l0 = 0 ∨ l0 = (tf_code T.2.2.2 T.2.2.1.1 v0).len) (hB : ∀ j, j < l0 → y.2.1 (k + 2001) j = nI (B j)) (hB64 : ∀ j, B j < 64) : Te (fun K => ce_X2_tryFrom vl K k h (nI v0) y) (tfR y k (tf_code T.2.2.2 T.2.2.1.1 v0) B l0) := by
  have hdj := kH_dj hk hh
  have hcA : ∀ z, fr (tfP k) y z → cAt z h T := fun z hf => cAt_fr hf (fun g hg hq => by unfold cP at hg; unfold tfP at hq; omega) hy
  have hbA : ∀ z, fr (tfP k) y z → ∀ j, j < l0 → z.2.1 (k + 2001) j = nI (B j) := by
    intro z hf j hj
    rw [(hf (k + 2001) (by unfold tfP; omega)).2.1]
    exact hB j hj
  generalize hC : tf_code T.2.2.2 T.2.2.1.1 v0 = C at *
  let G := T.2.2.2
  let N := T.2.2.1.1
  let Q := tfR y k C B l0
  -- the end
  have c14 : ∀ (z : ow_MS) (x4 x6 x7 x9 x10 : Int32) (names : Nat), tfS y k z C → tf_td B l0 C x4 → Tt (fun K t => c_X2_tryFrom vl K t 14 (nI v0) x4 (nI names) x6 x7 (nI C.len) x9 x10 0 0 0 0 k h (k + 2000 + 1) 0 z) Q := by
    intro z x4 x6 x7 x9 x10 names hs ht
    refine u_X2_tryFrom_14 ?_; unfold cm_X2_tryFrom_14
    refine w_if (fun e => w_some ⟨hs.2.2.2, Or.inl ⟨rfl, hs.2.2.1, ?_⟩⟩) (fun e => w_some ⟨hs.2.2.2, Or.inr ⟨rfl, ?_, ?_⟩⟩)
    · rcases ht with ⟨h1, h2, h3⟩ | ⟨h1, h2⟩
      · exact absurd (h1.symm.trans e) (by decide)
      · exact h2
    · rcases ht with ⟨h1, h2, h3⟩ | ⟨h1, h2⟩
      · exact h2
      · exact absurd h1 e
    · rcases ht with ⟨h1, h2, h3⟩ | ⟨h1, h2⟩
      · exact cd_lt_no (k := C.len) h3 (Or.inl (Nat.le_refl _))
      · exact absurd h1 e
  -- what one outer step asks
  have c2 : ∀ (D i : Nat), i + D = 24 → ∀ (fo : Option Nat) (kk : Nat) (P : tf_P) (z : ow_MS) (x4 : Int32), tf_ok P → kk ≤ P.names → (∀ f, fo = some f → f < 24) → C = tf_out G N D fo kk P → tfS y k z P → tf_td B l0 P x4 → Tt (fun K t => c_X2_tryFrom vl K t 2 (nI v0) x4 (nI P.names) (nI kk) (nI P.gone) (nI P.len) (oNI fo) (nI i) 0 0 0 0 k h (k + 2000 + 1) 0 z) Q := by
    intro D
    induction D with
    | zero =>
      intro i hi fo kk P z x4 hok hkk hf hCe hs ht
      have e : C = P := hCe
      rw [← e] at hs ht ⊢
      refine u_X2_tryFrom_2 ?_; unfold cm_X2_tryFrom_2
      exact w_leT (a := 24) (by omega) (by omega) (c14 _ _ _ _ _ _ _ hs ht)
    | succ D ihD =>
      intro i hi fo kk P z x4 hok hkk hf hCe hs ht
      cases fo with
      | none =>
        have e : C = P := hCe
        rw [← e] at hs ht ⊢
        refine u_X2_tryFrom_2 ?_; unfold cm_X2_tryFrom_2
        exact w_leF (a := 24) (by omega) (by omega) (w_ifT rfl (c14 _ _ _ _ _ _ _ hs ht))
      | some f =>
        have hf24 := hf f rfl
        have hCe' : C = tf_rest G N D kk (tf_ring G N f 24 f P) := hCe
        -- looking on
        have c11 : ∀ (d j : Nat) (P1 : tf_P) (z1 : ow_MS) (t1 x11 x12 : Int32), j + d = P1.names → tf_ok P1 → (C = tf_out G N D (tf_look P1 d j).1 (tf_look P1 d j).2 P1) → tfS y k z1 P1 → tf_td B l0 P1 t1 → Tt (fun K t => c_X2_tryFrom vl K t 11 (nI v0) t1 (nI P1.names) (nI j) (nI P1.gone) (nI P1.len) (-1) (nI i) x11 x12 0 0 k h (k + 2000 + 1) 0 z1) Q := by
          intro d
          induction d with
          | zero =>
            intro j P1 z1 t1 x11 x12 hj hok1 hc1 hs1 ht1
            have h12 := tf_ok_le hok1
            refine u_X2_tryFrom_11 ?_; unfold cm_X2_tryFrom_11
            refine w_leT (by omega) (by omega) ?_
            refine u_X2_tryFrom_13 ?_; unfold cm_X2_tryFrom_13
            rw [nI_1]
            exact ihD (i + 1) (by omega) none j P1 z1 t1 hok1 (by omega) (fun f e => by cases e) hc1 hs1 ht1
          | succ d ihd =>
            intro j P1 z1 t1 x11 x12 hj hok1 hc1 hs1 ht1
            have h12 := tf_ok_le hok1
            have hnj := hok1.2.2.1 j
            have stop : ∀ (f1 : Nat) (w1 w2 : Int32), f1 < 24 → C = tf_out G N D (some f1) (j + 1) P1 → Tt (fun K t => c_X2_tryFrom vl K t 12 (nI v0) t1 (nI P1.names) (nI j) (nI P1.gone) (nI P1.len) (-1) (nI i) w1 w2 0 0 k h (k + 2000 + 1) (nI f1) z1) Q := by
              intro f1 w1 w2 hf1 hc2
              have hgo : Tt (fun K t => c_X2_tryFrom vl K t 13 (nI v0) t1 (nI P1.names) (nI (j + 1)) (nI P1.gone) (nI P1.len) (nI f1) (nI i) w1 w2 0 0 k h (k + 2000 + 1) 0 z1) Q := by
                refine u_X2_tryFrom_13 ?_; unfold cm_X2_tryFrom_13
                rw [nI_1]
                exact ihD (i + 1) (by omega) (some f1) (j + 1) P1 z1 t1 hok1 (by omega) (fun f e => by cases e; exact hf1) hc2 hs1 ht1
              refine u_X2_tryFrom_12 ?_; unfold cm_X2_tryFrom_12
              rw [nI_1]
              refine u_X2_tryFrom_11 ?_; unfold cm_X2_tryFrom_11
              refine w_le (by omega) (by omega) (fun _ => hgo) (fun _ => w_ifF (nI_nm1 (by omega)) hgo)
            have onw : ∀ (w1 w2 : Int32), C = tf_out G N D (tf_look P1 d (j + 1)).1 (tf_look P1 d (j + 1)).2 P1 → Tt (fun K t => c_X2_tryFrom vl K t 12 (nI v0) t1 (nI P1.names) (nI j) (nI P1.gone) (nI P1.len) (-1) (nI i) w1 w2 0 0 k h (k + 2000 + 1) (-1) z1) Q := by
              intro w1 w2 hc2
              refine u_X2_tryFrom_12 ?_; unfold cm_X2_tryFrom_12
              rw [nI_1]
              exact ihd (j + 1) P1 z1 t1 w1 w2 (by omega) hok1 hc2 hs1 ht1
            rw [tf_look] at hc1
            refine u_X2_tryFrom_11 ?_; unfold cm_X2_tryFrom_11
            refine w_leF (by omega) (by omega) (w_ifT rfl (w_crI (kH_6 hk) rfl (by omega) (hs1.2.1 j (by omega)) ?_))
            rw [show (2 : Int32) * nI (P1.nam j) = nI (2 * P1.nam j) from pk_mul 2 _, nI_1, gbit hok1.2.2.2 (by omega), gbit hok1.2.2.2 (by omega)]
            refine w_eqN (b := 0) (by omega) (by omega) (fun e => ?_) (fun e => w_eqN (b := 0) (by omega) (by omega) (fun e2 => ?_) (fun e2 => ?_))
            · rw [if_pos e] at hc1
              exact stop _ _ _ (by omega) hc1
            · rw [if_neg e, if_pos e2] at hc1
              exact stop _ _ _ (by omega) hc1
            · rw [if_neg e, if_neg e2] at hc1
              exact onw _ _ hc1
        -- behind a ring
        have c8 : ∀ (P1 : tf_P) (z1 : ow_MS) (t1 x11 x12 : Int32), P.names ≤ P1.names → tf_ok P1 → C = tf_rest G N D kk P1 → tfS y k z1 P1 → tf_td B l0 P1 t1 → Tt (fun K t => c_X2_tryFrom vl K t 8 (nI v0) t1 (nI P1.names) (nI kk) (nI P1.gone) (nI P1.len) (nI f) (nI i) x11 x12 0 0 k h (k + 2000 + 1) 0 z1) Q := by
          intro P1 z1 t1 x11 x12 hn1 hok1 hc1 hs1 ht1
          have he : tf_ext (tf_sep P1) C := by rw [hc1]; exact tf_rest_ext G N D kk P1
          have hl1 : P1.len + 1 ≤ C.len := he.1
          have c10 : ∀ t2 : Int32, tf_td B l0 (tf_sep P1) t2 → Tt (fun K t => c_X2_tryFrom vl K t 10 (nI v0) t1 (nI P1.names) (nI kk) (nI P1.gone) (nI P1.len) (nI f) (nI i) x11 x12 0 0 k h (k + 2000 + 1) t2 z1) Q := by
            intro t2 ht2
            refine u_X2_tryFrom_10 ?_; unfold cm_X2_tryFrom_10
            refine w_ctB (kH_4 hk) rfl (show P1.len < 48 by omega) ?_
            rw [nI_1]
            refine c11 (P1.names - kk) kk (tf_sep P1) _ t2 _ _ (show kk + (P1.names - kk) = P1.names by omega) (tf_sep_ok hok1) hc1 ⟨fun x hx => rd_ot (by omega) (hs1.1 x hx), fun j hj => rd_ot (by omega) (hs1.2.1 j hj), fun j hj => ?_, fr_I2 hs1.2.2.2 ⟨by omega, by omega⟩⟩ ht2
            have hj' : j < P1.len + 1 := hj
            show (usI z1 (k + 4) P1.len _).2.1 (k + 4) j = nI (nu P1.T P1.len 0 j)
            by_cases e : j = P1.len
            · rw [e, nu_same, po_usI_at]
              exact nar64 (a := 0) (by omega)
            · rw [nu_ne _ _ e]
              exact rd_ne e (hs1.2.2.1 j (by omega))
          have hsep : ∀ x : Int32, (x = if t1 = 1 ∧ (tf_sep P1).T P1.len = B P1.len then 1 else 0) → tf_td B l0 (tf_sep P1) x := by
            intro x e
            rw [e]
            refine tf_td_s ht1 (tf_sep_ext P1) rfl (fun _ => ?_)
            show nu P1.T P1.len 0 P1.len ≤ _
            rw [nu_same]
            omega
          have hT0 : (tf_sep P1).T P1.len = 0 := nu_same _ _ _
          have c9 : (0 : Int32) = (if t1 = 1 ∧ (tf_sep P1).T P1.len = B P1.len then 1 else 0) → Tt (fun K t => c_X2_tryFrom vl K t 9 (nI v0) t1 (nI P1.names) (nI kk) (nI P1.gone) (nI P1.len) (nI f) (nI i) x11 x12 0 0 k h (k + 2000 + 1) 0 z1) Q := by
            intro e
            refine u_X2_tryFrom_9 ?_; unfold cm_X2_tryFrom_9
            exact c10 0 (hsep 0 e)
          refine u_X2_tryFrom_8 ?_; unfold cm_X2_tryFrom_8
          rcases ht1 with ⟨h1, h2, h3⟩ | ⟨h1, h2⟩
          · subst h1
            have hlt : P1.len < l0 := by omega
            refine w_ifF (by decide) (w_crI (tH_1 (kH_one hk)) rfl (show P1.len < 30 * 1 by omega) (hbA z1 hs1.2.2.2 P1.len hlt) (w_eqN (b := 0) (by have := hB64 P1.len; omega) (by omega) (fun e => ?_) (fun e => ?_)))
            · exact c10 1 (hsep 1 (by rw [hT0, e, if_pos ⟨rfl, rfl⟩]))
            · refine c9 ?_
              rw [hT0, if_neg (fun q => e q.2.symm)]
          · subst h1
            refine w_ifT rfl (c9 ?_)
            rw [if_neg (fun q => absurd q.1 (by decide))]
        -- one ring
        have c3 : ∀ (d a v : Nat) (P1 : tf_P) (z1 : ow_MS) (t1 : Int32), a + d = 24 → v < 24 → P.names ≤ P1.names → tf_ok P1 → C = tf_rest G N D kk (tf_ring G N f d v P1) → tfS y k z1 P1 → tf_td B l0 P1 t1 → Tt (fun K t => c_X2_tryFrom vl K t 3 (nI v0) t1 (nI P1.names) (nI kk) (nI P1.gone) (nI P1.len) (nI f) (nI i) (nI v) (nI a) 0 0 k h (k + 2000 + 1) 0 z1) Q := by
          intro d
          induction d with
          | zero =>
            intro a v P1 z1 t1 ha hv hn1 hok1 hc1 hs1 ht1
            refine u_X2_tryFrom_3 ?_; unfold cm_X2_tryFrom_3
            exact w_leT (a := 24) (by omega) (by omega) (c8 P1 z1 t1 _ _ hn1 hok1 hc1 hs1 ht1)
          | succ d ihd =>
            intro a v P1 z1 t1 ha hv hn1 hok1 hc1 hs1 ht1
            have hst : tf_ext (tf_vis G P1 v) C := by
              rw [hc1, tf_ring]
              split
              · exact tf_ext_tr (tf_sep_ext _) (tf_rest_ext G N D kk _)
              · exact tf_ext_tr (tf_ext_tr (tf_ring_ext G N f d _ _) (tf_sep_ext _)) (tf_rest_ext G N D kk _)
            have hl1 : P1.len + 1 ≤ C.len := hst.1
            have hvk := tf_vis_ok (G := G) hok1 hv
            have hc64 := cell64 (G := G) hok1 hv
            have hCl : C.T P1.len = tf_cell G P1 v := by
              rw [hst.2 P1.len (Nat.lt_succ_self _)]
              exact nu_same _ _ _
            have hvn : P.names ≤ (tf_vis G P1 v).names := Nat.le_trans hn1 tf_vis_names
            have nm := tf_name_ok (x := v / 2) hok1 (by omega)
            -- the cell is written
            have c7 : ∀ (z2 : ow_MS) (t2 x13 : Int32), (∀ x, x < 12 → z2.2.1 (k + 5) x = nI ((tf_vis G P1 v).num x)) → (∀ j, j < (tf_vis G P1 v).names → z2.2.1 (k + 6) j = nI ((tf_vis G P1 v).nam j)) → (∀ j, j < P1.len → z2.2.1 (k + 4) j = nI (P1.T j)) → fr (tfP k) y z2 → tf_td B l0 (tf_vis G P1 v) t2 → Tt (fun K t => c_X2_tryFrom vl K t 7 (nI v0) t1 (nI (tf_vis G P1 v).names) (nI kk) (nI P1.gone) (nI P1.len) (nI f) (nI i) (nI v) (nI a) x13 (nI (tf_cell G P1 v)) k h (k + 2000 + 1) t2 z2) Q := by
              intro z2 t2 x13 g1 g2 g3 g4 ht2
              have hs3 : tfS y k (usI z2 (k + 4) P1.len (vp_nar .byte (nI (tf_cell G P1 v)).toInt8.toInt32)) (tf_vis G P1 v) := by
                refine ⟨fun x hx => rd_ot (by omega) (g1 x hx), fun j hj => rd_ot (by omega) (g2 j hj), fun j hj => ?_, fr_I2 g4 ⟨by omega, by omega⟩⟩
                have hj' : j < P1.len + 1 := hj
                show (usI z2 (k + 4) P1.len _).2.1 (k + 4) j = nI (nu P1.T P1.len (tf_cell G P1 v) j)
                by_cases e : j = P1.len
                · rw [e, nu_same, po_usI_at]
                  exact (i2b64 ⟨_, hc64⟩).1
                · rw [nu_ne _ _ e]
                  exact rd_ne e (g3 j (by omega))
              refine u_X2_tryFrom_7 ?_; unfold cm_X2_tryFrom_7
              refine w_ctB (kH_4 hk) rfl (show P1.len < 48 by omega) (w_crI (nH_1 hh) rfl hv ((hcA _ hs3.2.2.2).2.2.1 v) ?_)
              rw [ow_shlb hv, ow_or (by have := hok1.2.2.2; omega) (Nat.lt_trans (Nat.pow_lt_pow_right (by decide) hv) (by decide)), nI_1 (a := P1.len)]
              have hg : (tf_vis G P1 v).gone = P1.gone ||| 2 ^ v := rfl
              rw [← hg]
              have hle : (tf_vis G P1 v).len = P1.len + 1 := rfl
              rw [← hle]
              refine w_eqN (a := N v) (b := f) (by have h9 : N v < 24 := hb.1 v; omega) (by omega) (fun e => ?_) (fun e => ?_)
              · rw [tf_ring, if_pos e] at hc1
                exact c8 _ _ t2 _ _ hvn hvk hc1 hs3 ht2
              · rw [tf_ring, if_neg e] at hc1
                rw [nI_1]
                exact ihd (a + 1) (N v) _ _ t2 (by omega) (hb.1 v) hvn hvk hc1 hs3 ht2
            have htd : ∀ x : Int32, (t1 = 1 → tf_cell G P1 v ≤ B P1.len) → (x = if t1 = 1 ∧ tf_cell G P1 v = B P1.len then 1 else 0) → tf_td B l0 (tf_vis G P1 v) x := by
              intro x e0 e
              have eT : (tf_vis G P1 v).T P1.len = tf_cell G P1 v := nu_same _ _ _
              rw [e, ← eT]
              refine tf_td_s ht1 (tf_vis_ext G P1 v) rfl (fun q => ?_)
              rw [eT]
              exact e0 q
            have c5 : ∀ (z2 : ow_MS) (x13 : Int32), (∀ x, x < 12 → z2.2.1 (k + 5) x = nI ((tf_vis G P1 v).num x)) → (∀ j, j < (tf_vis G P1 v).names → z2.2.1 (k + 6) j = nI ((tf_vis G P1 v).nam j)) → (∀ j, j < P1.len → z2.2.1 (k + 4) j = nI (P1.T j)) → fr (tfP k) y z2 → (t1 = 1 → tf_cell G P1 v ≤ B P1.len) → Tt (fun K t => c_X2_tryFrom vl K t 5 (nI v0) t1 (nI (tf_vis G P1 v).names) (nI kk) (nI P1.gone) (nI P1.len) (nI f) (nI i) (nI v) (nI a) x13 (nI (tf_cell G P1 v)) k h (k + 2000 + 1) 0 z2) Q := by
              intro z2 x13 g1 g2 g3 g4 g5
              have c6 : (0 : Int32) = (if t1 = 1 ∧ tf_cell G P1 v = B P1.len then 1 else 0) → Tt (fun K t => c_X2_tryFrom vl K t 6 (nI v0) t1 (nI (tf_vis G P1 v).names) (nI kk) (nI P1.gone) (nI P1.len) (nI f) (nI i) (nI v) (nI a) x13 (nI (tf_cell G P1 v)) k h (k + 2000 + 1) 0 z2) Q := by
                intro e
                refine u_X2_tryFrom_6 ?_; unfold cm_X2_tryFrom_6
                exact c7 z2 0 x13 g1 g2 g3 g4 (htd 0 g5 e)
              refine u_X2_tryFrom_5 ?_; unfold cm_X2_tryFrom_5
              rcases ht1 with ⟨h1, h2, h3⟩ | ⟨h1, h2⟩
              · subst h1
                have hlt : P1.len < l0 := by omega
                refine w_ifF (by decide) (w_crI (tH_1 (kH_one hk)) rfl (show P1.len < 30 * 1 by omega) (hbA z2 g4 P1.len hlt) (w_eqN (by omega) (by have := hB64 P1.len; omega) (fun e => ?_) (fun e => ?_)))
                · exact c7 z2 1 x13 g1 g2 g3 g4 (htd 1 g5 (by rw [if_pos ⟨rfl, e⟩]))
                · exact c6 (by rw [if_neg (fun q => e q.2)])
              · subst h1
                refine w_ifT rfl (c6 ?_)
                rw [if_neg (fun q => absurd q.1 (by decide))]
            have c4 : ∀ (z2 : ow_MS), (∀ x, x < 12 → z2.2.1 (k + 5) x = nI ((tf_vis G P1 v).num x)) → (∀ j, j < (tf_vis G P1 v).names → z2.2.1 (k + 6) j = nI ((tf_vis G P1 v).nam j)) → (∀ j, j < P1.len → z2.2.1 (k + 4) j = nI (P1.T j)) → fr (tfP k) y z2 → Tt (fun K t => c_X2_tryFrom vl K t 4 (nI v0) t1 (nI (tf_vis G P1 v).names) (nI kk) (nI P1.gone) (nI P1.len) (nI f) (nI i) (nI v) (nI a) (nI (v / 2)) 0 k h (k + 2000 + 1) 0 z2) Q := by
              intro z2 g1 g2 g3 g4
              refine u_X2_tryFrom_4 ?_; unfold cm_X2_tryFrom_4
              refine w_crI (kH_5 hk) rfl (show v / 2 < 12 by omega) (g1 _ (by omega)) (w_cs1 (tc_firstCell hh (hcA z2 g4) hv) ?_)
              rintro r z3 ⟨e1, e2⟩
              dsimp only at e1 e2
              rw [e1, e2]
              have ece : (4 : Int32) * (nI ((tf_vis G P1 v).num (v / 2)) - 1) + nI (cd_first T.2.2.2 v) = nI (tf_cell G P1 v) := by
                rw [show nI ((tf_vis G P1 v).num (v / 2)) - 1 = nI ((tf_vis G P1 v).num (v / 2) - 1) from pk_sub (b := 1) nm.2, show (4 : Int32) * nI ((tf_vis G P1 v).num (v / 2) - 1) = nI (4 * ((tf_vis G P1 v).num (v / 2) - 1)) from pk_mul 4 _]
                exact nI_add _ _
              rw [ece]
              rcases ht1 with ⟨h1, h2, h3⟩ | ⟨h1, h2⟩
              · have hlt : P1.len < l0 := by omega
                refine w_ifF (by rw [h1]; decide) (w_crI (tH_1 (kH_one hk)) rfl (show P1.len < 30 * 1 by omega) (hbA z2 g4 P1.len hlt) (w_le (by omega) (by have := hB64 P1.len; omega) (fun e => ?_) (fun e => ?_)))
                · exact c5 z2 _ g1 g2 g3 g4 (fun _ => e)
                · refine w_some ⟨g4, Or.inr ⟨rfl, h2, cd_lt_no (k := P1.len) (fun j hj => ?_) (Or.inr (by rw [hCl]; exact e))⟩⟩
                  rw [← h3 j hj, hst.2 j (Nat.lt_succ_of_lt hj)]
                  exact (tf_vis_ext G P1 v).2 j hj
              · refine w_ifT h1 (c5 z2 _ g1 g2 g3 g4 (fun q => absurd (q.symm.trans h1) (by decide)))
            have hnum : (tf_vis G P1 v).num = (tf_name P1 (v / 2)).num := rfl
            have hnam : (tf_vis G P1 v).nam = (tf_name P1 (v / 2)).nam := rfl
            have hnms : (tf_vis G P1 v).names = (tf_name P1 (v / 2)).names := rfl
            have h12 := tf_ok_le hok1
            refine u_X2_tryFrom_3 ?_; unfold cm_X2_tryFrom_3
            rw [shr1v ⟨v, hv⟩]
            refine w_leF (a := 24) (by omega) (by omega) (w_crI (kH_5 hk) rfl (show v / 2 < 12 by omega) (hs1.1 _ (by omega)) (w_eqN (a := P1.num (v / 2)) (b := 0) (by have := hok1.1 (v / 2); omega) (by omega) (fun e => ?_) (fun e => ?_)))
            · have hnl := tf_name_lt hok1 (show v / 2 < 12 by omega) e
              have e9 : tf_name P1 (v / 2) = ⟨nu P1.num (v / 2) (P1.names + 1), nu P1.nam P1.names (v / 2), P1.names + 1, P1.gone, P1.T, P1.len⟩ := by
                unfold tf_name
                rw [if_pos e]
              refine w_ctI (kH_6 hk) rfl hnl (w_ctI (kH_5 hk) rfl (show v / 2 < 12 by omega) ?_)
              rw [nI_1]
              have e8 : P1.names + 1 = (tf_vis G P1 v).names := by rw [hnms, e9]
              rw [e8]
              refine c4 _ (fun x hx => ?_) (fun j hj => ?_) (fun j hj => rd_ot (by omega) (rd_ot (by omega) (hs1.2.2.1 j hj))) (fr_I2 (fr_I2 hs1.2.2.2 ⟨by omega, by omega⟩) ⟨by omega, by omega⟩)
              · rw [hnum, e9]
                show _ = nI (nu P1.num (v / 2) (P1.names + 1) x)
                by_cases e7 : x = v / 2
                · rw [e7, nu_same, po_usI_at, ← e8]
                · rw [nu_ne _ _ e7]
                  exact rd_ne e7 (rd_ot (by omega) (hs1.1 x hx))
              · rw [hnam, e9]
                show _ = nI (nu P1.nam P1.names (v / 2) j)
                refine rd_ot (by omega) ?_
                by_cases e7 : j = P1.names
                · rw [e7, nu_same]
                  exact po_usI_at
                · rw [nu_ne _ _ e7]
                  exact rd_ne e7 (hs1.2.1 j (by omega))
            · have e9 : tf_name P1 (v / 2) = P1 := by
                unfold tf_name
                rw [if_neg e]
              have e8 : P1.names = (tf_vis G P1 v).names := by rw [hnms, e9]
              rw [e8]
              refine c4 z1 (fun x hx => by rw [hnum, e9]; exact hs1.1 x hx) (fun j hj => by rw [hnam, e9]; exact hs1.2.1 j (by omega)) hs1.2.2.1 hs1.2.2.2
        refine u_X2_tryFrom_2 ?_; unfold cm_X2_tryFrom_2
        refine w_leF (a := 24) (by omega) (by omega) (w_ifF (nI_nm1 (by omega)) ?_)
        exact c3 24 0 f P z x4 (by omega) hf24 (Nat.le_refl _) hok hCe' hs ht
  refine e_X2_tryFrom ?_
  refine u_X2_tryFrom_0 ?_; unfold cm_X2_tryFrom_0
  refine w_cs0 (tc_fillA (kH_5 hk) (by omega)) ?_
  rintro z1 ⟨h1, h2⟩
  have h2' : fr (tfP k) y z1 := fr_mono (fun g hg => by rw [hg]; unfold tfP; omega) h2
  refine w_crI (i := 0) (tH_2 (kH_one hk)) rfl (by omega) ((congrFun (h2 (k + 2002) (by omega)).2.1 0).trans hL) ?_
  have go1 : ∀ t0 : Int32, tf_td B l0 tf_0 t0 → Tt (fun K t => c_X2_tryFrom vl K t 1 (nI v0) 0 0 0 0 0 0 0 0 0 0 0 k h (k + 2000 + 1) t0 z1) Q := by
    intro t0 ht
    refine u_X2_tryFrom_1 ?_; unfold cm_X2_tryFrom_1
    exact c2 24 0 (by omega) (some v0) 0 tf_0 z1 t0 tf_ok_0 (Nat.le_refl _) (fun f e => by cases e; exact hv0) hC.symm ⟨fun x hx => h1 x hx, fun j hj => absurd hj (Nat.not_lt_zero _), fun j hj => absurd hj (Nat.not_lt_zero _), h2'⟩ ht
  have h00 := tf_td_0 B (l0 := l0) tf_0 rfl
  refine w_le (b := 0) (by omega) (by omega) (fun e => go1 0 ?_) (fun e => go1 1 ?_)
  · rw [if_neg (by omega)] at h00
    exact h00
  · rw [if_pos e] at h00
    exact h00
end CT
