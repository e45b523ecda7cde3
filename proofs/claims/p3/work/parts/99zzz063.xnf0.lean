section
/-! 99zzzzzzzzzzzzzt.xnf0 -/
/-! simple braids: products, residues, reversed ones, checked -/
def gRV2 : Nat := 0x80
def gRV3 : Nat := 0x2830808080
def gRV4 : Nat := 0x2e50a962048793222868b183848710102860608080
def gRV5 : Nat := 0xefcfa75edaf6f0d5bb8ece5bee60cb773e2bf930e8c76f369bd329cdaf42454b32a4d69f2ec5a9d4a8d58eda0b96b0a2b77ae9fb164fa233811a1b470ede2056b90aa5eb0fa34a993a450756b05279117366079a3858811244ca15323860d12285850e184040608080
def gRV (n : Nat) : Nat := if n = 5 then gRV5 else if n = 4 then gRV4 else if n = 3 then gRV3 else gRV2
def rvT (n k : Nat) : Nat := dgN (gRV n) 7 k
/-- the product of two simple ones, plus 1; 0 if it isn't simple -/
def muG (n p q : Nat) : Nat := evG n p (ltG n q)
def gPa (n p q : Nat) : Bool := decide (muG n p (ddG n p q) = muG n q (ddG n q p)) && decide (muG n p (ddG n p q) ≠ 0)
def gPb (n p q : Nat) : Bool := (decide (muG n p q = 0) == !decide (ddG n (ddG n p (gNN n - 1)) q = 0)) && (decide (muG n p q = 0) || decide (muG n (rvT n q) (rvT n p) = rvT n (muG n p q - 1) + 1)) && decide (ddG n (ovG n p) (ovG n q) = ovG n (ddG n p q))
def gPk (n k : Nat) : Bool := decide (rvT n k < gNN n) && decide (rvT n (rvT n k) = k) && decide (ovG n (ovG n k) = k) && decide (ddG n k k = 0) && decide (ddG n (gNN n - 1) k = 0)
theorem pa_2 : ∀ p : Fin 2, ∀ q : Fin 2, gPa 2 p.val q.val = true := by decide +kernel
theorem pb_2 : ∀ p : Fin 2, ∀ q : Fin 2, gPb 2 p.val q.val = true := by decide +kernel
theorem pk_29 : ∀ k : Fin 2, gPk 2 k.val = true := by decide +kernel
theorem pa_3 : ∀ p : Fin 6, ∀ q : Fin 6, gPa 3 p.val q.val = true := by decide +kernel
theorem pb_3 : ∀ p : Fin 6, ∀ q : Fin 6, gPb 3 p.val q.val = true := by decide +kernel
theorem pk_39 : ∀ k : Fin 6, gPk 3 k.val = true := by decide +kernel
theorem pa_4 : ∀ p : Fin 24, ∀ q : Fin 24, gPa 4 p.val q.val = true := by decide +kernel
theorem pb_4 : ∀ p : Fin 24, ∀ q : Fin 24, gPb 4 p.val q.val = true := by decide +kernel
theorem pk_49 : ∀ k : Fin 24, gPk 4 k.val = true := by decide +kernel
theorem pa_5 : ∀ p : Fin 120, ∀ q : Fin 120, gPa 5 p.val q.val = true := by decide +kernel
theorem pb_5 : ∀ p : Fin 120, ∀ q : Fin 120, gPb 5 p.val q.val = true := by decide +kernel
theorem pk_59 : ∀ k : Fin 120, gPk 5 k.val = true := by decide +kernel
section NF0
variable {n : Nat}
theorem pa_n (h2 : 2 ≤ n) (h5 : n ≤ 5) {p q : Nat} (hp : p < gNN n) (hq : q < gNN n) : gPa n p q = true := by
  rcases nn_c h2 h5 with rfl | rfl | rfl | rfl
  · exact pa_2 ⟨p, hp⟩ ⟨q, hq⟩
  · exact pa_3 ⟨p, hp⟩ ⟨q, hq⟩
  · exact pa_4 ⟨p, hp⟩ ⟨q, hq⟩
  · exact pa_5 ⟨p, hp⟩ ⟨q, hq⟩
theorem pb_n (h2 : 2 ≤ n) (h5 : n ≤ 5) {p q : Nat} (hp : p < gNN n) (hq : q < gNN n) : gPb n p q = true := by
  rcases nn_c h2 h5 with rfl | rfl | rfl | rfl
  · exact pb_2 ⟨p, hp⟩ ⟨q, hq⟩
  · exact pb_3 ⟨p, hp⟩ ⟨q, hq⟩
  · exact pb_4 ⟨p, hp⟩ ⟨q, hq⟩
  · exact pb_5 ⟨p, hp⟩ ⟨q, hq⟩
theorem pk_n9 (h2 : 2 ≤ n) (h5 : n ≤ 5) {k : Nat} (hk : k < gNN n) : gPk n k = true := by
  rcases nn_c h2 h5 with rfl | rfl | rfl | rfl
  · exact pk_29 ⟨k, hk⟩
  · exact pk_39 ⟨k, hk⟩
  · exact pk_49 ⟨k, hk⟩
  · exact pk_59 ⟨k, hk⟩
theorem d_pa (h2 : 2 ≤ n) (h5 : n ≤ 5) {p q : Nat} (hp : p < gNN n) (hq : q < gNN n) : muG n p (ddG n p q) = muG n q (ddG n q p) ∧ muG n p (ddG n p q) ≠ 0 := by
  have := pa_n h2 h5 hp hq
  unfold gPa at this
  simp only [Bool.and_eq_true, decide_eq_true_eq] at this
  exact this
theorem d_pb (h2 : 2 ≤ n) (h5 : n ≤ 5) {p q : Nat} (hp : p < gNN n) (hq : q < gNN n) : (muG n p q ≠ 0 ↔ ddG n (ddG n p (gNN n - 1)) q = 0) ∧ (muG n p q ≠ 0 → muG n (rvT n q) (rvT n p) = rvT n (muG n p q - 1) + 1) ∧ ddG n (ovG n p) (ovG n q) = ovG n (ddG n p q) := by
  have := pb_n h2 h5 hp hq
  unfold gPb at this
  simp only [Bool.and_eq_true, Bool.or_eq_true, decide_eq_true_eq, beq_iff_eq] at this
  obtain ⟨⟨a1, a2⟩, a3⟩ := this
  refine ⟨?_, fun h => a2.resolve_left h, a3⟩
  by_cases e1 : muG n p q = 0
  · rw [decide_eq_true e1] at a1
    constructor
    · intro h
      exact absurd e1 h
    · intro h
      rw [decide_eq_true h] at a1
      exact absurd a1 (by decide)
  · rw [decide_eq_false e1] at a1
    refine ⟨fun _ => ?_, fun _ => e1⟩
    by_cases e2 : ddG n (ddG n p (gNN n - 1)) q = 0
    · exact e2
    · rw [decide_eq_false e2] at a1
      exact absurd a1 (by decide)
theorem d_pk (h2 : 2 ≤ n) (h5 : n ≤ 5) {k : Nat} (hk : k < gNN n) : rvT n k < gNN n ∧ rvT n (rvT n k) = k ∧ ovG n (ovG n k) = k ∧ ddG n k k = 0 ∧ ddG n (gNN n - 1) k = 0 := by
  have := pk_n9 h2 h5 hk
  unfold gPk at this
  simp only [Bool.and_eq_true, decide_eq_true_eq] at this
  obtain ⟨⟨⟨⟨a1, a2⟩, a3⟩, a4⟩, a5⟩ := this
  exact ⟨a1, a2, a3, a4, a5⟩
end NF0
end
section
/-! 99zzzzzzzzzzzzzu.xnf1 -/
/-! normal forms of braids: lists of simple ones, what they leave of others; a weighted list is told by that -/
section NF1
variable {n : Nat}
theorem nn_0 : 0 < gNN n := by have := nn_pos (n := n); omega
theorem sz_0 (h2 : 2 ≤ n) (h5 : n ≤ 5) : szG n 0 = 0 := (f_fiv h2 h5 (a := 0) (by omega)).2.2.2.1
theorem mu_r0 (h2 : 2 ≤ n) (h5 : n ≤ 5) {p : Nat} : muG n p 0 = p + 1 := by
  unfold muG ltG
  rw [sz_0 h2 h5]
  rfl
theorem mu_l0 (h2 : 2 ≤ n) (h5 : n ≤ 5) {q : Nat} (hq : q < gNN n) : muG n 0 q = q + 1 := (f_one h2 h5 hq).2.2.2.2.1
theorem mu_lt (h2 : 2 ≤ n) (h5 : n ≤ 5) {p q s : Nat} (hp : p < gNN n) (e : muG n p q = s + 1) : s < gNN n ∧ szG n s = szG n p + szG n q := by
  obtain ⟨a1, a2, -⟩ := ev_len h2 h5 (ltG n q) hp e
  rw [lt_len] at a2
  exact ⟨a1, a2⟩
theorem sz_z (h2 : 2 ≤ n) (h5 : n ≤ 5) {k : Nat} (hk : k < gNN n) (e : szG n k = 0) : k = 0 := (f_one h2 h5 hk).2.2.2.2.2.1 e
theorem dd_lt (h2 : 2 ≤ n) (h5 : n ≤ 5) {p q : Nat} (hp : p < gNN n) (hq : q < gNN n) : ddG n p q < gNN n := (f_fou h2 h5 hp hq).1
theorem ev_mu (h2 : 2 ≤ n) (h5 : n ≤ 5) {p e s : Nat} {w : List Nat} (hp : p < gNN n) (hw : evG n 0 w = e + 1) (hs : evG n p w = s + 1) : muG n p e = s + 1 := by
  obtain ⟨k1, k2⟩ := gv_simple h2 h5 hp w hp hs
  have hpp := (d_pk h2 h5 hp).2.2.2.1
  rw [hpp, gv_0] at k1 k2
  have k1 : 0 = ddG n s p := k1
  have k2 : evG n 0 w = ddG n p s + 1 := k2
  have he : e = ddG n p s := by omega
  have hs' := (ev_len h2 h5 w hp hs).1
  rw [he, (d_pa h2 h5 hp hs').1, ← k1]
  exact mu_r0 h2 h5
/-- what a product leaves -/
theorem rR1 (h2 : 2 ≤ n) (h5 : n ≤ 5) {p q s v : Nat} (hp : p < gNN n) (hq : q < gNN n) (hv : v < gNN n) (e : muG n p q = s + 1) : ddG n s v = ddG n q (ddG n p v) := by
  have a := (gv_simple h2 h5 hv (ltG n q) hp e).1
  have b := (gv_simple0 h2 h5 (dd_lt h2 h5 hp hv) (f_one h2 h5 hq).2.2.2.2.1).1
  exact a.symm.trans b
/-- what is left of a product -/
theorem rR2 (h2 : 2 ≤ n) (h5 : n ≤ 5) {p q s v : Nat} (hp : p < gNN n) (hq : q < gNN n) (hv : v < gNN n) (e : muG n p q = s + 1) : muG n (ddG n v p) (ddG n (ddG n p v) q) = ddG n v s + 1 := by
  have a := (gv_simple h2 h5 hv (ltG n q) hp e).2
  have b := (gv_simple0 h2 h5 (dd_lt h2 h5 hp hv) (f_one h2 h5 hq).2.2.2.2.1).2
  exact ev_mu h2 h5 (dd_lt h2 h5 hv hp) b a
theorem dd_0l (h2 : 2 ≤ n) (h5 : n ≤ 5) {v : Nat} (hv : v < gNN n) : ddG n 0 v = v := (f_one h2 h5 hv).2.2.2.2.2.2.1
theorem dd_0r (h2 : 2 ≤ n) (h5 : n ≤ 5) {v : Nat} (hv : v < gNN n) : ddG n v 0 = 0 := (f_one h2 h5 hv).2.2.2.2.2.2.2
theorem dd_s (h2 : 2 ≤ n) (h5 : n ≤ 5) {v : Nat} (hv : v < gNN n) : ddG n v v = 0 := (d_pk h2 h5 hv).2.2.2.1
theorem cubG (h2 : 2 ≤ n) (h5 : n ≤ 5) {a b m : Nat} (ha : a < gNN n) (hb : b < gNN n) (hm : m < gNN n) : ddG n (ddG n a m) (ddG n a b) = ddG n (ddG n m a) (ddG n m b) := by
  obtain ⟨e1, e2⟩ := d_pa h2 h5 ha hm
  obtain ⟨s, hs⟩ : ∃ s, muG n a (ddG n a m) = s + 1 := ⟨muG n a (ddG n a m) - 1, by omega⟩
  rw [← rR1 h2 h5 ha (dd_lt h2 h5 ha hm) hb hs, ← rR1 h2 h5 hm (dd_lt h2 h5 hm ha) hb (by rw [← e1]; exact hs)]
/-- a product and its first factor -/
theorem mu_dd (h2 : 2 ≤ n) (h5 : n ≤ 5) {p q s : Nat} (hp : p < gNN n) (hq : q < gNN n) (e : muG n p q = s + 1) : ddG n s p = 0 ∧ ddG n p s = q := by
  constructor
  · rw [rR1 h2 h5 hp hq hp e, dd_s h2 h5 hp, dd_0r h2 h5 hq]
  · have := rR2 h2 h5 hp hq hp e
    rw [dd_s h2 h5 hp, dd_0l h2 h5 hq, mu_l0 h2 h5 hq] at this
    omega
theorem dd_mu (h2 : 2 ≤ n) (h5 : n ≤ 5) {p s : Nat} (hp : p < gNN n) (hs : s < gNN n) (e : ddG n s p = 0) : muG n p (ddG n p s) = s + 1 := by
  rw [(d_pa h2 h5 hp hs).1, e]
  exact mu_r0 h2 h5
theorem mu_1 (h2 : 2 ≤ n) (h5 : n ≤ 5) {p q : Nat} (hp : p < gNN n) (hq : q < gNN n) (e : muG n p q = 0 + 1) : p = 0 ∧ q = 0 := by
  have := (mu_lt h2 h5 hp e).2
  rw [sz_0 h2 h5] at this
  exact ⟨sz_z h2 h5 hp (by omega), sz_z h2 h5 hq (by omega)⟩
theorem dv_tr (h2 : 2 ≤ n) (h5 : n ≤ 5) {a b c : Nat} (ha : a < gNN n) (hb : b < gNN n) (hc : c < gNN n) (e1 : ddG n b a = 0) (e2 : ddG n c b = 0) : ddG n c a = 0 := by
  have := rR2 h2 h5 ha (dd_lt h2 h5 ha hb) hc (dd_mu h2 h5 ha hb e1)
  rw [e2] at this
  exact (mu_1 h2 h5 (dd_lt h2 h5 hc ha) (dd_lt h2 h5 (dd_lt h2 h5 ha hc) (dd_lt h2 h5 ha hb)) this).1
theorem dv_as (h2 : 2 ≤ n) (h5 : n ≤ 5) {a b : Nat} (ha : a < gNN n) (hb : b < gNN n) (e1 : ddG n b a = 0) (e2 : ddG n a b = 0) : a = b := by
  have := dd_mu h2 h5 ha hb e1
  rw [e2, mu_r0 h2 h5] at this
  omega
/-- lists of simple ones -/
def okT (n : Nat) (T : List Nat) : Prop := ∀ t, t ∈ T → t < gNN n
theorem okT_c {t : Nat} {T : List Nat} : okT n (t :: T) ↔ t < gNN n ∧ okT n T := ⟨fun h => ⟨h t List.mem_cons_self, fun s hs => h s (List.mem_cons_of_mem _ hs)⟩, fun h s hs => by
  rcases List.mem_cons.mp hs with e | hs
  · rw [e]
    exact h.1
  · exact h.2 s hs⟩
theorem okT_a {S T : List Nat} : okT n (S ++ T) ↔ okT n S ∧ okT n T := ⟨fun h => ⟨fun s hs => h s (List.mem_append_left _ hs), fun s hs => h s (List.mem_append_right _ hs)⟩, fun h s hs => (List.mem_append.mp hs).elim (h.1 s) (h.2 s)⟩
def r1G (n : Nat) : Nat → List Nat → Nat × List Nat
  | v, [] => (v, [])
  | v, t :: T => ((r1G n (ddG n t v) T).1, ddG n v t :: (r1G n (ddG n t v) T).2)
def rsG (n : Nat) : List Nat → List Nat → List Nat
  | [], _ => []
  | v :: V, T => (r1G n v T).1 :: rsG n V (r1G n v T).2
def eqT (n : Nat) (T F : List Nat) : Prop := ∀ V, okT n V → rsG n V T = rsG n V F
theorem r1_ok (h2 : 2 ≤ n) (h5 : n ≤ 5) : ∀ (T : List Nat) {v : Nat}, v < gNN n → okT n T → (r1G n v T).1 < gNN n ∧ okT n (r1G n v T).2 ∧ (r1G n v T).2.length = T.length
  | [], v, hv, _ => ⟨hv, fun t ht => absurd ht List.not_mem_nil, rfl⟩
  | t :: T, v, hv, h => by
    obtain ⟨h1, h3⟩ := okT_c.mp h
    obtain ⟨a1, a2, a3⟩ := r1_ok h2 h5 T (dd_lt h2 h5 h1 hv) h3
    refine ⟨a1, okT_c.mpr ⟨dd_lt h2 h5 hv h1, a2⟩, ?_⟩
    show ((r1G n (ddG n t v) T).2.length + 1 = T.length + 1)
    rw [a3]
theorem r1_app : ∀ (X Y : List Nat) (v : Nat), r1G n v (X ++ Y) = ((r1G n (r1G n v X).1 Y).1, (r1G n v X).2 ++ (r1G n (r1G n v X).1 Y).2)
  | [], Y, v => rfl
  | x :: X, Y, v => by
    show ((r1G n (ddG n x v) (X ++ Y)).1, ddG n v x :: (r1G n (ddG n x v) (X ++ Y)).2) = _
    rw [r1_app X Y]
    rfl
theorem r1_0 (h2 : 2 ≤ n) (h5 : n ≤ 5) : ∀ (T : List Nat), okT n T → r1G n 0 T = (0, T)
  | [], _ => rfl
  | t :: T, h => by
    obtain ⟨h1, h3⟩ := okT_c.mp h
    show ((r1G n (ddG n t 0) T).1, ddG n 0 t :: (r1G n (ddG n t 0) T).2) = _
    rw [dd_0r h2 h5 h1, dd_0l h2 h5 h1, r1_0 h2 h5 T h3]
/-- a product divides as its factors do, one behind the other -/
theorem r1_mul (h2 : 2 ≤ n) (h5 : n ≤ 5) : ∀ (T : List Nat) {p q s : Nat}, p < gNN n → q < gNN n → muG n p q = s + 1 → okT n T → (r1G n s T).2 = (r1G n q (r1G n p T).2).2 ∧ muG n (r1G n p T).1 (r1G n q (r1G n p T).2).1 = (r1G n s T).1 + 1
  | [], p, q, s, hp, hq, e, _ => ⟨rfl, e⟩
  | t :: T, p, q, s, hp, hq, e, h => by
    obtain ⟨h1, h3⟩ := okT_c.mp h
    have e2 := rR2 h2 h5 hp hq h1 e
    have e1 := rR1 h2 h5 hp hq h1 e
    obtain ⟨a1, a2⟩ := r1_mul h2 h5 T (dd_lt h2 h5 h1 hp) (dd_lt h2 h5 (dd_lt h2 h5 hp h1) hq) e2 h3
    refine ⟨?_, a2⟩
    show ddG n s t :: (r1G n (ddG n t s) T).2 = ddG n q (ddG n p t) :: _
    rw [e1, a1]
theorem eqT_rf (T : List Nat) : eqT n T T := fun _ _ => rfl
theorem eqT_tr {T F H : List Nat} (h1 : eqT n T F) (h3 : eqT n F H) : eqT n T H := fun V hV => (h1 V hV).trans (h3 V hV)
theorem eqT_sy {T F : List Nat} (h1 : eqT n T F) : eqT n F T := fun V hV => (h1 V hV).symm
theorem okT_n : okT n [] := fun t ht => absurd ht List.not_mem_nil
theorem eqT_1 {T F : List Nat} (h : eqT n T F) {v : Nat} (hv : v < gNN n) : (r1G n v T).1 = (r1G n v F).1 ∧ eqT n (r1G n v T).2 (r1G n v F).2 := by
  constructor
  · have := h [v] (okT_c.mpr ⟨hv, okT_n⟩)
    exact (List.cons.inj this).1
  · intro V hV
    have := h (v :: V) (okT_c.mpr ⟨hv, hV⟩)
    exact (List.cons.inj this).2
theorem eq_swp (h2 : 2 ≤ n) (h5 : n ≤ 5) : ∀ (V X Y : List Nat) {a x b a' b' : Nat}, okT n V → okT n X → okT n Y → a < gNN n → x < gNN n → b' < gNN n → muG n a x = a' + 1 → muG n x b' = b + 1 → rsG n V (X ++ a :: b :: Y) = rsG n V (X ++ a' :: b' :: Y)
  | [], _, _, _, _, _, _, _, _, _, _, _, _, _, _, _ => rfl
  | v :: V, X, Y, a, x, b, a', b', hV, hX, hY, ha, hx, hb', e1, e2 => by
    obtain ⟨hv, hV⟩ := okT_c.mp hV
    obtain ⟨x1, x2, -⟩ := r1_ok h2 h5 X hv hX
    have hb := (mu_lt h2 h5 hx e2).1
    have hda := dd_lt h2 h5 ha x1
    have q1 := rR1 h2 h5 ha hx x1 e1
    have q2 := rR1 h2 h5 hx hb' hda e2
    have q3 := rR2 h2 h5 ha hx x1 e1
    have q4 := rR2 h2 h5 hx hb' hda e2
    rw [← q1] at q2 q4
    have hw : ddG n b (ddG n a (r1G n v X).1) < gNN n := dd_lt h2 h5 hb hda
    obtain ⟨y1, y2, -⟩ := r1_ok h2 h5 Y hw hY
    show (r1G n v (X ++ a :: b :: Y)).1 :: rsG n V (r1G n v (X ++ a :: b :: Y)).2 = (r1G n v (X ++ a' :: b' :: Y)).1 :: rsG n V (r1G n v (X ++ a' :: b' :: Y)).2
    rw [r1_app, r1_app]
    show (r1G n (ddG n b (ddG n a (r1G n v X).1)) Y).1 :: rsG n V ((r1G n v X).2 ++ ddG n (r1G n v X).1 a :: ddG n (ddG n a (r1G n v X).1) b :: (r1G n (ddG n b (ddG n a (r1G n v X).1)) Y).2) = (r1G n (ddG n b' (ddG n a' (r1G n v X).1)) Y).1 :: rsG n V ((r1G n v X).2 ++ ddG n (r1G n v X).1 a' :: ddG n (ddG n a' (r1G n v X).1) b' :: (r1G n (ddG n b' (ddG n a' (r1G n v X).1)) Y).2)
    rw [← q2]
    have ih := eq_swp h2 h5 V (r1G n v X).2 (r1G n (ddG n b (ddG n a (r1G n v X).1)) Y).2 hV x2 y2 (dd_lt h2 h5 x1 ha) (dd_lt h2 h5 hda hx) (dd_lt h2 h5 (by rw [q1]; exact dd_lt h2 h5 hx hda) hb') q3 q4
    rw [ih]
theorem eq_id (h2 : 2 ≤ n) (h5 : n ≤ 5) : ∀ (V X Y : List Nat), okT n V → okT n X → okT n Y → rsG n V (X ++ 0 :: Y) = rsG n V (X ++ Y)
  | [], _, _, _, _, _ => rfl
  | v :: V, X, Y, hV, hX, hY => by
    obtain ⟨hv, hV⟩ := okT_c.mp hV
    obtain ⟨x1, x2, -⟩ := r1_ok h2 h5 X hv hX
    obtain ⟨y1, y2, -⟩ := r1_ok h2 h5 Y x1 hY
    show (r1G n v (X ++ 0 :: Y)).1 :: rsG n V (r1G n v (X ++ 0 :: Y)).2 = (r1G n v (X ++ Y)).1 :: rsG n V (r1G n v (X ++ Y)).2
    rw [r1_app, r1_app]
    show (r1G n (ddG n 0 (r1G n v X).1) Y).1 :: rsG n V ((r1G n v X).2 ++ ddG n (r1G n v X).1 0 :: (r1G n (ddG n 0 (r1G n v X).1) Y).2) = _
    rw [dd_0l h2 h5 x1, dd_0r h2 h5 x1, eq_id h2 h5 V _ _ hV x2 y2]
theorem eqT_swp (h2 : 2 ≤ n) (h5 : n ≤ 5) {X Y : List Nat} {a x b a' b' : Nat} (hX : okT n X) (hY : okT n Y) (ha : a < gNN n) (hx : x < gNN n) (hb' : b' < gNN n) (e1 : muG n a x = a' + 1) (e2 : muG n x b' = b + 1) : eqT n (X ++ a :: b :: Y) (X ++ a' :: b' :: Y) := fun V hV => eq_swp h2 h5 V X Y hV hX hY ha hx hb' e1 e2
theorem eqT_id (h2 : 2 ≤ n) (h5 : n ≤ 5) {X Y : List Nat} (hX : okT n X) (hY : okT n Y) : eqT n (X ++ 0 :: Y) (X ++ Y) := fun V hV => eq_id h2 h5 V X Y hV hX hY
theorem eqT_app (h2 : 2 ≤ n) (h5 : n ≤ 5) {b : Nat} (hb : b < gNN n) {T F : List Nat} (hT : okT n T) (hF : okT n F) (h : eqT n T F) : eqT n (T ++ [b]) (F ++ [b]) := by
  intro V
  induction V generalizing T F b with
  | nil => exact fun _ => rfl
  | cons v V ih =>
    intro hV
    obtain ⟨hv, hV⟩ := okT_c.mp hV
    obtain ⟨e1, e2⟩ := eqT_1 h hv
    obtain ⟨t1, t2, -⟩ := r1_ok h2 h5 T hv hT
    obtain ⟨f1, f2, -⟩ := r1_ok h2 h5 F hv hF
    show (r1G n v (T ++ [b])).1 :: rsG n V (r1G n v (T ++ [b])).2 = (r1G n v (F ++ [b])).1 :: rsG n V (r1G n v (F ++ [b])).2
    rw [r1_app, r1_app]
    show ddG n b (r1G n v T).1 :: rsG n V ((r1G n v T).2 ++ [ddG n (r1G n v T).1 b]) = ddG n b (r1G n v F).1 :: rsG n V ((r1G n v F).2 ++ [ddG n (r1G n v F).1 b])
    rw [← e1, ih (dd_lt h2 h5 t1 hb) t2 f2 e2 hV]
theorem ov_lt (h2 : 2 ≤ n) (h5 : n ≤ 5) {v : Nat} (hv : v < gNN n) : ovG n v < gNN n := (f_one h2 h5 hv).2.2.1
theorem okT_ov (h2 : 2 ≤ n) (h5 : n ≤ 5) {T : List Nat} (h : okT n T) : okT n (T.map (ovG n)) := fun t ht => by
  obtain ⟨s, hs, e⟩ := List.mem_map.mp ht
  rw [← e]
  exact ov_lt h2 h5 (h s hs)
theorem r1_ov (h2 : 2 ≤ n) (h5 : n ≤ 5) : ∀ (T : List Nat) {v : Nat}, v < gNN n → okT n T → r1G n (ovG n v) (T.map (ovG n)) = (ovG n (r1G n v T).1, (r1G n v T).2.map (ovG n))
  | [], v, hv, _ => rfl
  | t :: T, v, hv, h => by
    obtain ⟨h1, h3⟩ := okT_c.mp h
    show ((r1G n (ddG n (ovG n t) (ovG n v)) (T.map (ovG n))).1, ddG n (ovG n v) (ovG n t) :: (r1G n (ddG n (ovG n t) (ovG n v)) (T.map (ovG n))).2) = _
    rw [(d_pb h2 h5 h1 hv).2.2, (d_pb h2 h5 hv h1).2.2, r1_ov h2 h5 T (dd_lt h2 h5 h1 hv) h3]
    rfl
theorem rs_ov (h2 : 2 ≤ n) (h5 : n ≤ 5) : ∀ (V T : List Nat), okT n V → okT n T → rsG n (V.map (ovG n)) (T.map (ovG n)) = (rsG n V T).map (ovG n)
  | [], _, _, _ => rfl
  | v :: V, T, hV, hT => by
    obtain ⟨hv, hV⟩ := okT_c.mp hV
    show (r1G n (ovG n v) (T.map (ovG n))).1 :: rsG n (V.map (ovG n)) (r1G n (ovG n v) (T.map (ovG n))).2 = _
    rw [r1_ov h2 h5 T hv hT]
    show ovG n (r1G n v T).1 :: rsG n (V.map (ovG n)) ((r1G n v T).2.map (ovG n)) = _
    rw [rs_ov h2 h5 V _ hV (r1_ok h2 h5 T hv hT).2.1]
    rfl
theorem eqT_ov (h2 : 2 ≤ n) (h5 : n ≤ 5) {T F : List Nat} (hT : okT n T) (hF : okT n F) (h : eqT n T F) : eqT n (T.map (ovG n)) (F.map (ovG n)) := by
  intro V hV
  have e : (V.map (ovG n)).map (ovG n) = V := by
    rw [List.map_map]
    conv => rhs; rw [← List.map_id V]
    exact List.map_congr_left (fun v hv => (d_pk h2 h5 (hV v hv)).2.2.1)
  rw [← e, rs_ov h2 h5 _ T (okT_ov h2 h5 hV) hT, rs_ov h2 h5 _ F (okT_ov h2 h5 hV) hF, h _ (okT_ov h2 h5 hV)]
/-- no letter can go from g' to g -/
def lwG (n g g' : Nat) : Prop := ∀ a, a + 1 < n → moG n g a ≠ 0 → ddG n g' (moG n 0 a - 1) ≠ 0
def wtL (n : Nat) (G : List Nat) : Prop := ∀ i g g', G[i]? = some g → G[i + 1]? = some g' → lwG n g g'
theorem wtL_t {g : Nat} {G : List Nat} (h : wtL n (g :: G)) : wtL n G := fun i a b h1 h3 => h (i + 1) a b h1 h3
theorem lett (h2 : 2 ≤ n) (h5 : n ≤ 5) {a : Nat} (ha : a + 1 < n) : moG n 0 a - 1 < gNN n := by
  have h1 := (f_two h2 h5 nn_0 ha).2.2.1
  have h3 := nn_0 (n := n)
  omega
theorem lw_div (h2 : 2 ≤ n) (h5 : n ≤ 5) : ∀ (G : List Nat) {g v : Nat}, okT n (g :: G) → wtL n (g :: G) → v < gNN n → (r1G n v (g :: G)).1 = 0 → ddG n g v = 0
  | [], g, v, _, _, _, e => e
  | g' :: G, g, v, hk, hw, hv, e => by
    obtain ⟨hg, hk'⟩ := okT_c.mp hk
    obtain ⟨hg', -⟩ := okT_c.mp hk'
    have hu := dd_lt h2 h5 hg hv
    have ih := lw_div h2 h5 G hk' (wtL_t hw) hu e
    refine Classical.byContradiction (fun hne => ?_)
    obtain ⟨a, ha, m1, m2⟩ := (f_fou h2 h5 hg hv).2.2 hne
    exact hw 0 g g' rfl rfl a ha m1 (dv_tr h2 h5 (lett h2 h5 ha) hu hg' m2 ih)
/-- the head of a list that goes like a weighted one -/
theorem hd_1 (h2 : 2 ≤ n) (h5 : n ≤ 5) {T G : List Nat} {g : Nat} (hG : okT n (g :: G)) (h : eqT n T (g :: G)) : (r1G n g T).1 = 0 ∧ eqT n (r1G n g T).2 G := by
  obtain ⟨hg, hG'⟩ := okT_c.mp hG
  obtain ⟨e1, e2⟩ := eqT_1 h hg
  have e : r1G n g (g :: G) = (0, 0 :: G) := by
    show ((r1G n (ddG n g g) G).1, ddG n g g :: (r1G n (ddG n g g) G).2) = _
    rw [dd_s h2 h5 hg, r1_0 h2 h5 G hG']
  rw [e] at e1 e2
  exact ⟨e1, eqT_tr e2 (eqT_id (X := []) h2 h5 okT_n hG')⟩
theorem hd_2 (h2 : 2 ≤ n) (h5 : n ≤ 5) {T G : List Nat} {g h : Nat} (hG : okT n (g :: G)) (hw : wtL n (g :: G)) (he : eqT n T (g :: G)) (hh : h < gNN n) (e : (r1G n h T).1 = 0) : ddG n g h = 0 := lw_div h2 h5 G hG hw hh (by rw [← (eqT_1 he hh).1]; exact e)
/-- where no letter goes on, the head is whole -/
theorem hd_3 (h2 : 2 ≤ n) (h5 : n ≤ 5) {T G : List Nat} {g h : Nat} (hT : okT n T) (hG : okT n (g :: G)) (hw : wtL n (g :: G)) (he : eqT n T (g :: G)) (hh : h < gNN n) (e : (r1G n h T).1 = 0) (hno : ∀ a, a + 1 < n → moG n h a ≠ 0 → (r1G n (moG n 0 a - 1) (r1G n h T).2).1 ≠ 0) : h = g := by
  have hg := (okT_c.mp hG).1
  have d1 := hd_2 h2 h5 hG hw he hh e
  refine dv_as h2 h5 hh hg d1 (Classical.byContradiction (fun hne => ?_))
  obtain ⟨a, ha, m1, m2⟩ := (f_fou h2 h5 hh hg).2.2 hne
  have hq := dd_lt h2 h5 hh hg
  have hT1 := (r1_ok h2 h5 T hh hT).2.1
  obtain ⟨-, k2⟩ := r1_mul h2 h5 T hh hq (dd_mu h2 h5 hh hg d1) hT
  rw [(hd_1 h2 h5 hG he).1, e] at k2
  have k3 : (r1G n (ddG n h g) (r1G n h T).2).1 = 0 := (mu_1 h2 h5 nn_0 (r1_ok h2 h5 _ hq hT1).1 k2).2
  have hl := lett h2 h5 ha
  obtain ⟨-, k4⟩ := r1_mul h2 h5 (r1G n h T).2 hl (dd_lt h2 h5 hl hq) (dd_mu h2 h5 hl hq m2) hT1
  rw [k3] at k4
  obtain ⟨l1, l2, -⟩ := r1_ok h2 h5 (r1G n h T).2 hl hT1
  exact hno a ha m1 (mu_1 h2 h5 l1 (r1_ok h2 h5 _ (dd_lt h2 h5 hl hq) l2).1 k4).1
end NF1
end
section
/-! 99zzzzzzzzzzzzzv.xnf2 -/
/-! normal forms of braids: a simple one comes behind a weighted list -/
section NF2
variable {n : Nat}
theorem as1 (h2 : 2 ≤ n) (h5 : n ≤ 5) {p q s t w : Nat} (hp : p < gNN n) (hq : q < gNN n) (ht : t < gNN n) (e1 : muG n p q = s + 1) (e2 : muG n s t = w + 1) : ∃ r, r < gNN n ∧ muG n q t = r + 1 ∧ muG n p r = w + 1 := by
  have hs := (mu_lt h2 h5 hp e1).1
  have hw := (mu_lt h2 h5 hs e2).1
  obtain ⟨a1, a2⟩ := mu_dd h2 h5 hp hq e1
  obtain ⟨b1, b2⟩ := mu_dd h2 h5 hs ht e2
  have d := dv_tr h2 h5 hp hs hw a1 b1
  have k := rR2 h2 h5 hs ht hp e2
  rw [a2, a1, dd_0l h2 h5 ht] at k
  exact ⟨_, dd_lt h2 h5 hp hw, k, dd_mu h2 h5 hp hw d⟩
theorem as2 (h2 : 2 ≤ n) (h5 : n ≤ 5) {p q s t r w : Nat} (hp : p < gNN n) (hq : q < gNN n) (ht : t < gNN n) (e1 : muG n p q = s + 1) (e2 : muG n q t = r + 1) (e3 : muG n p r = w + 1) : muG n s t = w + 1 := by
  have hs := (mu_lt h2 h5 hp e1).1
  have hr := (mu_lt h2 h5 hq e2).1
  have hw := (mu_lt h2 h5 hp e3).1
  obtain ⟨a1, a2⟩ := mu_dd h2 h5 hp hr e3
  obtain ⟨b1, b2⟩ := mu_dd h2 h5 hq ht e2
  have k := rR2 h2 h5 hp hq hw e1
  rw [a1, a2, b1, mu_l0 h2 h5 nn_0] at k
  have d : ddG n w s = 0 := by omega
  have k2 := dd_mu h2 h5 hs hw d
  rw [rR1 h2 h5 hp hq hw e1, a2, b2] at k2
  exact k2
theorem rvT_0 (h2 : 2 ≤ n) (h5 : n ≤ 5) : rvT n 0 = 0 := by
  have h0 := nn_0 (n := n)
  have hr := (d_pk h2 h5 h0).1
  have e := mu_l0 h2 h5 h0
  have k := (d_pb h2 h5 h0 h0).2.1 (by rw [e]; omega)
  rw [e] at k
  have := (mu_lt h2 h5 hr k).2
  exact sz_z h2 h5 hr (by rw [show 0 + 1 - 1 = 0 from rfl] at this; omega)
/-- two simple ones without a common beginning, and what may come behind both rests -/
theorem domD (h2 : 2 ≤ n) (h5 : n ≤ 5) {s c r U : Nat} (hs : s < gNN n) (hc : c < gNN n) (hr : r < gNN n) (cop : ∀ v, v < gNN n → ddG n s v = 0 → ddG n c v = 0 → v = 0) (hU : muG n s (ddG n s c) = U + 1) (m1 : muG n (ddG n s c) r ≠ 0) (m2 : muG n (ddG n c s) r ≠ 0) : muG n U r ≠ 0 := by
  have hc1 := dd_lt h2 h5 hs hc
  have hs1 := dd_lt h2 h5 hc hs
  have hUl := (mu_lt h2 h5 hs hU).1
  have hU2 : muG n c (ddG n c s) = U + 1 := by rw [← (d_pa h2 h5 hs hc).1]; exact hU
  obtain ⟨A, hA⟩ : ∃ A, A = rvT n (ddG n s c) := ⟨_, rfl⟩
  obtain ⟨B, hB⟩ : ∃ B, B = rvT n (ddG n c s) := ⟨_, rfl⟩
  obtain ⟨S, hS⟩ : ∃ S, S = rvT n s := ⟨_, rfl⟩
  obtain ⟨C, hC⟩ : ∃ C, C = rvT n c := ⟨_, rfl⟩
  obtain ⟨R, hR⟩ : ∃ R, R = rvT n r := ⟨_, rfl⟩
  obtain ⟨V, hV⟩ : ∃ V, V = rvT n U := ⟨_, rfl⟩
  have lA : A < gNN n := by rw [hA]; exact (d_pk h2 h5 hc1).1
  have lB : B < gNN n := by rw [hB]; exact (d_pk h2 h5 hs1).1
  have lS : S < gNN n := by rw [hS]; exact (d_pk h2 h5 hs).1
  have lC : C < gNN n := by rw [hC]; exact (d_pk h2 h5 hc).1
  have lR : R < gNN n := by rw [hR]; exact (d_pk h2 h5 hr).1
  have lV : V < gNN n := by rw [hV]; exact (d_pk h2 h5 hUl).1
  have eA : muG n A S = V + 1 := by
    have := (d_pb h2 h5 hs hc1).2.1 (by rw [hU]; omega)
    rw [hU, Nat.add_sub_cancel, ← hA, ← hS, ← hV] at this
    exact this
  have eB : muG n B C = V + 1 := by
    have := (d_pb h2 h5 hc hs1).2.1 (by rw [hU2]; omega)
    rw [hU2, Nat.add_sub_cancel, ← hB, ← hC, ← hV] at this
    exact this
  have rA : muG n R A ≠ 0 := by
    have := (d_pb h2 h5 hc1 hr).2.1 m1
    rw [← hA, ← hR] at this
    rw [this]
    omega
  have rB : muG n R B ≠ 0 := by
    have := (d_pb h2 h5 hs1 hr).2.1 m2
    rw [← hB, ← hR] at this
    rw [this]
    omega
  have hD : gNN n - 1 < gNN n := by have := nn_0 (n := n); omega
  obtain ⟨M, hM⟩ : ∃ M, M = ddG n R (gNN n - 1) := ⟨_, rfl⟩
  have lM : M < gNN n := by rw [hM]; exact dd_lt h2 h5 lR hD
  have dA : ddG n M A = 0 := by rw [hM]; exact (d_pb h2 h5 lR lA).1.mp rA
  have dB : ddG n M B = 0 := by rw [hM]; exact (d_pb h2 h5 lR lB).1.mp rB
  have lq := dd_lt h2 h5 lA lB
  have lq' := dd_lt h2 h5 lB lA
  obtain ⟨j1, j2⟩ := d_pa h2 h5 lA lB
  obtain ⟨L, hL⟩ : ∃ L, muG n A (ddG n A B) = L + 1 := ⟨muG n A (ddG n A B) - 1, by omega⟩
  have hL' : muG n B (ddG n B A) = L + 1 := by rw [← j1]; exact hL
  have dL : ddG n M L = 0 := by
    have k := rR2 h2 h5 lA lq lM hL
    rw [cubG h2 h5 lA lB lM, dA, dB, dd_0l h2 h5 nn_0, mu_l0 h2 h5 nn_0] at k
    omega
  obtain ⟨u1, u2⟩ := mu_dd h2 h5 lA lS eA
  obtain ⟨w1, w2⟩ := mu_dd h2 h5 lB lC eB
  have q1 : ddG n S (ddG n A B) = 0 := by rw [← rR1 h2 h5 lA lS lB eA]; exact w1
  have q2 : ddG n C (ddG n B A) = 0 := by rw [← rR1 h2 h5 lB lC lA eB]; exact u1
  have e1 := dd_mu h2 h5 lq lS q1
  have e2 := dd_mu h2 h5 lq' lC q2
  have ee : ddG n (ddG n A B) S = ddG n (ddG n B A) C := by
    have a := rR1 h2 h5 lA lq lV hL
    have b := rR1 h2 h5 lB lq' lV hL'
    rw [u2] at a
    rw [w2] at b
    exact a.symm.trans b
  have le := dd_lt h2 h5 lq lS
  have v1 : ddG n s (rvT n (ddG n (ddG n A B) S)) = 0 := by
    have k := (d_pb h2 h5 lq le).2.1 (by rw [e1]; omega)
    rw [e1, Nat.add_sub_cancel] at k
    have k2 := (mu_dd h2 h5 (d_pk h2 h5 le).1 (d_pk h2 h5 lq).1 k).1
    rw [hS, (d_pk h2 h5 hs).2.1] at k2
    rw [hS]
    exact k2
  have v2 : ddG n c (rvT n (ddG n (ddG n A B) S)) = 0 := by
    rw [ee]
    have le' := dd_lt h2 h5 lq' lC
    have k := (d_pb h2 h5 lq' le').2.1 (by rw [e2]; omega)
    rw [e2, Nat.add_sub_cancel] at k
    have k2 := (mu_dd h2 h5 (d_pk h2 h5 le').1 (d_pk h2 h5 lq').1 k).1
    rw [hC, (d_pk h2 h5 hc).2.1] at k2
    rw [hC]
    exact k2
  have e0 : ddG n (ddG n A B) S = 0 := by
    have k := cop _ (d_pk h2 h5 le).1 v1 v2
    have k2 := (d_pk h2 h5 le).2.1
    rw [k, rvT_0 h2 h5] at k2
    exact k2.symm
  rw [e0, mu_r0 h2 h5] at e1
  have eq : ddG n A B = S := by omega
  rw [eq, eA] at hL
  have eL : L = V := by omega
  rw [eL] at dL
  have fin : muG n R V ≠ 0 := (d_pb h2 h5 lR lV).1.mpr (by rw [← hM]; exact dL)
  have k := (d_pb h2 h5 lR lV).2.1 fin
  rw [hV, hR, (d_pk h2 h5 hUl).2.1, (d_pk h2 h5 hr).2.1] at k
  rw [k]
  omega
theorem mu_let (h2 : 2 ≤ n) (h5 : n ≤ 5) {p a : Nat} (ha : a + 1 < n) : muG n p (moG n 0 a - 1) = moG n p a := by
  unfold muG
  rw [ltG_1 h2 h5 ha]
  show (if a + 1 < n then (if moG n p a = 0 then 0 else (moG n p a - 1) + 1) else 0) = _
  rw [if_pos ha]
  by_cases e : moG n p a = 0
  · rw [if_pos e, e]
  · rw [if_neg e]
    omega
theorem mu_sub (h2 : 2 ≤ n) (h5 : n ≤ 5) {p q r : Nat} (hp : p < gNN n) (hq : q < gNN n) (hr : r < gNN n) (m : muG n p q ≠ 0) (d : ddG n q r = 0) : muG n p r ≠ 0 := by
  have hD : gNN n - 1 < gNN n := by have := nn_0 (n := n); omega
  exact (d_pb h2 h5 hp hr).1.mpr (dv_tr h2 h5 hr hq (dd_lt h2 h5 hp hD) d ((d_pb h2 h5 hp hq).1.mp m))
/-- letters that went on to the left leave a weighted pair on the right -/
theorem dom2 (h2 : 2 ≤ n) (h5 : n ≤ 5) {p s x u y t a : Nat} (hp : p < gNN n) (hs : s < gNN n) (hx : x < gNN n) (hy : y < gNN n) (ht : t < gNN n) (hw : lwG n p s) (e1 : muG n s x = u + 1) (m : muG n p y ≠ 0) (e2 : muG n y t = u + 1) (ha : a + 1 < n) (m1 : muG n x (moG n 0 a - 1) ≠ 0) (m2 : muG n t (moG n 0 a - 1) ≠ 0) : muG n u (moG n 0 a - 1) ≠ 0 := by
  have hl := lett h2 h5 ha
  have hu := (mu_lt h2 h5 hs e1).1
  obtain ⟨s1, s2⟩ := mu_dd h2 h5 hs hx e1
  obtain ⟨y1, y2⟩ := mu_dd h2 h5 hy ht e2
  have cop : ∀ v, v < gNN n → ddG n s v = 0 → ddG n y v = 0 → v = 0 := fun v hv d1 d2 => by
    refine Classical.byContradiction (fun hne => ?_)
    have h0 := dd_0l h2 h5 hv
    obtain ⟨b, hb, m1, m2⟩ := (f_fou h2 h5 nn_0 hv).2.2 (by rw [h0]; exact hne)
    rw [h0] at m2
    have hlb := lett h2 h5 hb
    have k := mu_sub h2 h5 hp hv hlb (mu_sub h2 h5 hp hy hv m d2) m2
    rw [mu_let h2 h5 hb] at k
    exact hw b hb k (dv_tr h2 h5 hlb hv hs m2 d1)
  have hc1 := dd_lt h2 h5 hs hy
  have hs1 := dd_lt h2 h5 hy hs
  obtain ⟨j1, j2⟩ := d_pa h2 h5 hs hy
  obtain ⟨U, hU⟩ : ∃ U, muG n s (ddG n s y) = U + 1 := ⟨muG n s (ddG n s y) - 1, by omega⟩
  have hU2 : muG n y (ddG n y s) = U + 1 := by rw [← j1]; exact hU
  have lU := (mu_lt h2 h5 hs hU).1
  have dU : ddG n u U = 0 := by
    have k := rR2 h2 h5 hs hc1 hu hU
    rw [cubG h2 h5 hs hy hu, s1, y1, dd_0l h2 h5 nn_0, mu_l0 h2 h5 nn_0] at k
    omega
  have lz := dd_lt h2 h5 lU hu
  have ez := dd_mu h2 h5 lU hu dU
  have x1 : muG n (ddG n s y) (ddG n U u) = x + 1 := by
    have k := rR2 h2 h5 lU lz hs ez
    obtain ⟨k1, k2⟩ := mu_dd h2 h5 hs hc1 hU
    rw [k2, k1, dd_0l h2 h5 lz, s2] at k
    exact k
  have t1 : muG n (ddG n y s) (ddG n U u) = t + 1 := by
    have k := rR2 h2 h5 lU lz hy ez
    obtain ⟨k1, k2⟩ := mu_dd h2 h5 hy hs1 hU2
    rw [k2, k1, dd_0l h2 h5 lz, y2] at k
    exact k
  obtain ⟨w, hw1⟩ : ∃ w, muG n x (moG n 0 a - 1) = w + 1 := ⟨muG n x (moG n 0 a - 1) - 1, by omega⟩
  obtain ⟨w', hw2⟩ : ∃ w', muG n t (moG n 0 a - 1) = w' + 1 := ⟨muG n t (moG n 0 a - 1) - 1, by omega⟩
  obtain ⟨r, r1, r2, r3⟩ := as1 h2 h5 hc1 lz hl x1 hw1
  obtain ⟨r', r1', r2', r3'⟩ := as1 h2 h5 hs1 lz hl t1 hw2
  have er : r' = r := by rw [r2] at r2'; omega
  rw [er] at r3'
  have fin := domD h2 h5 hs hy r1 cop hU (by rw [r3]; omega) (by rw [r3']; omega)
  obtain ⟨W, hW⟩ : ∃ W, muG n U r = W + 1 := ⟨muG n U r - 1, by omega⟩
  rw [as2 h2 h5 lU lz hl ez r2 hW]
  omega
/-- while letters go to the left: L is what F with one more behind it has become, weighted from i + 1 on -/
def wzI (n : Nat) (F : List Nat) (T L : List Nat) (i : Nat) : Prop := okT n L ∧ L.length = F.length + 1 ∧ eqT n T L ∧ (∀ j, j < i → L[j]? = F[j]?) ∧ (∀ j g g', i ≤ j → L[j]? = some g → L[j + 1]? = some g' → lwG n g g') ∧ (i < F.length → ∃ s x u, F[i]? = some s ∧ L[i]? = some u ∧ x < gNN n ∧ muG n s x = u + 1 ∧ ∀ t a, L[i + 1]? = some t → a + 1 < n → ddG n t (moG n 0 a - 1) = 0 → muG n x (moG n 0 a - 1) ≠ 0)
theorem wz_0 (h2 : 2 ≤ n) (h5 : n ≤ 5) {F T : List Nat} {b : Nat} (hF : okT n F) (hb : b < gNN n) (he : eqT n T (F ++ [b])) : wzI n F T (F ++ [b]) F.length := by
  refine ⟨okT_a.mpr ⟨hF, okT_c.mpr ⟨hb, okT_n⟩⟩, by rw [List.length_append]; rfl, he, fun j hj => List.getElem?_append_left hj, fun j g g' hj _ h9 => ?_, fun h9 => absurd h9 (Nat.lt_irrefl _)⟩
  have := (List.getElem?_eq_some_iff.mp h9).1
  rw [List.length_append] at this
  have : j + 1 < F.length + 1 := this
  omega
/-- the end: weighted -/
theorem wz_end {F T L : List Nat} (hw : wtL n F) (h : wzI n F T L 0) : wtL n L := fun j g g' h1 h3 => h.2.2.2.2.1 j g g' (Nat.zero_le _) h1 h3
theorem wz_stop {F T L : List Nat} {i a b : Nat} (hw : wtL n F) (h : wzI n F T L (i + 1)) (ea : L[i]? = some a) (eb : L[i + 1]? = some b) (hl : lwG n a b) : wtL n L := by
  obtain ⟨h1, h3, h4, h6, h7, h8⟩ := h
  intro j g g' k1 k2
  by_cases c1 : i + 1 ≤ j
  · exact h7 j g g' c1 k1 k2
  · by_cases c2 : j = i
    · subst c2
      rw [ea] at k1
      rw [eb] at k2
      cases k1
      cases k2
      exact hl
    · rw [h6 j (by omega)] at k1
      rw [h6 (j + 1) (by omega)] at k2
      exact hw j g g' k1 k2
/-- one pair is weighed -/
theorem wz_step (h2 : 2 ≤ n) (h5 : n ≤ 5) {F T L : List Nat} {i a b x a' b' : Nat} (hF : okT n F) (hw : wtL n F) (h : wzI n F T L (i + 1)) (ea : L[i]? = some a) (eb : L[i + 1]? = some b) (hx : x < gNN n) (hb' : b' < gNN n) (e1 : muG n a x = a' + 1) (e2 : muG n x b' = b + 1) (hl : lwG n a' b') : wzI n F T ((L.set i a').set (i + 1) b') i := by
  obtain ⟨h1, h3, h4, h6, h7, h8⟩ := h
  have li := (List.getElem?_eq_some_iff.mp ea).1
  have li1 := (List.getElem?_eq_some_iff.mp eb).1
  have ha := h1 a (List.mem_of_getElem? ea)
  have hb := h1 b (List.mem_of_getElem? eb)
  have ha' := (mu_lt h2 h5 ha e1).1
  have eF : F[i]? = some a := by rw [← h6 i (by omega)]; exact ea
  have sp : L = L.take i ++ a :: b :: L.drop (i + 2) := by
    conv => lhs; rw [← List.take_append_drop i L]
    congr 1
    rw [List.drop_eq_getElem_cons li, List.drop_eq_getElem_cons li1, Option.some.inj ((List.getElem?_eq_getElem li).symm.trans ea), Option.some.inj ((List.getElem?_eq_getElem li1).symm.trans eb)]
  have lt : (L.take i).length = i := by rw [List.length_take]; omega
  have sp2 : (L.set i a').set (i + 1) b' = L.take i ++ a' :: b' :: L.drop (i + 2) := by
    conv => lhs; rw [sp]
    rw [List.set_append_right _ _ (by omega), lt, Nat.sub_self, List.set_cons_zero, List.set_append_right _ _ (by omega), lt, show i + 1 - i = 1 by omega, List.set_cons_succ, List.set_cons_zero]
  have okX : okT n (L.take i) := fun t ht => h1 t (List.mem_of_mem_take ht)
  have okY : okT n (L.drop (i + 2)) := fun t ht => h1 t (List.mem_of_mem_drop ht)
  have g0 : ((L.set i a').set (i + 1) b')[i]? = some a' := by
    rw [sp2, List.getElem?_append_right (by omega), lt, Nat.sub_self]
    rfl
  have g1 : ((L.set i a').set (i + 1) b')[i + 1]? = some b' := by
    rw [sp2, List.getElem?_append_right (by omega), lt, show i + 1 - i = 1 by omega]
    rfl
  have go : ∀ j, j ≠ i → j ≠ i + 1 → ((L.set i a').set (i + 1) b')[j]? = L[j]? := fun j c1 c2 => by
    rw [List.getElem?_set_ne (Ne.symm c2), List.getElem?_set_ne (Ne.symm c1)]
  refine ⟨?_, by rw [List.length_set, List.length_set]; exact h3, ?_, fun j hj => by rw [go j (by omega) (by omega)]; exact h6 j (by omega), fun j g g' hj k1 k2 => ?_, fun hi => ?_⟩
  · rw [sp2]
    exact okT_a.mpr ⟨okX, okT_c.mpr ⟨ha', okT_c.mpr ⟨hb', okY⟩⟩⟩
  · rw [sp2]
    refine eqT_tr h4 ?_
    have := eqT_swp h2 h5 okX okY ha hx hb' e1 e2
    rw [← sp] at this
    exact this
  · by_cases c1 : j = i
    · subst c1
      rw [g0] at k1
      rw [g1] at k2
      cases k1
      cases k2
      exact hl
    · by_cases c2 : j = i + 1
      · subst c2
        rw [g1] at k1
        rw [go (i + 1 + 1) (by omega) (by omega)] at k2
        cases k1
        have l2 := (List.getElem?_eq_some_iff.mp k2).1
        obtain ⟨s, x0, u, s1, s2, s3, s4, s5⟩ := h8 (by omega)
        rw [eb] at s2
        cases s2
        have hs : s < gNN n := hF s (List.mem_of_getElem? s1)
        intro c hc m1 d1
        have k := dom2 h2 h5 ha hs s3 hx hb' (hw i a s eF s1) s4 (by rw [e1]; omega) e2 hc (s5 g' c k2 hc d1) (by rw [mu_let h2 h5 hc]; exact m1)
        rw [mu_let h2 h5 hc] at k
        exact h7 (i + 1) b g' (Nat.le_refl _) eb k2 c hc k d1
      · rw [go j c1 c2] at k1
        rw [go (j + 1) (by omega) (by omega)] at k2
        exact h7 j g g' (by omega) k1 k2
  · refine ⟨a, x, a', eF, g0, hx, e1, fun t c k1 hc d1 => ?_⟩
    rw [g1] at k1
    cases k1
    exact mu_sub h2 h5 hx hb' (lett h2 h5 hc) (by rw [e2]; omega) d1
/-- in a weighted list deltas stand in front, and nothing else than 1 behind 1 -/
theorem dl_lt : gNN n - 1 < gNN n := by have := nn_0 (n := n); omega
theorem lw_D (h2 : 2 ≤ n) (h5 : n ≤ 5) {g : Nat} (hg : g < gNN n) (h : lwG n g (gNN n - 1)) : g = gNN n - 1 := by
  refine dv_as h2 h5 hg dl_lt (d_pk h2 h5 hg).2.2.2.2 (Classical.byContradiction (fun hne => ?_))
  obtain ⟨a, ha, m1, m2⟩ := (f_fou h2 h5 hg dl_lt).2.2 hne
  exact h a ha m1 (d_pk h2 h5 (lett h2 h5 ha)).2.2.2.2
theorem lw_0 (h2 : 2 ≤ n) (h5 : n ≤ 5) {g : Nat} (hg : g < gNN n) (h : lwG n 0 g) : g = 0 := by
  refine Classical.byContradiction (fun hne => ?_)
  obtain ⟨a, ha, m1, m2⟩ := (f_fou h2 h5 nn_0 hg).2.2 (by rw [dd_0l h2 h5 hg]; exact hne)
  rw [dd_0l h2 h5 hg] at m2
  exact h a ha m1 m2
theorem let_ne (h2 : 2 ≤ n) (h5 : n ≤ 5) {a : Nat} (ha : a + 1 < n) : moG n 0 a - 1 ≠ 0 := fun e => by
  have h1 := ((f_two h2 h5 nn_0 ha).2.2.2 (f_fiv h2 h5 ha).1).1
  rw [e] at h1
  omega
theorem lw_Dl (h2 : 2 ≤ n) (h5 : n ≤ 5) {g : Nat} : lwG n (gNN n - 1) g := fun a ha m1 => by
  exfalso
  have hl := lett h2 h5 ha
  rw [← mu_let h2 h5 ha] at m1
  have := (d_pb h2 h5 dl_lt hl).1.mp m1
  rw [dd_s h2 h5 dl_lt, dd_0l h2 h5 hl] at this
  exact let_ne h2 h5 ha this
/-- what a form may be: weighted, without delta and without 1 -/
def nfL (n : Nat) (F : List Nat) : Prop := okT n F ∧ wtL n F ∧ ∀ g, g ∈ F → g ≠ 0 ∧ g ≠ gNN n - 1
theorem wtL_d {L : List Nat} (h : wtL n L) (d : Nat) : wtL n (L.drop d) := fun i g g' h1 h3 => by
  rw [List.getElem?_drop] at h1 h3
  exact h (d + i) g g' h1 h3
theorem wtL_k {L : List Nat} (h : wtL n L) (d : Nat) : wtL n (L.take d) := fun i g g' h1 h3 => by
  have l := (List.getElem?_eq_some_iff.mp h3).1
  rw [List.length_take] at l
  rw [List.getElem?_take_of_lt (by omega)] at h1 h3
  exact h i g g' h1 h3
theorem no_D (h2 : 2 ≤ n) (h5 : n ≤ 5) {L : List Nat} (hk : okT n L) (hw : wtL n L) (h0 : ∀ g, L[0]? = some g → g ≠ gNN n - 1) : ∀ (i g : Nat), L[i]? = some g → g ≠ gNN n - 1
  | 0, g, e => h0 g e
  | i + 1, g, e => fun e9 => by
    have l := (List.getElem?_eq_some_iff.mp e).1
    have e1 : L[i]? = some L[i] := List.getElem?_eq_getElem (by omega)
    have k := hw i _ _ e1 e
    rw [e9] at k
    exact no_D h2 h5 hk hw h0 i _ e1 (lw_D h2 h5 (hk _ (List.mem_of_getElem? e1)) k)
theorem al_0 (h2 : 2 ≤ n) (h5 : n ≤ 5) {L : List Nat} (hk : okT n L) (hw : wtL n L) {i : Nat} (e : L[i]? = some 0) : ∀ (d g : Nat), L[i + d]? = some g → g = 0
  | 0, g, e1 => by
    rw [Nat.add_zero, e] at e1
    exact (Option.some.inj e1).symm
  | d + 1, g, e1 => by
    have l := (List.getElem?_eq_some_iff.mp e1).1
    have e2 : L[i + d]? = some L[i + d] := List.getElem?_eq_getElem (by omega)
    have k := hw (i + d) _ _ e2 e1
    rw [al_0 h2 h5 hk hw e d _ e2] at k
    exact lw_0 h2 h5 (hk _ (List.mem_of_getElem? e1)) k
/-- deltas in front and 1 behind taken away -/
theorem nf_strip (h2 : 2 ≤ n) (h5 : n ≤ 5) {L : List Nat} (hk : okT n L) (hw : wtL n L) {d e : Nat} (hde : d + e ≤ L.length) (h1 : ∀ i g, i < d → L[i]? = some g → g = gNN n - 1) (h3 : d < L.length → ∀ g, L[d]? = some g → g ≠ gNN n - 1) (h4 : ∀ i g, d + e ≤ i → L[i]? = some g → g = 0) (h6 : 0 < e → ∀ g, L[d + e - 1]? = some g → g ≠ 0) : nfL n ((L.drop d).take e) ∧ eqT n L (List.replicate d (gNN n - 1) ++ (L.drop d).take e) := by
  have hkd : okT n (L.drop d) := fun t ht => hk t (List.mem_of_mem_drop ht)
  have hwd := wtL_d hw d
  have nd := no_D h2 h5 hkd hwd (fun g hg => by
    have l := (List.getElem?_eq_some_iff.mp hg).1
    rw [List.length_drop] at l
    rw [List.getElem?_drop, Nat.add_zero] at hg
    exact h3 (by omega) g hg)
  have ge : ∀ i g, ((L.drop d).take e)[i]? = some g → i < e ∧ L[d + i]? = some g := fun i g hg => by
    have l := (List.getElem?_eq_some_iff.mp hg).1
    rw [List.length_take] at l
    rw [List.getElem?_take_of_lt (by omega), List.getElem?_drop] at hg
    exact ⟨by omega, hg⟩
  refine ⟨⟨fun t ht => hkd t (List.mem_of_mem_take ht), wtL_k hwd e, fun g hg => ?_⟩, ?_⟩
  · obtain ⟨i, hi⟩ := List.getElem?_of_mem hg
    obtain ⟨i1, i2⟩ := ge i g hi
    refine ⟨fun e0 => ?_, nd i g (by rw [List.getElem?_drop]; exact i2)⟩
    rw [e0] at i2
    have l : d + e - 1 < L.length := by omega
    have e3 : L[d + e - 1]? = some L[d + e - 1] := List.getElem?_eq_getElem l
    have := al_0 h2 h5 hk hw i2 (e - 1 - i) L[d + e - 1] (by rw [show d + i + (e - 1 - i) = d + e - 1 by omega]; exact e3)
    exact h6 (by omega) _ e3 this
  · have sp : L = List.replicate d (gNN n - 1) ++ ((L.drop d).take e ++ (L.drop (d + e))) := by
      conv => lhs; rw [← List.take_append_drop d L, ← List.take_append_drop e (L.drop d), List.drop_drop]
      congr 1
      refine List.ext_getElem? (fun i => ?_)
      by_cases hi : i < d
      · rw [List.getElem?_take_of_lt hi, List.getElem?_replicate, if_pos hi, List.getElem?_eq_getElem (by omega)]
        exact congrArg some (h1 i _ hi (List.getElem?_eq_getElem (by omega)))
      · rw [List.getElem?_eq_none (by rw [List.length_take]; omega), List.getElem?_eq_none (by rw [List.length_replicate]; omega)]
    have z : L.drop (d + e) = List.replicate (L.length - (d + e)) 0 := by
      refine List.ext_getElem? (fun i => ?_)
      rw [List.getElem?_drop, List.getElem?_replicate]
      by_cases hi : i < L.length - (d + e)
      · rw [if_pos hi, List.getElem?_eq_getElem (by omega)]
        exact congrArg some (h4 (d + e + i) _ (by omega) (List.getElem?_eq_getElem (by omega)))
      · rw [if_neg hi, List.getElem?_eq_none (by omega)]
    have drop0 : ∀ (m : Nat) (X : List Nat), okT n X → eqT n (X ++ List.replicate m 0) X := by
      intro m
      induction m with
      | zero =>
        intro X _
        rw [List.replicate_zero, List.append_nil]
        exact eqT_rf X
      | succ m ih =>
        intro X hX
        rw [List.replicate_succ]
        exact eqT_tr (eqT_id h2 h5 hX (fun t ht => by rw [(List.mem_replicate.mp ht).2]; exact nn_0)) (ih X hX)
    conv => lhs; rw [sp, z]
    rw [← List.append_assoc]
    exact drop0 _ _ (okT_a.mpr ⟨fun t ht => by rw [(List.mem_replicate.mp ht).2]; exact dl_lt, fun t ht => hkd t (List.mem_of_mem_take ht)⟩)
end NF2
end
section
/-! 99zzzzzzzzzzzzzw.xnf3 -/
/-! normal forms of braids: the reference, exactly -/
section NF3
variable {n : Nat}
/-- words that make the simple ones T -/
def bvG (n : Nat) : List (List Nat) → List Nat → Prop
  | [], [] => True
  | c :: C, t :: T => evG n 0 c = t + 1 ∧ t < gNN n ∧ bvG n C T
  | _, _ => False
theorem bv_bl : ∀ (C : List (List Nat)) (T : List Nat), bvG n C T → blG n C ∧ okT n T ∧ C.length = T.length
  | [], [], _ => ⟨bl_nil, okT_n, rfl⟩
  | [], t :: T, h => h.elim
  | c :: C, [], h => h.elim
  | c :: C, t :: T, h => by
    obtain ⟨a1, a2, a3⟩ := bv_bl C T h.2.2
    refine ⟨fun w hw => ?_, okT_c.mpr ⟨h.2.1, a2⟩, by rw [List.length_cons, List.length_cons, a3]⟩
    rcases List.mem_cons.mp hw with e | hw
    · rw [e]
      exact ⟨t, h.2.1, h.1⟩
    · exact a1 w hw
theorem bv_app : ∀ (C : List (List Nat)) (T : List Nat) {c : List Nat} {t : Nat}, bvG n C T → evG n 0 c = t + 1 → t < gNN n → bvG n (C ++ [c]) (T ++ [t])
  | [], [], c, t, _, e, ht => ⟨e, ht, trivial⟩
  | [], t :: T, _, _, h, _, _ => h.elim
  | c :: C, [], _, _, h, _, _ => h.elim
  | c :: C, t :: T, c', t', h, e, ht => ⟨h.1, h.2.1, bv_app C T h.2.2 e ht⟩
theorem bv_flip (h2 : 2 ≤ n) (h5 : n ≤ 5) : ∀ (C : List (List Nat)) (T : List Nat), bvG n C T → bvG n (C.map (List.map (fun a => n - 2 - a))) (T.map (ovG n))
  | [], [], _ => trivial
  | [], t :: T, h => h.elim
  | c :: C, [], h => h.elim
  | c :: C, t :: T, h => by
    have := ev_flip h2 h5 c nn_0 h.1
    rw [ov_0 h2 h5] at this
    exact ⟨this, ov_lt h2 h5 h.2.1, bv_flip h2 h5 C T h.2.2⟩
theorem bv_rv (h2 : 2 ≤ n) (h5 : n ≤ 5) : ∀ (C : List (List Nat)) (T : List Nat) {v : Nat}, v < gNN n → bvG n C T → ∃ C', bvG n C' (r1G n v T).2 ∧ C'.length = C.length ∧ (rvG n v C.flatten).1 = C'.flatten ∧ (rvG n v C.flatten).2 = (r1G n v T).1
  | [], [], v, hv, _ => ⟨[], trivial, rfl, rfl, rfl⟩
  | [], t :: T, _, _, h => h.elim
  | c :: C, [], _, _, h => h.elim
  | c :: C, t :: T, v, hv, h => by
    obtain ⟨k1, k2⟩ := gv_simple0 h2 h5 hv h.1
    obtain ⟨C', b1, b2, b3, b4⟩ := bv_rv h2 h5 C T (dd_lt h2 h5 h.2.1 hv) h.2.2
    refine ⟨(rvG n v c).1 :: C', ⟨k2, dd_lt h2 h5 hv h.2.1, b1⟩, by rw [List.length_cons, List.length_cons, b2], ?_, ?_⟩
    · rw [List.flatten_cons, gv_app, k1, b3, List.flatten_cons]
    · rw [List.flatten_cons, gv_app, k1]
      exact b4
theorem bv_e : ∀ (C : List (List Nat)) (T : List Nat), bvG n C T → C.flatten = [] → ∀ t, t ∈ T → t = 0
  | [], [], _, _, t, ht => absurd ht List.not_mem_nil
  | [], t :: T, h, _, _, _ => h.elim
  | c :: C, [], h, _, _, _ => h.elim
  | c :: C, t :: T, h, e, s, hs => by
    rw [List.flatten_cons] at e
    obtain ⟨e1, e2⟩ := List.append_eq_nil_iff.mp e
    rcases List.mem_cons.mp hs with e9 | hs
    · have := h.1
      rw [e1] at this
      have : (0 : Nat) + 1 = t + 1 := this
      omega
    · exact bv_e C T h.2.2 e2 s hs
theorem bv_z (h2 : 2 ≤ n) (h5 : n ≤ 5) : ∀ (C : List (List Nat)) (T : List Nat), bvG n C T → (∀ t, t ∈ T → t = 0) → C.flatten = []
  | [], [], _, _ => rfl
  | [], t :: T, h, _ => h.elim
  | c :: C, [], h, _ => h.elim
  | c :: C, t :: T, h, e => by
    have l := (ev_len h2 h5 c nn_0 h.1).2.1
    rw [e t List.mem_cons_self, sz_0 h2 h5] at l
    have hc : c = [] := List.eq_nil_of_length_eq_zero (by omega)
    rw [List.flatten_cons, hc, bv_z h2 h5 C T h.2.2 (fun s hs => e s (List.mem_cons_of_mem _ hs))]
    rfl
theorem r1_z (h2 : 2 ≤ n) (h5 : n ≤ 5) : ∀ (T : List Nat) {v : Nat}, v < gNN n → (∀ t, t ∈ T → t = 0) → (r1G n v T).1 = v
  | [], _, _, _ => rfl
  | t :: T, v, hv, h => by
    show (r1G n (ddG n t v) T).1 = v
    rw [h t List.mem_cons_self, dd_0l h2 h5 hv]
    exact r1_z h2 h5 T hv (fun s hs => h s (List.mem_cons_of_mem _ hs))
theorem eq_nil (h2 : 2 ≤ n) (h5 : n ≤ 5) : ∀ (T : List Nat), okT n T → (∀ v, v < gNN n → (r1G n v T).1 = v) → ∀ t, t ∈ T → t = 0
  | [], _, _, t, ht => absurd ht List.not_mem_nil
  | t :: T, hk, h, s, hs => by
    obtain ⟨ht, hk'⟩ := okT_c.mp hk
    have t0 : t = 0 := by
      have k := h t ht
      have k : (r1G n (ddG n t t) T).1 = t := k
      rw [dd_s h2 h5 ht, r1_0 h2 h5 T hk'] at k
      exact k.symm
    rcases List.mem_cons.mp hs with e | hs
    · rw [e]
      exact t0
    · refine eq_nil h2 h5 T hk' (fun v hv => ?_) s hs
      have k := h v hv
      have k : (r1G n (ddG n t v) T).1 = v := k
      rw [t0, dd_0l h2 h5 hv] at k
      exact k
end NF3
section NF4
variable {z : ow_MS} {n : Nat}
theorem xr_normalise {k : Int32} {B : List (List Nat)} {T0 G0 : List Nat} (h2 : 2 ≤ n) (h5 : n ≤ 5) (hT : tbG z) (hB : bvG n B T0) (hr : B.length ≤ 18) (hw : lnI z 109 108 B.flatten) (hG : okT n G0) (hwt : wtL n G0) (hnz : ∀ g, g ∈ G0 → g ≠ 0) (he : eqT n T0 G0) : Te (fun K => qe_X13_normalise K (nI n) k z) (fun z1 => fmI z1 n (G0.filter (fun g => decide (g ≠ gNN n - 1))) ∧ z1.1 112 = k + nI (G0.countP (fun g => decide (g = gNN n - 1)))) := by
  have hN := nn_pos (n := n)
  let Q : ow_MS → Prop := fun z1 => fmI z1 n (G0.filter (fun g => decide (g ≠ gNN n - 1))) ∧ z1.1 112 = k + nI (G0.countP (fun g => decide (g = gNN n - 1)))
  have tF : ∀ {y : ow_MS}, fr nmH z y → tbG y := fun hf => tbG_fr hf (fun g hg => by unfold nmH at hg; omega) hT
  have hz0 : szG n 0 = 0 := sz_0 h2 h5
  have h00 : 0 < gNN n := by omega
  have c1 : ∀ (G : List Nat) (C : List (List Nat)) (T S : List Nat) (t : Nat) (y : ow_MS), okT n G → wtL n G → (∀ g, g ∈ G → g ≠ 0) → bvG n C T → C.length ≤ 18 → eqT n T G → S.length + t + C.flatten.length ≤ 180 → S ++ G.filter (fun g => decide (g ≠ gNN n - 1)) = G0.filter (fun g => decide (g ≠ gNN n - 1)) → t + G.countP (fun g => decide (g = gNN n - 1)) = G0.countP (fun g => decide (g = gNN n - 1)) → lnI y 109 108 C.flatten → fmI y n S → y.1 112 = k + nI t → fr nmH z y → Tt (fun K i => q_X13_normalise K i 1 (nI n) k (nI (gNN n - 1)) 0 0 0 0 0 y) Q := by
    intro G
    induction G with
    | nil =>
      intro C T S t y _ _ _ hC hC18 he hS e1 e2 hw hfm h112 hf
      have hz := bv_z h2 h5 C T hC (eq_nil h2 h5 T (bv_bl C T hC).2.1 (fun v hv => (eqT_1 he hv).1))
      rw [hz] at hw
      refine u_X13_normalise_1 ?_; unfold qm_X13_normalise_1
      refine w_rdF hw.1 (w_leT (b := 0) (by omega) (Nat.le_refl _) (w_some ⟨?_, ?_⟩))
      · rw [← e1]
        show fmI y n (S ++ [])
        rw [List.append_nil]
        exact hfm
      · rw [← e2]
        exact h112
    | cons g G ih =>
      intro C T S t y hG hwt hnz hC hC18 he hS e1 e2 hw hfm h112 hf
      obtain ⟨hbC, hokT, hlen⟩ := bv_bl C T hC
      obtain ⟨hg, hG'⟩ := okT_c.mp hG
      have hg0 := hnz g List.mem_cons_self
      obtain ⟨d1, d2⟩ := hd_1 h2 h5 hG he
      have hne : C.flatten ≠ [] := fun e9 => by
        have := r1_z h2 h5 T hg (bv_e C T hC e9)
        rw [d1] at this
        exact hg0 this.symm
      have c2 : ∀ (dd h : Nat) (C1 : List (List Nat)) (y : ow_MS), szG n h + dd = 10 → h < gNN n → (r1G n h T).1 = 0 → bvG n C1 (r1G n h T).2 → C1.length = C.length → C1.flatten.length + szG n h = C.flatten.length → lnI y 109 108 C1.flatten → fmI y n S → y.1 112 = k + nI t → fr nmH z y → Tt (fun K i => q_X13_normalise K i 2 (nI n) k (nI (gNN n - 1)) (nI h) 1 0 0 0 y) Q := by
        intro dd
        induction dd using Nat.strongRecOn with
        | ind dd ihd =>
        intro h C1 y hdd hh hr0 hbv hC1 hlw hw hfm h112 hf
        have hT1 := (r1_ok h2 h5 T hh hokT).2.1
        have hbl := (bv_bl C1 _ hbv).1
        have hl18 : C1.length ≤ 18 := by omega
        have hfl := (bl_len h2 h5 _ hbl).1
        have fin : (∀ b, b + 1 < n → moG n h b = 0 ∨ C1.flatten = [] ∨ (rvG n (moG n 0 b - 1) C1.flatten).2 ≠ 0) → ∀ (y : ow_MS), lnI y 109 108 C1.flatten → fmI y n S → y.1 112 = k + nI t → fr nmH z y → Tt (fun K i => q_X13_normalise K i 2 (nI n) k (nI (gNN n - 1)) (nI h) 0 0 0 0 y) Q := by
          intro hno y hw hfm h112 hf
          have ehg : h = g := hd_3 h2 h5 hokT hG hwt he hh hr0 (fun a ha m1 e9 => by
            rcases hno a ha with h9 | h9 | h9
            · exact m1 h9
            · have := r1_z h2 h5 _ (lett h2 h5 ha) (bv_e C1 _ hbv h9)
              rw [e9] at this
              exact let_ne h2 h5 ha this.symm
            · obtain ⟨C', -, -, -, q⟩ := bv_rv h2 h5 C1 _ (lett h2 h5 ha) hbv
              rw [q] at h9
              exact h9 e9)
          have hsz : 1 ≤ szG n h := by
            rcases Nat.eq_zero_or_pos (szG n h) with h9 | h9
            · exact absurd (sz_z h2 h5 hh h9) (by rw [ehg]; exact hg0)
            · exact h9
          rw [ehg] at hbv
          have c7 : ∀ (S' : List Nat) (t' : Nat) (y : ow_MS), S'.length + t' ≤ S.length + t + 1 → S' ++ G.filter (fun g => decide (g ≠ gNN n - 1)) = G0.filter (fun g => decide (g ≠ gNN n - 1)) → t' + G.countP (fun g => decide (g = gNN n - 1)) = G0.countP (fun g => decide (g = gNN n - 1)) → lnI y 109 108 C1.flatten → fmI y n S' → y.1 112 = k + nI t' → fr nmH z y → Tt (fun K i => q_X13_normalise K i 7 (nI n) k (nI (gNN n - 1)) (nI h) 0 0 0 0 y) Q := by
            intro S' t' y a1 a2 a3 a4 a5 a6 a7
            refine u_X13_normalise_7 ?_; unfold qm_X13_normalise_7
            exact ih C1 _ S' t' y hG' (wtL_t hwt) (fun g hg => hnz g (List.mem_cons_of_mem _ hg)) hbv hl18 d2 (by omega) a2 a3 a4 a5 a6 a7
          refine u_X13_normalise_2 ?_; unfold qm_X13_normalise_2
          refine w_ifT rfl (w_eqN (by omega) (by omega) (fun hd => ?_) (fun hd => ?_))
          · refine w_rdF h112 (w_wrF (c7 S (t + 1) _ (by omega) ?_ ?_ ⟨rf_ot (by omega) hw.1, hw.2⟩ ⟨⟨rf_ot (by omega) hfm.1.1, hfm.1.2⟩, hfm.2⟩ ?_ (fr_F2 hf (by unfold nmH; omega))))
            · rw [← e1, List.filter_cons_of_neg (by rw [← ehg, hd]; simp)]
            · rw [← e2, List.countP_cons_of_pos (by rw [← ehg, hd]; simp)]
              omega
            · rw [po_usF_at, Int32.add_assoc, nI_1]
          · refine w_rdF hfm.1.1 (w_wrI ml114 rfl (by omega) (w_rdF (x := nI S.length) hfm.1.1 (w_wrF (c7 (S ++ [h]) t _ ?_ ?_ ?_ ⟨rf_ot (by omega) hw.1, fun i a hi => rd_ot (by omega) (hw.2 i a hi)⟩ ⟨lnI_add hfm.1, fun s hs => ?_⟩ (rf_ot (by omega) h112) (fr_F2 (fr_I2 hf (by unfold nmH; omega)) (by unfold nmH; omega))))))
            · rw [List.length_append]
              show S.length + 1 + t ≤ _
              omega
            · rw [← e1, List.filter_cons_of_pos (by rw [← ehg]; exact decide_eq_true hd), ehg, List.append_assoc]
              rfl
            · rw [← e2, List.countP_cons_of_neg (by rw [← ehg]; simp [hd])]
            · rcases List.mem_append.mp hs with h9 | h9
              · exact hfm.2 s h9
              · rw [List.mem_singleton.mp h9]; exact hh
        have c3 : ∀ (d a : Nat) (y : ow_MS), a + d + 1 = n → (∀ b, b < a → moG n h b = 0 ∨ C1.flatten = [] ∨ (rvG n (moG n 0 b - 1) C1.flatten).2 ≠ 0) → lnI y 109 108 C1.flatten → fmI y n S → y.1 112 = k + nI t → fr nmH z y → Tt (fun K i => q_X13_normalise K i 3 (nI n) k (nI (gNN n - 1)) (nI h) 0 (nI a) 0 0 y) Q := by
          intro d
          induction d with
          | zero =>
            intro a y ha hno hw hfm h112 hf
            refine u_X13_normalise_3 ?_; unfold qm_X13_normalise_3
            rw [show nI n - 1 = nI (n - 1) from pk_sub (b := 1) (by omega)]
            refine w_leT (by omega) (by omega) ?_
            refine u_X13_normalise_6 ?_; unfold qm_X13_normalise_6
            exact fin (fun b hb => hno b (by omega)) y hw hfm h112 hf
          | succ d ih3 =>
            intro a y ha hno hw hfm h112 hf
            have ha1 : a + 1 < n := by omega
            have hTh := (((tF hf) n h2 h5).2 h hh).2.2.2.2 a ha1
            obtain ⟨t1, t2, t3, t4⟩ := f_two h2 h5 hh ha1
            have hl := lett h2 h5 ha1
            have c5 : ∀ (x7 : Int32) (y : ow_MS), (moG n h a = 0 ∨ C1.flatten = [] ∨ (rvG n (moG n 0 a - 1) C1.flatten).2 ≠ 0) → lnI y 109 108 C1.flatten → fmI y n S → y.1 112 = k + nI t → fr nmH z y → Tt (fun K i => q_X13_normalise K i 5 (nI n) k (nI (gNN n - 1)) (nI h) 0 (nI a) x7 0 y) Q := by
              intro x7 y hno2 hw hfm h112 hf
              refine u_X13_normalise_5 ?_; unfold qm_X13_normalise_5
              rw [nI_1]
              refine ih3 (a + 1) y (by omega) (fun b hb => ?_) hw hfm h112 hf
              by_cases hba : b = a
              · rw [hba]; exact hno2
              · exact hno b (by omega)
            refine u_X13_normalise_3 ?_; unfold qm_X13_normalise_3
            rw [show nI n - 1 = nI (n - 1) from pk_sub (b := 1) (by omega), ix4]
            refine w_leF (by omega) (by omega) (w_ifT rfl (w_rdI ml101 rfl (by omega) hTh.1 ?_))
            by_cases hmo : moG n h a = 0
            · rw [if_pos hmo]
              exact w_ifT rfl (c5 _ y (Or.inl hmo) hw hfm h112 hf)
            · rw [if_neg hmo]
              refine w_ifF (rn_neg1 (by omega)) (w_rdF hw.1 (w_le (b := 0) (by omega) (by omega) (fun h0 => c5 _ y (Or.inr (Or.inl (List.length_eq_zero_iff.mp (by omega)))) hw hfm h112 hf) (fun hpos => w_cs1 (tp_begins h2 h5 ha1 (tF hf) hbl hl18 hw) (fun v y2 ⟨ev, hq, f2⟩ => ?_))))
              have ev : v = bZ (decide ((rvG n (moG n 0 a - 1) C1.flatten).2 = 0)) := ev
              have hq : lnI y2 111 110 (rvG n (moG n 0 a - 1) C1.flatten).1 := hq
              have f2 : fr (fun g => g = 110 ∨ g = 111) y y2 := f2
              have hf2 : fr nmH z y2 := fr_tr hf (fr_mono (fun g hg => by unfold nmH; omega) f2)
              have hw2 : lnI y2 109 108 C1.flatten := lnI_fr f2 (by omega) (by omega) hw
              have hfm2 : fmI y2 n S := ⟨lnI_fr f2 (by omega) (by omega) hfm.1, hfm.2⟩
              have h112b : y2.1 112 = k + nI t := by rw [(f2 112 (by omega)).1]; exact h112
              by_cases hdv : (rvG n (moG n 0 a - 1) C1.flatten).2 = 0
              · rw [decide_eq_true hdv] at ev
                rw [ev]
                obtain ⟨C', q1, q2, q3, q4⟩ := bv_rv h2 h5 C1 _ hl hbv
                obtain ⟨B9, -, -, b3, -, b5⟩ := bl_rv h2 h5 C1 hl hbl
                rw [hdv, hz0, ← b3, q3] at b5
                rw [hdv] at q4
                have hsz1 : szG n (moG n 0 a - 1) = 1 := by
                  have := ((f_two h2 h5 h00 ha1).2.2.2 (f_fiv h2 h5 ha1).1).1
                  omega
                have emu : muG n h (moG n 0 a - 1) = (moG n h a - 1) + 1 := by rw [mu_let h2 h5 ha1]; omega
                obtain ⟨p1, p2⟩ := r1_mul h2 h5 T hh hl emu hokT
                rw [hr0, ← q4, mu_l0 h2 h5 h00] at p2
                rw [q3] at hq
                generalize hqq : C'.flatten = q at *
                have hql : q.length ≤ 180 := by omega
                refine w_ifF (by decide) (w_rdF hq.1 (w_wrF ?_))
                have c4 : ∀ (d4 j : Nat) (y : ow_MS), j + d4 = q.length → y.1 109 = nI q.length → lnI y 111 110 q → (∀ i b, i < j → q[i]? = some b → y.2.1 108 i = nI b) → fmI y n S → y.1 112 = k + nI t → fr nmH z y → Tt (fun K i => q_X13_normalise K i 4 (nI n) k (nI (gNN n - 1)) (nI (moG n h a - 1)) 0 (nI a) (nI (moG n h a - 1)) (nI j) y) Q := by
                  intro d4
                  induction d4 with
                  | zero =>
                    intro j y hj h109 hq hcp hfm h112 hf
                    refine u_X13_normalise_4 ?_; unfold qm_X13_normalise_4
                    refine w_rdF h109 (w_leT (by omega) (by omega) ?_)
                    refine u_X13_normalise_5 ?_; unfold qm_X13_normalise_5
                    rw [nI_1]
                    have c3' : Tt (fun K i => q_X13_normalise K i 6 (nI n) k (nI (gNN n - 1)) (nI (moG n h a - 1)) 1 (nI (a + 1)) 0 0 y) Q := by
                      refine u_X13_normalise_6 ?_; unfold qm_X13_normalise_6
                      have s1 := (t4 hmo).1
                      have s2 := (f_one h2 h5 (k := moG n h a - 1) (by omega)).1
                      exact ihd (dd - 1) (by omega) (moG n h a - 1) C' y (by omega) (by omega) (by omega) (by rw [p1]; exact q1) (by omega) (by rw [hqq]; omega) (by rw [hqq]; exact ⟨h109, fun i b hi => hcp i b (by have := (List.getElem?_eq_some_iff.mp hi).1; omega) hi⟩) hfm h112 hf
                    refine u_X13_normalise_3 ?_; unfold qm_X13_normalise_3
                    rw [show nI n - 1 = nI (n - 1) from pk_sub (b := 1) (by omega)]
                    exact w_le (by omega) (by omega) (fun _ => c3') (fun _ => w_ifF (by decide) c3')
                  | succ d4 ih4 =>
                    intro j y hj h109 hq hcp hfm h112 hf
                    have hjl : j < q.length := by omega
                    refine u_X13_normalise_4 ?_; unfold qm_X13_normalise_4
                    rw [nI_1]
                    refine w_rdF h109 (w_leF (by omega) hjl (w_rdI ml110 rfl (by omega) (hq.2 j _ (List.getElem?_eq_getElem hjl)) (w_wrI ml108 rfl (by omega) (ih4 (j + 1) _ (by omega) h109 ⟨hq.1, fun i b hi => rd_ot (by omega) (hq.2 i b hi)⟩ (fun i b hi hb => ?_) ⟨⟨hfm.1.1, fun i b hi => rd_ot (by omega) (hfm.1.2 i b hi)⟩, hfm.2⟩ h112 (fr_I2 hf (by unfold nmH; omega))))))
                    by_cases hij : i = j
                    · rw [hij] at hb
                      rw [List.getElem?_eq_getElem hjl] at hb
                      cases hb
                      rw [hij, po_usI_at]
                    · exact rd_ne hij (hcp i b (by omega) hb)
                exact c4 q.length 0 _ (by omega) po_usF_at ⟨rf_ot (by omega) hq.1, hq.2⟩ (fun i b hi => absurd hi (by omega)) ⟨⟨rf_ot (by omega) hfm2.1.1, hfm2.1.2⟩, hfm2.2⟩ (rf_ot (by omega) h112b) (fr_F2 hf2 (by unfold nmH; omega))
              · rw [decide_eq_false hdv] at ev
                rw [ev]
                exact w_ifT rfl (c5 _ y2 (Or.inr (Or.inr hdv)) hw2 hfm2 h112b hf2)
        refine u_X13_normalise_2 ?_; unfold qm_X13_normalise_2
        exact w_ifF (by decide) (c3 (n - 1) 0 y (by omega) (fun b hb => absurd hb (by omega)) hw hfm h112 hf)
      have hpos : 0 < C.flatten.length := List.length_pos_iff.mpr hne
      refine u_X13_normalise_1 ?_; unfold qm_X13_normalise_1
      refine w_rdF hw.1 (w_leF (b := 0) (by omega) (by omega) ?_)
      refine c2 10 0 C y (by omega) h00 ?_ ?_ rfl (by omega) hw hfm h112 hf
      · rw [r1_0 h2 h5 T hokT]
      · rw [r1_0 h2 h5 T hokT]
        exact hC
  have hTn := (hT n h2 h5).1
  have hfl := (bl_len h2 h5 B (bv_bl B T0 hB).1).1
  refine e_X13_normalise ?_
  refine u_X13_normalise_0 ?_; unfold qm_X13_normalise_0
  refine w_wrF (w_wrF (w_rdI ml97 rfl (by omega) hTn ?_))
  rw [show nI (gNN n) - 1 = nI (gNN n - 1) from pk_sub (b := 1) (by omega)]
  refine c1 G0 B T0 [] 0 _ hG hwt hnz hB hr he (by rw [List.length_nil]; omega) rfl (Nat.zero_add _) ⟨rf_ot (by omega) (rf_ot (by omega) hw.1), hw.2⟩ ⟨⟨po_usF_at, fun i a hi => by simp at hi⟩, fun s hs => absurd hs List.not_mem_nil⟩ ?_ (fr_F2 (fr_F (by unfold nmH; omega)) (by unfold nmH; omega))
  rw [po_usF_ot (by omega), po_usF_at]
  exact (Int32.add_zero k).symm
end NF4
/-- a letter, small or capital -/
def lx9 (p : Nat × Bool) : Int32 := if p.2 then -1 - nI p.1 else nI (p.1 + 1)
def stB9 (n : Nat) (p : Nat × Bool) (S : List Nat × Int) : List Nat × Int := if p.2 then (S.1.map (ovG n) ++ [ahG n (moG n 0 p.1 - 1)], S.2 - 1) else (S.1 ++ [moG n 0 p.1 - 1], S.2)
def foT (n : Nat) (w : Nat → Nat × Bool) : Nat → List Nat × Int
  | 0 => ([], 0)
  | i + 1 => stB9 n (w i) (foT n w i)
section NF5
variable {z : ow_MS} {n : Nat}
theorem wt_D (h2 : 2 ≤ n) (h5 : n ≤ 5) {F : List Nat} (hw : wtL n F) : ∀ {j : Nat}, wtL n (List.replicate j (gNN n - 1) ++ F)
  | 0 => by
    rw [List.replicate_zero, List.nil_append]
    exact hw
  | j + 1 => by
    intro i g g' h1 h3
    rw [List.replicate_succ] at h1 h3
    cases i with
    | zero =>
      have h1 : some (gNN n - 1) = some g := h1
      cases h1
      exact lw_Dl h2 h5
    | succ i => exact wt_D h2 h5 hw (j := j) i g g' h1 h3
theorem xr_formOf {b l : Nat} {w : Nat → Nat × Bool} {F : List Nat} {j9 : Nat} (hb : b < 20) (hh : hBr z b n l) (hT : tbG z) (hwd : ∀ i, i < l → (w i).1 + 1 < n ∧ z.2.1 94 (16 * b + i) = lx9 (w i)) (hF : nfL n F) (he : eqT n (foT n w l).1 (List.replicate j9 (gNN n - 1) ++ F)) : Te (fun K => qe_X13_formOf K (nI b) z) (fun z1 => fmI z1 n F ∧ z1.1 112 = iI ((foT n w l).2 + j9)) := by
  obtain ⟨h2, h5, hl, e96, e95, -⟩ := hh
  have hN := nn_pos (n := n)
  let Q : ow_MS → Prop := fun z1 => fmI z1 n F ∧ z1.1 112 = iI ((foT n w l).2 + j9)
  have hdl := dl_lt (n := n)
  have hG : okT n (List.replicate j9 (gNN n - 1) ++ F) := okT_a.mpr ⟨fun t ht => by rw [(List.mem_replicate.mp ht).2]; exact hdl, hF.1⟩
  have hD0 : gNN n - 1 ≠ 0 := fun e => by omega
  have hwt : wtL n (List.replicate j9 (gNN n - 1) ++ F) := wt_D h2 h5 hF.2.1
  have hnz : ∀ g, g ∈ List.replicate j9 (gNN n - 1) ++ F → g ≠ 0 := fun g hg => by
    rcases List.mem_append.mp hg with h9 | h9
    · rw [(List.mem_replicate.mp h9).2]
      exact hD0
    · exact (hF.2.2 g h9).1
  have tF : ∀ {y : ow_MS}, fr nmH z y → tbG y := fun hf => tbG_fr hf (fun g hg => by unfold nmH at hg; omega) hT
  have rF : ∀ {y : ow_MS} {g i : Nat}, fr nmH z y → g ≤ 96 → y.2.1 g i = z.2.1 g i := fun hf hg => by rw [(hf _ (by unfold nmH; omega)).2.1]
  have c1 : ∀ (d i g : Nat) (B : List (List Nat)) (y : ow_MS), i + d = l → g ≤ i → B.length = i → bvG n B (foT n w i).1 → (foT n w i).2 = -(g : Int) → lnI y 109 108 B.flatten → fr nmH z y → Tt (fun K t => q_X13_formOf K t 1 (nI b) (nI n) (iI (-(g : Int))) (nI i) 0 0 y) Q := by
    intro d
    induction d with
    | zero =>
      intro i g B y hi hg hBl hB hg9 hw hf
      have hblB := (bv_bl B _ hB).1
      have hfl := (bl_len h2 h5 B hblB).1
      refine u_X13_formOf_1 ?_; unfold qm_X13_formOf_1
      have hil : i = l := by omega
      refine w_rdI ml95 rfl (by omega) (by rw [rF hf (by omega)]; exact e95) (w_leT (by omega) (by omega) (w_cs0 (xr_normalise h2 h5 (tF hf) hB (by omega) hw hG hwt hnz (by rw [hil]; exact he)) (fun y1 ⟨f1, f3⟩ => w_some ⟨?_, ?_⟩)))
      · rw [List.filter_append, List.filter_eq_nil_iff.mpr (fun g hg => by rw [(List.mem_replicate.mp hg).2]; simp), List.nil_append, List.filter_eq_self.mpr (fun g hg => decide_eq_true (hF.2.2 g hg).2)] at f1
        exact f1
      · rw [List.countP_append, List.countP_eq_length.mpr (fun g hg => by rw [(List.mem_replicate.mp hg).2]; simp), List.countP_eq_zero.mpr (fun g hg => by have := (hF.2.2 g hg).2; simp [this]), List.length_replicate, Nat.add_zero] at f3
        rw [← hil, hg9, f3, nI_iI, iI_add]
    | succ d ih =>
      intro i g B y hi hg hBl hB hg9 hw hf
      have hblB := (bv_bl B _ hB).1
      have hfl := (bl_len h2 h5 B hblB).1
      obtain ⟨ha, hx⟩ := hwd i (by omega)
      rcases hwi : w i with ⟨a, sg9⟩
      rw [hwi] at ha hx
      have ha : a + 1 < n := ha
      have eS : foT n w (i + 1) = stB9 n (a, sg9) (foT n w i) := by rw [← hwi]; rfl
      have e94 : y.2.1 94 (16 * b + i) = z.2.1 94 (16 * b + i) := rF hf (by omega)
      have z1 := (f_fiv h2 h5 ha).1
      have hm0 := (f_two h2 h5 (k := 0) (by omega) ha).2.2.1
      refine u_X13_formOf_1 ?_; unfold qm_X13_formOf_1
      rw [show (16 : Int32) * nI b = nI (16 * b) from pk_mul 16 b, nI_add]
      refine w_rdI ml95 rfl (by omega) (by rw [rF hf (by omega)]; exact e95) (w_leF (by omega) (by omega) ?_)
      cases sg9 with
      | false =>
        have hx : z.2.1 94 (16 * b + i) = nI (a + 1) := hx
        refine w_rdI ml94 rfl (by omega) (e94.trans hx) (w_leF (b := 0) (by omega) (by omega) (w_rdF hw.1 ?_))
        rw [show nI (a + 1) - 1 = nI a from (pk_sub (a := a + 1) (b := 1) (by omega)).trans (by rw [Nat.add_sub_cancel])]
        refine w_wrI ml108 rfl (by omega) (w_rdF (x := nI B.flatten.length) hw.1 (w_wrF ?_))
        refine u_X13_formOf_3 ?_; unfold qm_X13_formOf_3
        rw [nI_1]
        refine ih (i + 1) g (B ++ [[a]]) _ (by omega) (by omega) (by rw [List.length_append, hBl]; rfl) ?_ (by rw [eS]; exact hg9) ?_ (fr_F2 (fr_I2 hf (by unfold nmH; omega)) (by unfold nmH; omega))
        · rw [eS]
          have := (f_one h2 h5 (k := moG n 0 a - 1) (by omega)).2.2.2.2.1
          rw [ltG_1 h2 h5 ha] at this
          exact bv_app B _ hB this (show moG n 0 a - 1 < gNN n by omega)
        · rw [List.flatten_append]
          have := lnI_add (a := a) hw
          exact this
      | true =>
        have hx : z.2.1 94 (16 * b + i) = -1 - nI a := hx
        have hle : (-1 - nI a : Int32) ≤ 0 := by
          rw [nI_iI]
          show iI (-1) - iI (a : Int) ≤ iI 0
          rw [iI_sub, iI_le (by omega) (by omega) (by omega) (by omega)]
          omega
        have eix : (480 : Int32) * nI n - (-1 - nI a) - 1 = nI (480 * n + a) := by
          rw [nI_iI n, nI_iI a]
          show iI 480 * iI (n : Int) - (iI (-1) - iI (a : Int)) - iI 1 = _
          rw [iI_mul, iI_sub, iI_sub, iI_sub]
          exact iI_nI (by omega)
        refine w_rdI ml94 rfl (by omega) (e94.trans hx) (w_ifT hle ?_)
        rw [show iI (-(g : Int)) + (-1) = iI (-((g + 1 : Nat) : Int)) from by
          show iI (-(g : Int)) + iI (-1) = _
          rw [iI_add]
          exact congrArg iI (by omega)]
        have c2 : ∀ (d2 t : Nat) (y : ow_MS), t + d2 = B.flatten.length → y.1 109 = nI B.flatten.length → (∀ j c, j < t → B.flatten[j]? = some c → y.2.1 108 j = nI (n - 2 - c)) → (∀ j c, t ≤ j → B.flatten[j]? = some c → y.2.1 108 j = nI c) → fr nmH z y → Tt (fun K k => q_X13_formOf K k 2 (nI b) (nI n) (iI (-((g + 1 : Nat) : Int))) (nI i) (-1 - nI a) (nI t) y) Q := by
          intro d2
          induction d2 with
          | zero =>
            intro t y ht h109 hc1 hc2 hf
            have hT0 := (((tF hf) n h2 h5).2 0 (by omega)).2.2.2.2 a ha
            rw [if_neg z1] at hT0
            have hs : moG n 0 a - 1 < gNN n := by omega
            have hTs := (((tF hf) n h2 h5).2 _ hs).2.1
            have hah := (f_one h2 h5 hs).2.1
            have e101 : y.2.1 101 (480 * n + a) = nI (moG n 0 a - 1) := by
              have := hT0.1
              rw [show 4 * (120 * n + 0) + a = 480 * n + a by omega] at this
              exact this
            have hw2 : lnI y 109 108 (B.map (List.map (fun a => n - 2 - a))).flatten := by
              rw [← List.map_flatten]
              refine ⟨by rw [List.length_map]; exact h109, fun j c hj => ?_⟩
              rw [List.getElem?_map] at hj
              cases hc : B.flatten[j]? with
              | none => rw [hc] at hj; cases hj
              | some c0 =>
                rw [hc] at hj
                cases hj
                exact hc1 j c0 (by have := (List.getElem?_eq_some_iff.mp hc).1; omega) hc
            have hBf := bl_flip h2 h5 hblB
            have hflf := (bl_len h2 h5 _ hBf).1
            rw [List.length_map] at hflf
            refine u_X13_formOf_2 ?_; unfold qm_X13_formOf_2
            rw [eix]
            refine w_rdF h109 (w_leT (by omega) (by omega) (w_rdI ml101 rfl (by omega) e101 ?_))
            rw [ix120]
            refine w_rdI ml102 rfl (by omega) hTs (w_cs0 (tp_append h2 h5 hah (tF hf) hw2 (by omega)) (fun y1 ⟨w1, f1⟩ => ?_))
            refine u_X13_formOf_3 ?_; unfold qm_X13_formOf_3
            rw [nI_1]
            refine ih (i + 1) (g + 1) (B.map (List.map (fun a => n - 2 - a)) ++ [ltG n (ahG n (moG n 0 a - 1))]) y1 (by omega) (by omega) (by rw [List.length_append, List.length_map, hBl]; rfl) (by rw [eS]; exact bv_app _ _ (bv_flip h2 h5 B _ hB) (f_one h2 h5 hah).2.2.2.2.1 hah) (by rw [eS]; show (foT n w i).2 - 1 = _; rw [hg9]; omega) ?_ (fr_tr hf (fr_mono (fun g hg => by unfold nmH; omega) f1))
            rw [List.flatten_append]
            have : [ltG n (ahG n (moG n 0 a - 1))].flatten = ltG n (ahG n (moG n 0 a - 1)) := by simp
            rw [this]
            exact w1
          | succ d2 ih2 =>
            intro t y ht h109 hc1 hc2 hf
            have htl : t < B.flatten.length := by omega
            have hc := (bl_len h2 h5 B hblB).2 _ (List.getElem_mem htl)
            have hrd := hc2 t _ (Nat.le_refl _) (List.getElem?_eq_getElem htl)
            generalize hce : B.flatten[t] = c at *
            refine u_X13_formOf_2 ?_; unfold qm_X13_formOf_2
            refine w_rdF h109 (w_leF (by omega) htl (w_rdI ml108 rfl (by omega) hrd ?_))
            rw [show nI n - 2 - nI c = nI (n - 2 - c) from by rw [show nI n - 2 = nI (n - 2) from pk_sub (b := 2) h2]; exact pk_sub (by omega), show nI t + 1 = nI (t + 1) from nI_1 _]
            refine w_wrI ml108 rfl (by omega) (ih2 (t + 1) _ (by omega) h109 (fun j c9 hj hj9 => ?_) (fun j c9 hj hj9 => rd_ne (by omega) (hc2 j c9 (by omega) hj9)) (fr_I2 hf (by unfold nmH; omega)))
            by_cases hjt : j = t
            · rw [hjt, List.getElem?_eq_getElem htl, hce] at hj9
              cases hj9
              rw [hjt, po_usI_at]
            · exact rd_ne hjt (hc1 j c9 (by omega) hj9)
        exact c2 B.flatten.length 0 y (by omega) hw.1 (fun j c hj => absurd hj (by omega)) (fun j c _ hj => hw.2 j c hj) hf
  refine e_X13_formOf ?_
  refine u_X13_formOf_0 ?_; unfold qm_X13_formOf_0
  refine w_rdI ml96 rfl (by omega) e96 (w_wrF ?_)
  exact c1 l 0 0 [] (usF z 109 0) (by omega) (Nat.le_refl _) rfl trivial rfl ⟨po_usF_at, fun i a hi => by simp at hi⟩ (fr_F (by unfold nmH; omega))
end NF5
end
section
/-! 99zzzzzzzzzzzzzx.xnf4 -/
/-! normal forms: simple braids as the class packs them, checked -/
def pkS (n k : Nat) : Nat → Int32
  | 0 => 0
  | j + 1 => pkS n k j ||| (nI (enG n k j) <<< (((4 * nI j) : Int32) &&& 31))
def pkG (n k : Nat) : Int32 := pkS n k n
def ivG (n k : Nat) : Int32 := foV (pkG n k) n
def gQk (n k : Nat) : Bool := decide (foV (ivG n k) n = pkG n k) && decide (foU (pkG n k) n n = pkG n (ovG n k)) && (decide (pkG n k = foE n) == decide (k = 0)) && (decide (pkG n k = foD n n) == decide (k = gNN n - 1))
def gQa (n k a : Nat) : Bool := !decide (a + 1 < n) || ((decide (foJ (ivG n k) (nI a) < foJ (ivG n k) (nI a + 1)) == decide (moG n k a ≠ 0)) && (decide (foJ (pkG n k) (nI a + 1) < foJ (pkG n k) (nI a)) == decide (ddG n k (moG n 0 a - 1) = 0)) && (decide (moG n k a = 0) || decide (foX (ivG n k) (nI a) = ivG n (moG n k a - 1))) && (decide (ddG n k (moG n 0 a - 1) ≠ 0) || decide (foX (pkG n k) (nI a) = pkG n (ddG n (moG n 0 a - 1) k))))
def gQl (n a : Nat) : Bool := !decide (a + 1 < n) || (decide (foX (foE n) (nI a) = pkG n (moG n 0 a - 1)) && decide (foV (foX (foV (foD n n) n) (nI a)) n = pkG n (ahG n (moG n 0 a - 1))) && decide (ovG n (moG n 0 a - 1) = moG n 0 (n - 2 - a) - 1))
def gQj (n k j : Nat) : Bool := !decide (j < n) || decide (foJ (pkG n k) (nI j) = nI (enG n k j))
def gQi (n k l : Nat) : Bool := decide (pkG n k = pkG n l) == decide (k = l)
theorem qk_2 : ∀ k : Fin 2, gQk 2 k.val = true := by decide +kernel
theorem qa_2 : ∀ k : Fin 2, ∀ a : Fin 4, gQa 2 k.val a.val = true := by decide +kernel
theorem ql_2 : ∀ a : Fin 4, gQl 2 a.val = true := by decide +kernel
theorem qj_2 : ∀ k : Fin 2, ∀ j : Fin 5, gQj 2 k.val j.val = true := by decide +kernel
theorem qi_2 : ∀ k : Fin 2, ∀ l : Fin 2, gQi 2 k.val l.val = true := by decide +kernel
theorem qk_3 : ∀ k : Fin 6, gQk 3 k.val = true := by decide +kernel
theorem qa_3 : ∀ k : Fin 6, ∀ a : Fin 4, gQa 3 k.val a.val = true := by decide +kernel
theorem ql_3 : ∀ a : Fin 4, gQl 3 a.val = true := by decide +kernel
theorem qj_3 : ∀ k : Fin 6, ∀ j : Fin 5, gQj 3 k.val j.val = true := by decide +kernel
theorem qi_3 : ∀ k : Fin 6, ∀ l : Fin 6, gQi 3 k.val l.val = true := by decide +kernel
theorem qk_4 : ∀ k : Fin 24, gQk 4 k.val = true := by decide +kernel
theorem qa_4 : ∀ k : Fin 24, ∀ a : Fin 4, gQa 4 k.val a.val = true := by decide +kernel
theorem ql_4 : ∀ a : Fin 4, gQl 4 a.val = true := by decide +kernel
theorem qj_4 : ∀ k : Fin 24, ∀ j : Fin 5, gQj 4 k.val j.val = true := by decide +kernel
theorem qi_4 : ∀ k : Fin 24, ∀ l : Fin 24, gQi 4 k.val l.val = true := by decide +kernel
theorem qk_5 : ∀ k : Fin 120, gQk 5 k.val = true := by decide +kernel
theorem qa_5 : ∀ k : Fin 120, ∀ a : Fin 4, gQa 5 k.val a.val = true := by decide +kernel
theorem ql_5 : ∀ a : Fin 4, gQl 5 a.val = true := by decide +kernel
theorem qj_5 : ∀ k : Fin 120, ∀ j : Fin 5, gQj 5 k.val j.val = true := by decide +kernel
theorem qi_5 : ∀ k : Fin 120, ∀ l : Fin 120, gQi 5 k.val l.val = true := by decide +kernel
section NF6
variable {n : Nat}
theorem qk_n (h2 : 2 ≤ n) (h5 : n ≤ 5) {k : Nat} (hk : k < gNN n) : gQk n k = true := by
  rcases nn_c h2 h5 with rfl | rfl | rfl | rfl
  · exact qk_2 ⟨k, hk⟩
  · exact qk_3 ⟨k, hk⟩
  · exact qk_4 ⟨k, hk⟩
  · exact qk_5 ⟨k, hk⟩
theorem qa_n (h2 : 2 ≤ n) (h5 : n ≤ 5) {k a : Nat} (hk : k < gNN n) (ha : a < 4) : gQa n k a = true := by
  rcases nn_c h2 h5 with rfl | rfl | rfl | rfl
  · exact qa_2 ⟨k, hk⟩ ⟨a, ha⟩
  · exact qa_3 ⟨k, hk⟩ ⟨a, ha⟩
  · exact qa_4 ⟨k, hk⟩ ⟨a, ha⟩
  · exact qa_5 ⟨k, hk⟩ ⟨a, ha⟩
theorem ql_n (h2 : 2 ≤ n) (h5 : n ≤ 5) {a : Nat} (ha : a < 4) : gQl n a = true := by
  rcases nn_c h2 h5 with rfl | rfl | rfl | rfl
  · exact ql_2 ⟨a, ha⟩
  · exact ql_3 ⟨a, ha⟩
  · exact ql_4 ⟨a, ha⟩
  · exact ql_5 ⟨a, ha⟩
theorem qj_n (h2 : 2 ≤ n) (h5 : n ≤ 5) {k j : Nat} (hk : k < gNN n) (hj : j < 5) : gQj n k j = true := by
  rcases nn_c h2 h5 with rfl | rfl | rfl | rfl
  · exact qj_2 ⟨k, hk⟩ ⟨j, hj⟩
  · exact qj_3 ⟨k, hk⟩ ⟨j, hj⟩
  · exact qj_4 ⟨k, hk⟩ ⟨j, hj⟩
  · exact qj_5 ⟨k, hk⟩ ⟨j, hj⟩
theorem qi_n (h2 : 2 ≤ n) (h5 : n ≤ 5) {k l : Nat} (hk : k < gNN n) (hl : l < gNN n) : gQi n k l = true := by
  rcases nn_c h2 h5 with rfl | rfl | rfl | rfl
  · exact qi_2 ⟨k, hk⟩ ⟨l, hl⟩
  · exact qi_3 ⟨k, hk⟩ ⟨l, hl⟩
  · exact qi_4 ⟨k, hk⟩ ⟨l, hl⟩
  · exact qi_5 ⟨k, hk⟩ ⟨l, hl⟩
theorem d_qk (h2 : 2 ≤ n) (h5 : n ≤ 5) {k : Nat} (hk : k < gNN n) : foV (ivG n k) n = pkG n k ∧ foU (pkG n k) n n = pkG n (ovG n k) ∧ (pkG n k = foE n ↔ k = 0) ∧ (pkG n k = foD n n ↔ k = gNN n - 1) := by
  have := qk_n h2 h5 hk
  unfold gQk at this
  simp only [Bool.and_eq_true, decide_eq_true_eq, beq_iff_eq, decide_eq_decide] at this
  exact ⟨this.1.1.1, this.1.1.2, this.1.2, this.2⟩
theorem d_qa (h2 : 2 ≤ n) (h5 : n ≤ 5) {k a : Nat} (hk : k < gNN n) (ha : a + 1 < n) : (foJ (ivG n k) (nI a) < foJ (ivG n k) (nI a + 1) ↔ moG n k a ≠ 0) ∧ (foJ (pkG n k) (nI a + 1) < foJ (pkG n k) (nI a) ↔ ddG n k (moG n 0 a - 1) = 0) ∧ (moG n k a ≠ 0 → foX (ivG n k) (nI a) = ivG n (moG n k a - 1)) ∧ (ddG n k (moG n 0 a - 1) = 0 → foX (pkG n k) (nI a) = pkG n (ddG n (moG n 0 a - 1) k)) := by
  have := qa_n h2 h5 hk (a := a) (by omega)
  unfold gQa at this
  rw [decide_eq_true ha] at this
  simp only [Bool.not_true, Bool.false_or, Bool.and_eq_true, Bool.or_eq_true, decide_eq_true_eq, beq_iff_eq, decide_eq_decide] at this
  obtain ⟨⟨⟨a1, a2⟩, a3⟩, a4⟩ := this
  exact ⟨a1, a2, fun h => a3.resolve_left h, fun h => a4.resolve_left (fun h9 => h9 h)⟩
theorem d_ql (h2 : 2 ≤ n) (h5 : n ≤ 5) {a : Nat} (ha : a + 1 < n) : foX (foE n) (nI a) = pkG n (moG n 0 a - 1) ∧ foV (foX (foV (foD n n) n) (nI a)) n = pkG n (ahG n (moG n 0 a - 1)) ∧ ovG n (moG n 0 a - 1) = moG n 0 (n - 2 - a) - 1 := by
  have := ql_n h2 h5 (a := a) (by omega)
  unfold gQl at this
  rw [decide_eq_true ha] at this
  simp only [Bool.not_true, Bool.false_or, Bool.and_eq_true, decide_eq_true_eq] at this
  exact ⟨this.1.1, this.1.2, this.2⟩
theorem d_qj (h2 : 2 ≤ n) (h5 : n ≤ 5) {k j : Nat} (hk : k < gNN n) (hj : j < n) : foJ (pkG n k) (nI j) = nI (enG n k j) := by
  have := qj_n h2 h5 hk (j := j) (by omega)
  unfold gQj at this
  rw [decide_eq_true hj] at this
  simp only [Bool.not_true, Bool.false_or, decide_eq_true_eq] at this
  exact this
theorem d_qi (h2 : 2 ≤ n) (h5 : n ≤ 5) {k l : Nat} (hk : k < gNN n) (hl : l < gNN n) (e : pkG n k = pkG n l) : k = l := by
  have := qi_n h2 h5 hk hl
  unfold gQi at this
  simp only [beq_iff_eq, decide_eq_decide] at this
  exact this.mp e
end NF6
end
