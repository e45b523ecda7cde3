section
/-! 99zzzzzzzzzzzzzt.xnf0 -/
/-! simple braids: products, residues, reversed ones, checked -/
def gRV2 : Nat := 0x80
def gRV3 : Nat := 0x2830808080
def gRV4 : Nat := 0x2e50a962048793222868b183848710102860608080
def gRV5 : Nat := 0xefcfa75edaf6f0d5bb8ece5bee60cb773e2bf930e8c76f369bd329cdaf42454b32a4d69f2ec5a9d4a8d58eda0b96b0a2b77ae9fb164fa233811a1b470ede2056b90aa5eb0fa34a993a450756b05279117366079a3858811244ca15323860d12285850e184040608080
def gRV (n : Nat) : Nat := if n = 5 then gRV5 else if n = 4 then gRV4 else if n = 3 then gRV3 else gRV2
def rvT (n k : Nat) : Nat := dgN (gRV n) 7 k
/-- the product of two simple ones, plus 1; 0 if it isn't simple -/
def muG (n p q : Nat) : Nat := evG n p (ltG n q)
def gPa (n p q : Nat) : Bool := decide (muG n p (ddG n p q) = muG n q (ddG n q p)) && decide (muG n p (ddG n p q) ≠ 0)
def gPb (n p q : Nat) : Bool := (decide (muG n p q = 0) == !decide (ddG n (ddG n p (gNN n - 1)) q = 0)) && (decide (muG n p q = 0) || decide (muG n (rvT n q) (rvT n p) = rvT n (muG n p q - 1) + 1)) && decide (ddG n (ovG n p) (ovG n q) = ovG n (ddG n p q))
def gPk (n k : Nat) : Bool := decide (rvT n k < gNN n) && decide (rvT n (rvT n k) = k) && decide (ovG n (ovG n k) = k) && decide (ddG n k k = 0) && decide (ddG n (gNN n - 1) k = 0)
theorem pa_2 : ∀ p : Fin 2, ∀ q : Fin 2, gPa 2 p.val q.val = true := by decide +kernel
theorem pb_2 : ∀ p : Fin 2, ∀ q : Fin 2, gPb 2 p.val q.val = true := by decide +kernel
theorem pk_29 : ∀ k : Fin 2, gPk 2 k.val = true := by decide +kernel
theorem pa_3 : ∀ p : Fin 6, ∀ q : Fin 6, gPa 3 p.val q.val = true := by decide +kernel
theorem pb_3 : ∀ p : Fin 6, ∀ q : Fin 6, gPb 3 p.val q.val = true := by decide +kernel
theorem pk_39 : ∀ k : Fin 6, gPk 3 k.val = true := by decide +kernel
theorem pa_4 : ∀ p : Fin 24, ∀ q : Fin 24, gPa 4 p.val q.val = true := by decide +kernel
theorem pb_4 : ∀ p : Fin 24, ∀ q : Fin 24, gPb 4 p.val q.val = true := by decide +kernel
theorem pk_49 : ∀ k : Fin 24, gPk 4 k.val = true := by decide +kernel
theorem pa_5 : ∀ p : Fin 120, ∀ q : Fin 120, gPa 5 p.val q.val = true := by decide +kernel
theorem pb_5 : ∀ p : Fin 120, ∀ q : Fin 120, gPb 5 p.val q.val = true := by decide +kernel
theorem pk_59 : ∀ k : Fin 120, gPk 5 k.val = true := by decide +kernel
section NF0
variable {n : Nat}
theorem pa_n (h2 : 2 ≤ n) (h5 : n ≤ 5) {p q : Nat} (hp : p < gNN n) (hq : q < gNN n) : gPa n p q = true := by
  rcases nn_c h2 h5 with rfl | rfl | rfl | rfl
  · exact pa_2 ⟨p, hp⟩ ⟨q, hq⟩
  · exact pa_3 ⟨p, hp⟩ ⟨q, hq⟩
  · exact pa_4 ⟨p, hp⟩ ⟨q, hq⟩
  · exact pa_5 ⟨p, hp⟩ ⟨q, hq⟩
theorem pb_n (h2 : 2 ≤ n) (h5 : n ≤ 5) {p q : Nat} (hp : p < gNN n) (hq : q < gNN n) : gPb n p q = true := by
  rcases nn_c h2 h5 with rfl | rfl | rfl | rfl
  · exact pb_2 ⟨p, hp⟩ ⟨q, hq⟩
  · exact pb_3 ⟨p, hp⟩ ⟨q, hq⟩
  · exact pb_4 ⟨p, hp⟩ ⟨q, hq⟩
  · exact pb_5 ⟨p, hp⟩ ⟨q, hq⟩
theorem pk_n9 (h2 : 2 ≤ n) (h5 : n ≤ 5) {k : Nat} (hk : k < gNN n) : gPk n k = true := by
  rcases nn_c h2 h5 with rfl | rfl | rfl | rfl
  · exact pk_29 ⟨k, hk⟩
  · exact pk_39 ⟨k, hk⟩
  · exact pk_49 ⟨k, hk⟩
  · exact pk_59 ⟨k, hk⟩
theorem d_pa (h2 : 2 ≤ n) (h5 : n ≤ 5) {p q : Nat} (hp : p < gNN n) (hq : q < gNN n) : muG n p (ddG n p q) = muG n q (ddG n q p) ∧ muG n p (ddG n p q) ≠ 0 := by
  have := pa_n h2 h5 hp hq
  unfold gPa at this
  simp only [Bool.and_eq_true, decide_eq_true_eq] at this
  exact this
theorem d_pb (h2 : 2 ≤ n) (h5 : n ≤ 5) {p q : Nat} (hp : p < gNN n) (hq : q < gNN n) : (muG n p q ≠ 0 ↔ ddG n (ddG n p (gNN n - 1)) q = 0) ∧ (muG n p q ≠ 0 → muG n (rvT n q) (rvT n p) = rvT n (muG n p q - 1) + 1) ∧ ddG n (ovG n p) (ovG n q) = ovG n (ddG n p q) := by
  have := pb_n h2 h5 hp hq
  unfold gPb at this
  simp only [Bool.and_eq_true, Bool.or_eq_true, decide_eq_true_eq, beq_iff_eq] at this
  obtain ⟨⟨a1, a2⟩, a3⟩ := this
  refine ⟨?_, fun h => a2.resolve_left h, a3⟩
  by_cases e1 : muG n p q = 0
  · rw [decide_eq_true e1] at a1
    constructor
    · intro h
      exact absurd e1 h
    · intro h
      rw [decide_eq_true h] at a1
      exact absurd a1 (by decide)
  · rw [decide_eq_false e1] at a1
    refine ⟨fun _ => ?_, fun _ => e1⟩
    by_cases e2 : ddG n (ddG n p (gNN n - 1)) q = 0
    · exact e2
    · rw [decide_eq_false e2] at a1
      exact absurd a1 (by decide)
theorem d_pk (h2 : 2 ≤ n) (h5 : n ≤ 5) {k : Nat} (hk : k < gNN n) : rvT n k < gNN n ∧ rvT n (rvT n k) = k ∧ ovG n (ovG n k) = k ∧ ddG n k k = 0 ∧ ddG n (gNN n - 1) k = 0 := by
  have := pk_n9 h2 h5 hk
  unfold gPk at this
  simp only [Bool.and_eq_true, decide_eq_true_eq] at this
  obtain ⟨⟨⟨⟨a1, a2⟩, a3⟩, a4⟩, a5⟩ := this
  exact ⟨a1, a2, a3, a4, a5⟩
end NF0
end
section
/-! 99zzzzzzzzzzzzzu.xnf1 -/
/-! normal forms of braids: lists of simple ones, what they leave of others; a weighted list is told by that -/
section NF1
variable {n : Nat}
theorem nn_0 : 0 < gNN n := by have := nn_pos (n := n); omega
theorem sz_0 (h2 : 2 ≤ n) (h5 : n ≤ 5) : szG n 0 = 0 := (f_fiv h2 h5 (a := 0) (by omega)).2.2.2.1
theorem mu_r0 (h2 : 2 ≤ n) (h5 : n ≤ 5) {p : Nat} : muG n p 0 = p + 1 := by
  unfold muG ltG
  rw [sz_0 h2 h5]
  rfl
theorem mu_l0 (h2 : 2 ≤ n) (h5 : n ≤ 5) {q : Nat} (hq : q < gNN n) : muG n 0 q = q + 1 := (f_one h2 h5 hq).2.2.2.2.1
theorem mu_lt (h2 : 2 ≤ n) (h5 : n ≤ 5) {p q s : Nat} (hp : p < gNN n) (e : muG n p q = s + 1) : s < gNN n ∧ szG n s = szG n p + szG n q := by
  obtain ⟨a1, a2, -⟩ := ev_len h2 h5 (ltG n q) hp e
  rw [lt_len] at a2
  exact ⟨a1, a2⟩
theorem sz_z (h2 : 2 ≤ n) (h5 : n ≤ 5) {k : Nat} (hk : k < gNN n) (e : szG n k = 0) : k = 0 := (f_one h2 h5 hk).2.2.2.2.2.1 e
theorem dd_lt (h2 : 2 ≤ n) (h5 : n ≤ 5) {p q : Nat} (hp : p < gNN n) (hq : q < gNN n) : ddG n p q < gNN n := (f_fou h2 h5 hp hq).1
theorem ev_mu (h2 : 2 ≤ n) (h5 : n ≤ 5) {p e s : Nat} {w : List Nat} (hp : p < gNN n) (hw : evG n 0 w = e + 1) (hs : evG n p w = s + 1) : muG n p e = s + 1 := by
  obtain ⟨k1, k2⟩ := gv_simple h2 h5 hp w hp hs
  have hpp := (d_pk h2 h5 hp).2.2.2.1
  rw [hpp, gv_0] at k1 k2
  have k1 : 0 = ddG n s p := k1
  have k2 : evG n 0 w = ddG n p s + 1 := k2
  have he : e = ddG n p s := by omega
  have hs' := (ev_len h2 h5 w hp hs).1
  rw [he, (d_pa h2 h5 hp hs').1, ← k1]
  exact mu_r0 h2 h5
/-- what a product leaves -/
theorem rR1 (h2 : 2 ≤ n) (h5 : n ≤ 5) {p q s v : Nat} (hp : p < gNN n) (hq : q < gNN n) (hv : v < gNN n) (e : muG n p q = s + 1) : ddG n s v = ddG n q (ddG n p v) := by
  have a := (gv_simple h2 h5 hv (ltG n q) hp e).1
  have b := (gv_simple0 h2 h5 (dd_lt h2 h5 hp hv) (f_one h2 h5 hq).2.2.2.2.1).1
  exact a.symm.trans b
/-- what is left of a product -/
theorem rR2 (h2 : 2 ≤ n) (h5 : n ≤ 5) {p q s v : Nat} (hp : p < gNN n) (hq : q < gNN n) (hv : v < gNN n) (e : muG n p q = s + 1) : muG n (ddG n v p) (ddG n (ddG n p v) q) = ddG n v s + 1 := by
  have a := (gv_simple h2 h5 hv (ltG n q) hp e).2
  have b := (gv_simple0 h2 h5 (dd_lt h2 h5 hp hv) (f_one h2 h5 hq).2.2.2.2.1).2
  exact ev_mu h2 h5 (dd_lt h2 h5 hv hp) b a
theorem dd_0l (h2 : 2 ≤ n) (h5 : n ≤ 5) {v : Nat} (hv : v < gNN n) : ddG n 0 v = v := (f_one h2 h5 hv).2.2.2.2.2.2.1
theorem dd_0r (h2 : 2 ≤ n) (h5 : n ≤ 5) {v : Nat} (hv : v < gNN n) : ddG n v 0 = 0 := (f_one h2 h5 hv).2.2.2.2.2.2.2
theorem dd_s (h2 : 2 ≤ n) (h5 : n ≤ 5) {v : Nat} (hv : v < gNN n) : ddG n v v = 0 := (d_pk h2 h5 hv).2.2.2.1
theorem cubG (h2 : 2 ≤ n) (h5 : n ≤ 5) {a b m : Nat} (ha : a < gNN n) (hb : b < gNN n) (hm : m < gNN n) : ddG n (ddG n a m) (ddG n a b) = ddG n (ddG n m a) (ddG n m b) := by
  obtain ⟨e1, e2⟩ := d_pa h2 h5 ha hm
  obtain ⟨s, hs⟩ : ∃ s, muG n a (ddG n a m) = s + 1 := ⟨muG n a (ddG n a m) - 1, by omega⟩
  rw [← rR1 h2 h5 ha (dd_lt h2 h5 ha hm) hb hs, ← rR1 h2 h5 hm (dd_lt h2 h5 hm ha) hb (by rw [← e1]; exact hs)]
/-- a product and its first factor -/
theorem mu_dd (h2 : 2 ≤ n) (h5 : n ≤ 5) {p q s : Nat} (hp : p < gNN n) (hq : q < gNN n) (e : muG n p q = s + 1) : ddG n s p = 0 ∧ ddG n p s = q := by
  constructor
  · rw [rR1 h2 h5 hp hq hp e, dd_s h2 h5 hp, dd_0r h2 h5 hq]
  · have := rR2 h2 h5 hp hq hp e
    rw [dd_s h2 h5 hp, dd_0l h2 h5 hq, mu_l0 h2 h5 hq] at this
    omega
theorem dd_mu (h2 : 2 ≤ n) (h5 : n ≤ 5) {p s : Nat} (hp : p < gNN n) (hs : s < gNN n) (e : ddG n s p = 0) : muG n p (ddG n p s) = s + 1 := by
  rw [(d_pa h2 h5 hp hs).1, e]
  exact mu_r0 h2 h5
theorem mu_1 (h2 : 2 ≤ n) (h5 : n ≤ 5) {p q : Nat} (hp : p < gNN n) (hq : q < gNN n) (e : muG n p q = 0 + 1) : p = 0 ∧ q = 0 := by
  have := (mu_lt h2 h5 hp e).2
  rw [sz_0 h2 h5] at this
  exact ⟨sz_z h2 h5 hp (by omega), sz_z h2 h5 hq (by omega)⟩
theorem dv_tr (h2 : 2 ≤ n) (h5 : n ≤ 5) {a b c : Nat} (ha : a < gNN n) (hb : b < gNN n) (hc : c < gNN n) (e1 : ddG n b a = 0) (e2 : ddG n c b = 0) : ddG n c a = 0 := by
  have := rR2 h2 h5 ha (dd_lt h2 h5 ha hb) hc (dd_mu h2 h5 ha hb e1)
  rw [e2] at this
  exact (mu_1 h2 h5 (dd_lt h2 h5 hc ha) (dd_lt h2 h5 (dd_lt h2 h5 ha hc) (dd_lt h2 h5 ha hb)) this).1
theorem dv_as (h2 : 2 ≤ n) (h5 : n ≤ 5) {a b : Nat} (ha : a < gNN n) (hb : b < gNN n) (e1 : ddG n b a = 0) (e2 : ddG n a b = 0) : a = b := by
  have := dd_mu h2 h5 ha hb e1
  rw [e2, mu_r0 h2 h5] at this
  omega
/-- lists of simple ones -/
def okT (n : Nat) (T : List Nat) : Prop := ∀ t, t ∈ T → t < gNN n
theorem okT_c {t : Nat} {T : List Nat} : okT n (t :: T) ↔ t < gNN n ∧ okT n T := ⟨fun h => ⟨h t List.mem_cons_self, fun s hs => h s (List.mem_cons_of_mem _ hs)⟩, fun h s hs => by
  rcases List.mem_cons.mp hs with e | hs
  · rw [e]
    exact h.1
  · exact h.2 s hs⟩
theorem okT_a {S T : List Nat} : okT n (S ++ T) ↔ okT n S ∧ okT n T := ⟨fun h => ⟨fun s hs => h s (List.mem_append_left _ hs), fun s hs => h s (List.mem_append_right _ hs)⟩, fun h s hs => (List.mem_append.mp hs).elim (h.1 s) (h.2 s)⟩
def r1G (n : Nat) : Nat → List Nat → Nat × List Nat
  | v, [] => (v, [])
  | v, t :: T => ((r1G n (ddG n t v) T).1, ddG n v t :: (r1G n (ddG n t v) T).2)
def rsG (n : Nat) : List Nat → List Nat → List Nat
  | [], _ => []
  | v :: V, T => (r1G n v T).1 :: rsG n V (r1G n v T).2
def eqT (n : Nat) (T F : List Nat) : Prop := ∀ V, okT n V → rsG n V T = rsG n V F
theorem r1_ok (h2 : 2 ≤ n) (h5 : n ≤ 5) : ∀ (T : List Nat) {v : Nat}, v < gNN n → okT n T → (r1G n v T).1 < gNN n ∧ okT n (r1G n v T).2 ∧ (r1G n v T).2.length = T.length
  | [], v, hv, _ => ⟨hv, fun t ht => absurd ht List.not_mem_nil, rfl⟩
  | t :: T, v, hv, h => by
    obtain ⟨h1, h3⟩ := okT_c.mp h
    obtain ⟨a1, a2, a3⟩ := r1_ok h2 h5 T (dd_lt h2 h5 h1 hv) h3
    refine ⟨a1, okT_c.mpr ⟨dd_lt h2 h5 hv h1, a2⟩, ?_⟩
    show ((r1G n (ddG n t v) T).2.length + 1 = T.length + 1)
    rw [a3]
theorem r1_app : ∀ (X Y : List Nat) (v : Nat), r1G n v (X ++ Y) = ((r1G n (r1G n v X).1 Y).1, (r1G n v X).2 ++ (r1G n (r1G n v X).1 Y).2)
  | [], Y, v => rfl
  | x :: X, Y, v => by
    show ((r1G n (ddG n x v) (X ++ Y)).1, ddG n v x :: (r1G n (ddG n x v) (X ++ Y)).2) = _
    rw [r1_app X Y]
    rfl
theorem r1_0 (h2 : 2 ≤ n) (h5 : n ≤ 5) : ∀ (T : List Nat), okT n T → r1G n 0 T = (0, T)
  | [], _ => rfl
  | t :: T, h => by
    obtain ⟨h1, h3⟩ := okT_c.mp h
    show ((r1G n (ddG n t 0) T).1, ddG n 0 t :: (r1G n (ddG n t 0) T).2) = _
    rw [dd_0r h2 h5 h1, dd_0l h2 h5 h1, r1_0 h2 h5 T h3]
/-- a product divides as its factors do, one behind the other -/
theorem r1_mul (h2 : 2 ≤ n) (h5 : n ≤ 5) : ∀ (T : List Nat) {p q s : Nat}, p < gNN n → q < gNN n → muG n p q = s + 1 → okT n T → (r1G n s T).2 = (r1G n q (r1G n p T).2).2 ∧ muG n (r1G n p T).1 (r1G n q (r1G n p T).2).1 = (r1G n s T).1 + 1
  | [], p, q, s, hp, hq, e, _ => ⟨rfl, e⟩
  | t :: T, p, q, s, hp, hq, e, h => by
    obtain ⟨h1, h3⟩ := okT_c.mp h
    have e2 := rR2 h2 h5 hp hq h1 e
    have e1 := rR1 h2 h5 hp hq h1 e
    obtain ⟨a1, a2⟩ := r1_mul h2 h5 T (dd_lt h2 h5 h1 hp) (dd_lt h2 h5 (dd_lt h2 h5 hp h1) hq) e2 h3
    refine ⟨?_, a2⟩
    show ddG n s t :: (r1G n (ddG n t s) T).2 = ddG n q (ddG n p t) :: _
    rw [e1, a1]
theorem eqT_rf (T : List Nat) : eqT n T T := fun _ _ => rfl
theorem eqT_tr {T F H : List Nat} (h1 : eqT n T F) (h3 : eqT n F H) : eqT n T H := fun V hV => (h1 V hV).trans (h3 V hV)
theorem eqT_sy {T F : List Nat} (h1 : eqT n T F) : eqT n F T := fun V hV => (h1 V hV).symm
theorem okT_n : okT n [] := fun t ht => absurd ht List.not_mem_nil
theorem eqT_1 {T F : List Nat} (h : eqT n T F) {v : Nat} (hv : v < gNN n) : (r1G n v T).1 = (r1G n v F).1 ∧ eqT n (r1G n v T).2 (r1G n v F).2 := by
  constructor
  · have := h [v] (okT_c.mpr ⟨hv, okT_n⟩)
    exact (List.cons.inj this).1
  · intro V hV
    have := h (v :: V) (okT_c.mpr ⟨hv, hV⟩)
    exact (List.cons.inj this).2
theorem eq_swp (h2 : 2 ≤ n) (h5 : n ≤ 5) : ∀ (V X Y : List Nat) {a x b a' b' : Nat}, okT n V → okT n X → okT n Y → a < gNN n → x < gNN n → b' < gNN n → muG n a x = a' + 1 → muG n x b' = b + 1 → rsG n V (X ++ a :: b :: Y) = rsG n V (X ++ a' :: b' :: Y)
  | [], _, _, _, _, _, _, _, _, _, _, _, _, _, _, _ => rfl
  | v :: V, X, Y, a, x, b, a', b', hV, hX, hY, ha, hx, hb', e1, e2 => by
    obtain ⟨hv, hV⟩ := okT_c.mp hV
    obtain ⟨x1, x2, -⟩ := r1_ok h2 h5 X hv hX
    have hb := (mu_lt h2 h5 hx e2).1
    have hda := dd_lt h2 h5 ha x1
    have q1 := rR1 h2 h5 ha hx x1 e1
    have q2 := rR1 h2 h5 hx hb' hda e2
    have q3 := rR2 h2 h5 ha hx x1 e1
    have q4 := rR2 h2 h5 hx hb' hda e2
    rw [← q1] at q2 q4
    have hw : ddG n b (ddG n a (r1G n v X).1) < gNN n := dd_lt h2 h5 hb hda
    obtain ⟨y1, y2, -⟩ := r1_ok h2 h5 Y hw hY
    show (r1G n v (X ++ a :: b :: Y)).1 :: rsG n V (r1G n v (X ++ a :: b :: Y)).2 = (r1G n v (X ++ a' :: b' :: Y)).1 :: rsG n V (r1G n v (X ++ a' :: b' :: Y)).2
    rw [r1_app, r1_app]
    show (r1G n (ddG n b (ddG n a (r1G n v X).1)) Y).1 :: rsG n V ((r1G n v X).2 ++ ddG n (r1G n v X).1 a :: ddG n (ddG n a (r1G n v X).1) b :: (r1G n (ddG n b (ddG n a (r1G n v X).1)) Y).2) = (r1G n (ddG n b' (ddG n a' (r1G n v X).1)) Y).1 :: rsG n V ((r1G n v X).2 ++ ddG n (r1G n v X).1 a' :: ddG n (ddG n a' (r1G n v X).1) b' :: (r1G n (ddG n b' (ddG n a' (r1G n v X).1)) Y).2)
    rw [← q2]
    have ih := eq_swp h2 h5 V (r1G n v X).2 (r1G n (ddG n b (ddG n a (r1G n v X).1)) Y).2 hV x2 y2 (dd_lt h2 h5 x1 ha) (dd_lt h2 h5 hda hx) (dd_lt h2 h5 (by rw [q1]; exact dd_lt h2 h5 hx hda) hb') q3 q4
    rw [ih]
theorem eq_id (h2 : 2 ≤ n) (h5 : n ≤ 5) : ∀ (V X Y : List Nat), okT n V → okT n X → okT n Y → rsG n V (X ++ 0 :: Y) = rsG n V (X ++ Y)
  | [], _, _, _, _, _ => rfl
  | v :: V, X, Y, hV, hX, hY => by
    obtain ⟨hv, hV⟩ := okT_c.mp hV
    obtain ⟨x1, x2, -⟩ := r1_ok h2 h5 X hv hX
    obtain ⟨y1, y2, -⟩ := r1_ok h2 h5 Y x1 hY
    show (r1G n v (X ++ 0 :: Y)).1 :: rsG n V (r1G n v (X ++ 0 :: Y)).2 = (r1G n v (X ++ Y)).1 :: rsG n V (r1G n v (X ++ Y)).2
    rw [r1_app, r1_app]
    show (r1G n (ddG n 0 (r1G n v X).1) Y).1 :: rsG n V ((r1G n v X).2 ++ ddG n (r1G n v X).1 0 :: (r1G n (ddG n 0 (r1G n v X).1) Y).2) = _
    rw [dd_0l h2 h5 x1, dd_0r h2 h5 x1, eq_id h2 h5 V _ _ hV x2 y2]
theorem eqT_swp (h2 : 2 ≤ n) (h5 : n ≤ 5) {X Y : List Nat} {a x b a' b' : Nat} (hX : okT n X) (hY : okT n Y) (ha : a < gNN n) (hx : x < gNN n) (hb' : b' < gNN n) (e1 : muG n a x = a' + 1) (e2 : muG n x b' = b + 1) : eqT n (X ++ a :: b :: Y) (X ++ a' :: b' :: Y) := fun V hV => eq_swp h2 h5 V X Y hV hX hY ha hx hb' e1 e2
theorem eqT_id (h2 : 2 ≤ n) (h5 : n ≤ 5) {X Y : List Nat} (hX : okT n X) (hY : okT n Y) : eqT n (X ++ 0 :: Y) (X ++ Y) := fun V hV => eq_id h2 h5 V X Y hV hX hY
theorem eqT_app (h2 : 2 ≤ n) (h5 : n ≤ 5) {b : Nat} (hb : b < gNN n) {T F : List Nat} (hT : okT n T) (hF : okT n F) (h : eqT n T F) : eqT n (T ++ [b]) (F ++ [b]) := by
  intro V
  induction V generalizing T F b with
  | nil => exact fun _ => rfl
  | cons v V ih =>
    intro hV
    obtain ⟨hv, hV⟩ := okT_c.mp hV
    obtain ⟨e1, e2⟩ := eqT_1 h hv
    obtain ⟨t1, t2, -⟩ := r1_ok h2 h5 T hv hT
    obtain ⟨f1, f2, -⟩ := r1_ok h2 h5 F hv hF
    show (r1G n v (T ++ [b])).1 :: rsG n V (r1G n v (T ++ [b])).2 = (r1G n v (F ++ [b])).1 :: rsG n V (r1G n v (F ++ [b])).2
    rw [r1_app, r1_app]
    show ddG n b (r1G n v T).1 :: rsG n V ((r1G n v T).2 ++ [ddG n (r1G n v T).1 b]) = ddG n b (r1G n v F).1 :: rsG n V ((r1G n v F).2 ++ [ddG n (r1G n v F).1 b])
    rw [← e1, ih (dd_lt h2 h5 t1 hb) t2 f2 e2 hV]
theorem ov_lt (h2 : 2 ≤ n) (h5 : n ≤ 5) {v : Nat} (hv : v < gNN n) : ovG n v < gNN n := (f_one h2 h5 hv).2.2.1
theorem okT_ov (h2 : 2 ≤ n) (h5 : n ≤ 5) {T : List Nat} (h : okT n T) : okT n (T.map (ovG n)) := fun t ht => by
  obtain ⟨s, hs, e⟩ := List.mem_map.mp ht
  rw [← e]
  exact ov_lt h2 h5 (h s hs)
theorem r1_ov (h2 : 2 ≤ n) (h5 : n ≤ 5) : ∀ (T : List Nat) {v : Nat}, v < gNN n → okT n T → r1G n (ovG n v) (T.map (ovG n)) = (ovG n (r1G n v T).1, (r1G n v T).2.map (ovG n))
  | [], v, hv, _ => rfl
  | t :: T, v, hv, h => by
    obtain ⟨h1, h3⟩ := okT_c.mp h
    show ((r1G n (ddG n (ovG n t) (ovG n v)) (T.map (ovG n))).1, ddG n (ovG n v) (ovG n t) :: (r1G n (ddG n (ovG n t) (ovG n v)) (T.map (ovG n))).2) = _
    rw [(d_pb h2 h5 h1 hv).2.2, (d_pb h2 h5 hv h1).2.2, r1_ov h2 h5 T (dd_lt h2 h5 h1 hv) h3]
    rfl
theorem rs_ov (h2 : 2 ≤ n) (h5 : n ≤ 5) : ∀ (V T : List Nat), okT n V → okT n T → rsG n (V.map (ovG n)) (T.map (ovG n)) = (rsG n V T).map (ovG n)
  | [], _, _, _ => rfl
  | v :: V, T, hV, hT => by
    obtain ⟨hv, hV⟩ := okT_c.mp hV
    show (r1G n (ovG n v) (T.map (ovG n))).1 :: rsG n (V.map (ovG n)) (r1G n (ovG n v) (T.map (ovG n))).2 = _
    rw [r1_ov h2 h5 T hv hT]
    show ovG n (r1G n v T).1 :: rsG n (V.map (ovG n)) ((r1G n v T).2.map (ovG n)) = _
    rw [rs_ov h2 h5 V _ hV (r1_ok h2 h5 T hv hT).2.1]
    rfl
theorem eqT_ov (h2 : 2 ≤ n) (h5 : n ≤ 5) {T F : List Nat} (hT : okT n T) (hF : okT n F) (h : eqT n T F) : eqT n (T.map (ovG n)) (F.map (ovG n)) := by
  intro V hV
  have e : (V.map (ovG n)).map (ovG n) = V := by
    rw [List.map_map]
    conv => rhs; rw [← List.map_id V]
    exact List.map_congr_left (fun v hv => (d_pk h2 h5 (hV v hv)).2.2.1)
  rw [← e, rs_ov h2 h5 _ T (okT_ov h2 h5 hV) hT, rs_ov h2 h5 _ F (okT_ov h2 h5 hV) hF, h _ (okT_ov h2 h5 hV)]
/-- no letter can go from g' to g -/
def lwG (n g g' : Nat) : Prop := ∀ a, a + 1 < n → moG n g a ≠ 0 → ddG n g' (moG n 0 a - 1) ≠ 0
def wtL (n : Nat) (G : List Nat) : Prop := ∀ i g g', G[i]? = some g → G[i + 1]? = some g' → lwG n g g'
theorem wtL_t {g : Nat} {G : List Nat} (h : wtL n (g :: G)) : wtL n G := fun i a b h1 h3 => h (i + 1) a b h1 h3
theorem lett (h2 : 2 ≤ n) (h5 : n ≤ 5) {a : Nat} (ha : a + 1 < n) : moG n 0 a - 1 < gNN n := by
  have h1 := (f_two h2 h5 nn_0 ha).2.2.1
  have h3 := nn_0 (n := n)
  omega
theorem lw_div (h2 : 2 ≤ n) (h5 : n ≤ 5) : ∀ (G : List Nat) {g v : Nat}, okT n (g :: G) → wtL n (g :: G) → v < gNN n → (r1G n v (g :: G)).1 = 0 → ddG n g v = 0
  | [], g, v, _, _, _, e => e
  | g' :: G, g, v, hk, hw, hv, e => by
    obtain ⟨hg, hk'⟩ := okT_c.mp hk
    obtain ⟨hg', -⟩ := okT_c.mp hk'
    have hu := dd_lt h2 h5 hg hv
    have ih := lw_div h2 h5 G hk' (wtL_t hw) hu e
    refine Classical.byContradiction (fun hne => ?_)
    obtain ⟨a, ha, m1, m2⟩ := (f_fou h2 h5 hg hv).2.2 hne
    exact hw 0 g g' rfl rfl a ha m1 (dv_tr h2 h5 (lett h2 h5 ha) hu hg' m2 ih)
/-- the head of a list that goes like a weighted one -/
theorem hd_1 (h2 : 2 ≤ n) (h5 : n ≤ 5) {T G : List Nat} {g : Nat} (hG : okT n (g :: G)) (h : eqT n T (g :: G)) : (r1G n g T).1 = 0 ∧ eqT n (r1G n g T).2 G := by
  obtain ⟨hg, hG'⟩ := okT_c.mp hG
  obtain ⟨e1, e2⟩ := eqT_1 h hg
  have e : r1G n g (g :: G) = (0, 0 :: G) := by
    show ((r1G n (ddG n g g) G).1, ddG n g g :: (r1G n (ddG n g g) G).2) = _
    rw [dd_s h2 h5 hg, r1_0 h2 h5 G hG']
  rw [e] at e1 e2
  exact ⟨e1, eqT_tr e2 (eqT_id (X := []) h2 h5 okT_n hG')⟩
theorem hd_2 (h2 : 2 ≤ n) (h5 : n ≤ 5) {T G : List Nat} {g h : Nat} (hG : okT n (g :: G)) (hw : wtL n (g :: G)) (he : eqT n T (g :: G)) (hh : h < gNN n) (e : (r1G n h T).1 = 0) : ddG n g h = 0 := lw_div h2 h5 G hG hw hh (by rw [← (eqT_1 he hh).1]; exact e)
/-- where no letter goes on, the head is whole -/
theorem hd_3 (h2 : 2 ≤ n) (h5 : n ≤ 5) {T G : List Nat} {g h : Nat} (hT : okT n T) (hG : okT n (g :: G)) (hw : wtL n (g :: G)) (he : eqT n T (g :: G)) (hh : h < gNN n) (e : (r1G n h T).1 = 0) (hno : ∀ a, a + 1 < n → moG n h a ≠ 0 → (r1G n (moG n 0 a - 1) (r1G n h T).2).1 ≠ 0) : h = g := by
  have hg := (okT_c.mp hG).1
  have d1 := hd_2 h2 h5 hG hw he hh e
  refine dv_as h2 h5 hh hg d1 (Classical.byContradiction (fun hne => ?_))
  obtain ⟨a, ha, m1, m2⟩ := (f_fou h2 h5 hh hg).2.2 hne
  have hq := dd_lt h2 h5 hh hg
  have hT1 := (r1_ok h2 h5 T hh hT).2.1
  obtain ⟨-, k2⟩ := r1_mul h2 h5 T hh hq (dd_mu h2 h5 hh hg d1) hT
  rw [(hd_1 h2 h5 hG he).1, e] at k2
  have k3 : (r1G n (ddG n h g) (r1G n h T).2).1 = 0 := (mu_1 h2 h5 nn_0 (r1_ok h2 h5 _ hq hT1).1 k2).2
  have hl := lett h2 h5 ha
  obtain ⟨-, k4⟩ := r1_mul h2 h5 (r1G n h T).2 hl (dd_lt h2 h5 hl hq) (dd_mu h2 h5 hl hq m2) hT1
  rw [k3] at k4
  obtain ⟨l1, l2, -⟩ := r1_ok h2 h5 (r1G n h T).2 hl hT1
  exact hno a ha m1 (mu_1 h2 h5 l1 (r1_ok h2 h5 _ (dd_lt h2 h5 hl hq) l2).1 k4).1
end NF1
end
section
/-! 99zzzzzzzzzzzzzv.xnf2 -/
/-! normal forms of braids: a simple one comes behind a weighted list -/
section NF2
variable {n : Nat}
theorem as1 (h2 : 2 ≤ n) (h5 : n ≤ 5) {p q s t w : Nat} (hp : p < gNN n) (hq : q < gNN n) (ht : t < gNN n) (e1 : muG n p q = s + 1) (e2 : muG n s t = w + 1) : ∃ r, r < gNN n ∧ muG n q t = r + 1 ∧ muG n p r = w + 1 := by
  have hs := (mu_lt h2 h5 hp e1).1
  have hw := (mu_lt h2 h5 hs e2).1
  obtain ⟨a1, a2⟩ := mu_dd h2 h5 hp hq e1
  obtain ⟨b1, b2⟩ := mu_dd h2 h5 hs ht e2
  have d := dv_tr h2 h5 hp hs hw a1 b1
  have k := rR2 h2 h5 hs ht hp e2
  rw [a2, a1, dd_0l h2 h5 ht] at k
  exact ⟨_, dd_lt h2 h5 hp hw, k, dd_mu h2 h5 hp hw d⟩
theorem as2 (h2 : 2 ≤ n) (h5 : n ≤ 5) {p q s t r w : Nat} (hp : p < gNN n) (hq : q < gNN n) (ht : t < gNN n) (e1 : muG n p q = s + 1) (e2 : muG n q t = r + 1) (e3 : muG n p r = w + 1) : muG n s t = w + 1 := by
  have hs := (mu_lt h2 h5 hp e1).1
  have hr := (mu_lt h2 h5 hq e2).1
  have hw := (mu_lt h2 h5 hp e3).1
  obtain ⟨a1, a2⟩ := mu_dd h2 h5 hp hr e3
  obtain ⟨b1, b2⟩ := mu_dd h2 h5 hq ht e2
  have k := rR2 h2 h5 hp hq hw e1
  rw [a1, a2, b1, mu_l0 h2 h5 nn_0] at k
  have d : ddG n w s = 0 := by omega
  have k2 := dd_mu h2 h5 hs hw d
  rw [rR1 h2 h5 hp hq hw e1, a2, b2] at k2
  exact k2
theorem rvT_0 (h2 : 2 ≤ n) (h5 : n ≤ 5) : rvT n 0 = 0 := by
  have h0 := nn_0 (n := n)
  have hr := (d_pk h2 h5 h0).1
  have e := mu_l0 h2 h5 h0
  have k := (d_pb h2 h5 h0 h0).2.1 (by rw [e]; omega)
  rw [e] at k
  have := (mu_lt h2 h5 hr k).2
  exact sz_z h2 h5 hr (by rw [show 0 + 1 - 1 = 0 from rfl] at this; omega)
/-- two simple ones without a common beginning, and what may come behind both rests -/
theorem domD (h2 : 2 ≤ n) (h5 : n ≤ 5) {s c r U : Nat} (hs : s < gNN n) (hc : c < gNN n) (hr : r < gNN n) (cop : ∀ v, v < gNN n → ddG n s v = 0 → ddG n c v = 0 → v = 0) (hU : muG n s (ddG n s c) = U + 1) (m1 : muG n (ddG n s c) r ≠ 0) (m2 : muG n (ddG n c s) r ≠ 0) : muG n U r ≠ 0 := by
  have hc1 := dd_lt h2 h5 hs hc
  have hs1 := dd_lt h2 h5 hc hs
  have hUl := (mu_lt h2 h5 hs hU).1
  have hU2 : muG n c (ddG n c s) = U + 1 := by rw [← (d_pa h2 h5 hs hc).1]; exact hU
  obtain ⟨A, hA⟩ : ∃ A, A = rvT n (ddG n s c) := ⟨_, rfl⟩
  obtain ⟨B, hB⟩ : ∃ B, B = rvT n (ddG n c s) := ⟨_, rfl⟩
  obtain ⟨S, hS⟩ : ∃ S, S = rvT n s := ⟨_, rfl⟩
  obtain ⟨C, hC⟩ : ∃ C, C = rvT n c := ⟨_, rfl⟩
  obtain ⟨R, hR⟩ : ∃ R, R = rvT n r := ⟨_, rfl⟩
  obtain ⟨V, hV⟩ : ∃ V, V = rvT n U := ⟨_, rfl⟩
  have lA : A < gNN n := by rw [hA]; exact (d_pk h2 h5 hc1).1
  have lB : B < gNN n := by rw [hB]; exact (d_pk h2 h5 hs1).1
  have lS : S < gNN n := by rw [hS]; exact (d_pk h2 h5 hs).1
  have lC : C < gNN n := by rw [hC]; exact (d_pk h2 h5 hc).1
  have lR : R < gNN n := by rw [hR]; exact (d_pk h2 h5 hr).1
  have lV : V < gNN n := by rw [hV]; exact (d_pk h2 h5 hUl).1
  have eA : muG n A S = V + 1 := by
    have := (d_pb h2 h5 hs hc1).2.1 (by rw [hU]; omega)
    rw [hU, Nat.add_sub_cancel, ← hA, ← hS, ← hV] at this
    exact this
  have eB : muG n B C = V + 1 := by
    have := (d_pb h2 h5 hc hs1).2.1 (by rw [hU2]; omega)
    rw [hU2, Nat.add_sub_cancel, ← hB, ← hC, ← hV] at this
    exact this
  have rA : muG n R A ≠ 0 := by
    have := (d_pb h2 h5 hc1 hr).2.1 m1
    rw [← hA, ← hR] at this
    rw [this]
    omega
  have rB : muG n R B ≠ 0 := by
    have := (d_pb h2 h5 hs1 hr).2.1 m2
    rw [← hB, ← hR] at this
    rw [this]
    omega
  have hD : gNN n - 1 < gNN n := by have := nn_0 (n := n); omega
  obtain ⟨M, hM⟩ : ∃ M, M = ddG n R (gNN n - 1) := ⟨_, rfl⟩
  have lM : M < gNN n := by rw [hM]; exact dd_lt h2 h5 lR hD
  have dA : ddG n M A = 0 := by rw [hM]; exact (d_pb h2 h5 lR lA).1.mp rA
  have dB : ddG n M B = 0 := by rw [hM]; exact (d_pb h2 h5 lR lB).1.mp rB
  have lq := dd_lt h2 h5 lA lB
  have lq' := dd_lt h2 h5 lB lA
  obtain ⟨j1, j2⟩ := d_pa h2 h5 lA lB
  obtain ⟨L, hL⟩ : ∃ L, muG n A (ddG n A B) = L + 1 := ⟨muG n A (ddG n A B) - 1, by omega⟩
  have hL' : muG n B (ddG n B A) = L + 1 := by rw [← j1]; exact hL
  have dL : ddG n M L = 0 := by
    have k := rR2 h2 h5 lA lq lM hL
    rw [cubG h2 h5 lA lB lM, dA, dB, dd_0l h2 h5 nn_0, mu_l0 h2 h5 nn_0] at k
    omega
  obtain ⟨u1, u2⟩ := mu_dd h2 h5 lA lS eA
  obtain ⟨w1, w2⟩ := mu_dd h2 h5 lB lC eB
  have q1 : ddG n S (ddG n A B) = 0 := by rw [← rR1 h2 h5 lA lS lB eA]; exact w1
  have q2 : ddG n C (ddG n B A) = 0 := by rw [← rR1 h2 h5 lB lC lA eB]; exact u1
  have e1 := dd_mu h2 h5 lq lS q1
  have e2 := dd_mu h2 h5 lq' lC q2
  have ee : ddG n (ddG n A B) S = ddG n (ddG n B A) C := by
    have a := rR1 h2 h5 lA lq lV hL
    have b := rR1 h2 h5 lB lq' lV hL'
    rw [u2] at a
    rw [w2] at b
    exact a.symm.trans b
  have le := dd_lt h2 h5 lq lS
  have v1 : ddG n s (rvT n (ddG n (ddG n A B) S)) = 0 := by
    have k := (d_pb h2 h5 lq le).2.1 (by rw [e1]; omega)
    rw [e1, Nat.add_sub_cancel] at k
    have k2 := (mu_dd h2 h5 (d_pk h2 h5 le).1 (d_pk h2 h5 lq).1 k).1
    rw [hS, (d_pk h2 h5 hs).2.1] at k2
    rw [hS]
    exact k2
  have v2 : ddG n c (rvT n (ddG n (ddG n A B) S)) = 0 := by
    rw [ee]
    have le' := dd_lt h2 h5 lq' lC
    have k := (d_pb h2 h5 lq' le').2.1 (by rw [e2]; omega)
    rw [e2, Nat.add_sub_cancel] at k
    have k2 := (mu_dd h2 h5 (d_pk h2 h5 le').1 (d_pk h2 h5 lq').1 k).1
    rw [hC, (d_pk h2 h5 hc).2.1] at k2
    rw [hC]
    exact k2
  have e0 : ddG n (ddG n A B) S = 0 := by
    have k := cop _ (d_pk h2 h5 le).1 v1 v2
    have k2 := (d_pk h2 h5 le).2.1
    rw [k, rvT_0 h2 h5] at k2
    exact k2.symm
  rw [e0, mu_r0 h2 h5] at e1
  have eq : ddG n A B = S := by omega
  rw [eq, eA] at hL
  have eL : L = V := by omega
  rw [eL] at dL
  have fin : muG n R V ≠ 0 := (d_pb h2 h5 lR lV).1.mpr (by rw [← hM]; exact dL)
  have k := (d_pb h2 h5 lR lV).2.1 fin
  rw [hV, hR, (d_pk h2 h5 hUl).2.1, (d_pk h2 h5 hr).2.1] at k
  rw [k]
  omega
theorem mu_let (h2 : 2 ≤ n) (h5 : n ≤ 5) {p a : Nat} (ha : a + 1 < n) : muG n p (moG n 0 a - 1) = moG n p a := by
  unfold muG
  rw [ltG_1 h2 h5 ha]
  show (if a + 1 < n then (if moG n p a = 0 then 0 else (moG n p a - 1) + 1) else 0) = _
  rw [if_pos ha]
  by_cases e : moG n p a = 0
  · rw [if_pos e, e]
  · rw [if_neg e]
    omega
theorem mu_sub (h2 : 2 ≤ n) (h5 : n ≤ 5) {p q r : Nat} (hp : p < gNN n) (hq : q < gNN n) (hr : r < gNN n) (m : muG n p q ≠ 0) (d : ddG n q r = 0) : muG n p r ≠ 0 := by
  have hD : gNN n - 1 < gNN n := by have := nn_0 (n := n); omega
  exact (d_pb h2 h5 hp hr).1.mpr (dv_tr h2 h5 hr hq (dd_lt h2 h5 hp hD) d ((d_pb h2 h5 hp hq).1.mp m))
/-- letters that went on to the left leave a weighted pair on the right -/
theorem dom2 (h2 : 2 ≤ n) (h5 : n ≤ 5) {p s x u y t a : Nat} (hp : p < gNN n) (hs : s < gNN n) (hx : x < gNN n) (hy : y < gNN n) (ht : t < gNN n) (hw : lwG n p s) (e1 : muG n s x = u + 1) (m : muG n p y ≠ 0) (e2 : muG n y t = u + 1) (ha : a + 1 < n) (m1 : muG n x (moG n 0 a - 1) ≠ 0) (m2 : muG n t (moG n 0 a - 1) ≠ 0) : muG n u (moG n 0 a - 1) ≠ 0 := by
  have hl := lett h2 h5 ha
  have hu := (mu_lt h2 h5 hs e1).1
  obtain ⟨s1, s2⟩ := mu_dd h2 h5 hs hx e1
  obtain ⟨y1, y2⟩ := mu_dd h2 h5 hy ht e2
  have cop : ∀ v, v < gNN n → ddG n s v = 0 → ddG n y v = 0 → v = 0 := fun v hv d1 d2 => by
    refine Classical.byContradiction (fun hne => ?_)
    have h0 := dd_0l h2 h5 hv
    obtain ⟨b, hb, m1, m2⟩ := (f_fou h2 h5 nn_0 hv).2.2 (by rw [h0]; exact hne)
    rw [h0] at m2
    have hlb := lett h2 h5 hb
    have k := mu_sub h2 h5 hp hv hlb (mu_sub h2 h5 hp hy hv m d2) m2
    rw [mu_let h2 h5 hb] at k
    exact hw b hb k (dv_tr h2 h5 hlb hv hs m2 d1)
  have hc1 := dd_lt h2 h5 hs hy
  have hs1 := dd_lt h2 h5 hy hs
  obtain ⟨j1, j2⟩ := d_pa h2 h5 hs hy
  obtain ⟨U, hU⟩ : ∃ U, muG n s (ddG n s y) = U + 1 := ⟨muG n s (ddG n s y) - 1, by omega⟩
  have hU2 : muG n y (ddG n y s) = U + 1 := by rw [← j1]; exact hU
  have lU := (mu_lt h2 h5 hs hU).1
  have dU : ddG n u U = 0 := by
    have k := rR2 h2 h5 hs hc1 hu hU
    rw [cubG h2 h5 hs hy hu, s1, y1, dd_0l h2 h5 nn_0, mu_l0 h2 h5 nn_0] at k
    omega
  have lz := dd_lt h2 h5 lU hu
  have ez := dd_mu h2 h5 lU hu dU
  have x1 : muG n (ddG n s y) (ddG n U u) = x + 1 := by
    have k := rR2 h2 h5 lU lz hs ez
    obtain ⟨k1, k2⟩ := mu_dd h2 h5 hs hc1 hU
    rw [k2, k1, dd_0l h2 h5 lz, s2] at k
    exact k
  have t1 : muG n (ddG n y s) (ddG n U u) = t + 1 := by
    have k := rR2 h2 h5 lU lz hy ez
    obtain ⟨k1, k2⟩ := mu_dd h2 h5 hy hs1 hU2
    rw [k2, k1, dd_0l h2 h5 lz, y2] at k
    exact k
  obtain ⟨w, hw1⟩ : ∃ w, muG n x (moG n 0 a - 1) = w + 1 := ⟨muG n x (moG n 0 a - 1) - 1, by omega⟩
  obtain ⟨w', hw2⟩ : ∃ w', muG n t (moG n 0 a - 1) = w' + 1 := ⟨muG n t (moG n 0 a - 1) - 1, by omega⟩
  obtain ⟨r, r1, r2, r3⟩ := as1 h2 h5 hc1 lz hl x1 hw1
  obtain ⟨r', r1', r2', r3'⟩ := as1 h2 h5 hs1 lz hl t1 hw2
  have er : r' = r := by rw [r2] at r2'; omega
  rw [er] at r3'
  have fin := domD h2 h5 hs hy r1 cop hU (by rw [r3]; omega) (by rw [r3']; omega)
  obtain ⟨W, hW⟩ : ∃ W, muG n U r = W + 1 := ⟨muG n U r - 1, by omega⟩
  rw [as2 h2 h5 lU lz hl ez r2 hW]
  omega
/-- while letters go to the left: L is what F with one more behind it has become, weighted from i + 1 on -/
def wzI (n : Nat) (F : List Nat) (T L : List Nat) (i : Nat) : Prop := okT n L ∧ L.length = F.length + 1 ∧ eqT n T L ∧ (∀ j, j < i → L[j]? = F[j]?) ∧ (∀ j g g', i ≤ j → L[j]? = some g → L[j + 1]? = some g' → lwG n g g') ∧ (i < F.length → ∃ s x u, F[i]? = some s ∧ L[i]? = some u ∧ x < gNN n ∧ muG n s x = u + 1 ∧ ∀ t a, L[i + 1]? = some t → a + 1 < n → ddG n t (moG n 0 a - 1) = 0 → muG n x (moG n 0 a - 1) ≠ 0)
theorem wz_0 (h2 : 2 ≤ n) (h5 : n ≤ 5) {F T : List Nat} {b : Nat} (hF : okT n F) (hb : b < gNN n) (he : eqT n T (F ++ [b])) : wzI n F T (F ++ [b]) F.length := by
  refine ⟨okT_a.mpr ⟨hF, okT_c.mpr ⟨hb, okT_n⟩⟩, by rw [List.length_append]; rfl, he, fun j hj => List.getElem?_append_left hj, fun j g g' hj _ h9 => ?_, fun h9 => absurd h9 (Nat.lt_irrefl _)⟩
  have := (List.getElem?_eq_some_iff.mp h9).1
  rw [List.length_append] at this
  have : j + 1 < F.length + 1 := this
  omega
/-- the end: weighted -/
theorem wz_end {F T L : List Nat} (hw : wtL n F) (h : wzI n F T L 0) : wtL n L := fun j g g' h1 h3 => h.2.2.2.2.1 j g g' (Nat.zero_le _) h1 h3
theorem wz_stop {F T L : List Nat} {i a b : Nat} (hw : wtL n F) (h : wzI n F T L (i + 1)) (ea : L[i]? = some a) (eb : L[i + 1]? = some b) (hl : lwG n a b) : wtL n L := by
  obtain ⟨h1, h3, h4, h6, h7, h8⟩ := h
  intro j g g' k1 k2
  by_cases c1 : i + 1 ≤ j
  · exact h7 j g g' c1 k1 k2
  · by_cases c2 : j = i
    · subst c2
      rw [ea] at k1
      rw [eb] at k2
      cases k1
      cases k2
      exact hl
    · rw [h6 j (by omega)] at k1
      rw [h6 (j + 1) (by omega)] at k2
      exact hw j g g' k1 k2
/-- one pair is weighed -/
theorem wz_step (h2 : 2 ≤ n) (h5 : n ≤ 5) {F T L : List Nat} {i a b x a' b' : Nat} (hF : okT n F) (hw : wtL n F) (h : wzI n F T L (i + 1)) (ea : L[i]? = some a) (eb : L[i + 1]? = some b) (hx : x < gNN n) (hb' : b' < gNN n) (e1 : muG n a x = a' + 1) (e2 : muG n x b' = b + 1) (hl : lwG n a' b') : wzI n F T ((L.set i a').set (i + 1) b') i := by
  obtain ⟨h1, h3, h4, h6, h7, h8⟩ := h
  have li := (List.getElem?_eq_some_iff.mp ea).1
  have li1 := (List.getElem?_eq_some_iff.mp eb).1
  have ha := h1 a (List.mem_of_getElem? ea)
  have hb := h1 b (List.mem_of_getElem? eb)
  have ha' := (mu_lt h2 h5 ha e1).1
  have eF : F[i]? = some a := by rw [← h6 i (by omega)]; exact ea
  have sp : L = L.take i ++ a :: b :: L.drop (i + 2) := by
    conv => lhs; rw [← List.take_append_drop i L]
    congr 1
    rw [List.drop_eq_getElem_cons li, List.drop_eq_getElem_cons li1, Option.some.inj ((List.getElem?_eq_getElem li).symm.trans ea), Option.some.inj ((List.getElem?_eq_getElem li1).symm.trans eb)]
  have lt : (L.take i).length = i := by rw [List.length_take]; omega
  have sp2 : (L.set i a').set (i + 1) b' = L.take i ++ a' :: b' :: L.drop (i + 2) := by
    conv => lhs; rw [sp]
    rw [List.set_append_right _ _ (by omega), lt, Nat.sub_self, List.set_cons_zero, List.set_append_right _ _ (by omega), lt, show i + 1 - i = 1 by omega, List.set_cons_succ, List.set_cons_zero]
  have okX : okT n (L.take i) := fun t ht => h1 t (List.mem_of_mem_take ht)
  have okY : okT n (L.drop (i + 2)) := fun t ht => h1 t (List.mem_of_mem_drop ht)
  have g0 : ((L.set i a').set (i + 1) b')[i]? = some a' := by
    rw [sp2, List.getElem?_append_right (by omega), lt, Nat.sub_self]
    rfl
  have g1 : ((L.set i a').set (i + 1) b')[i + 1]? = some b' := by
    rw [sp2, List.getElem?_append_right (by omega), lt, show i + 1 - i = 1 by omega]
    rfl
  have go : ∀ j, j ≠ i → j ≠ i + 1 → ((L.set i a').set (i + 1) b')[j]? = L[j]? := fun j c1 c2 => by
    rw [List.getElem?_set_ne (Ne.symm c2), List.getElem?_set_ne (Ne.symm c1)]
  refine ⟨?_, by rw [List.length_set, List.length_set]; exact h3, ?_, fun j hj => by rw [go j (by omega) (by omega)]; exact h6 j (by omega), fun j g g' hj k1 k2 => ?_, fun hi => ?_⟩
  · rw [sp2]
    exact okT_a.mpr ⟨okX, okT_c.mpr ⟨ha', okT_c.mpr ⟨hb', okY⟩⟩⟩
  · rw [sp2]
    refine eqT_tr h4 ?_
    have := eqT_swp h2 h5 okX okY ha hx hb' e1 e2
    rw [← sp] at this
    exact this
  · by_cases c1 : j = i
    · subst c1
      rw [g0] at k1
      rw [g1] at k2
      cases k1
      cases k2
      exact hl
    · by_cases c2 : j = i + 1
      · subst c2
        rw [g1] at k1
        rw [go (i + 1 + 1) (by omega) (by omega)] at k2
        cases k1
        have l2 := (List.getElem?_eq_some_iff.mp k2).1
        obtain ⟨s, x0, u, s1, s2, s3, s4, s5⟩ := h8 (by omega)
        rw [eb] at s2
        cases s2
        have hs : s < gNN n := hF s (List.mem_of_getElem? s1)
        intro c hc m1 d1
        have k := dom2 h2 h5 ha hs s3 hx hb' (hw i a s eF s1) s4 (by rw [e1]; omega) e2 hc (s5 g' c k2 hc d1) (by rw [mu_let h2 h5 hc]; exact m1)
        rw [mu_let h2 h5 hc] at k
        exact h7 (i + 1) b g' (Nat.le_refl _) eb k2 c hc k d1
      · rw [go j c1 c2] at k1
        rw [go (j + 1) (by omega) (by omega)] at k2
        exact h7 j g g' (by omega) k1 k2
  · refine ⟨a, x, a', eF, g0, hx, e1, fun t c k1 hc d1 => ?_⟩
    rw [g1] at k1
    cases k1
    exact mu_sub h2 h5 hx hb' (lett h2 h5 hc) (by rw [e2]; omega) d1
/-- in a weighted list deltas stand in front, and nothing else than 1 behind 1 -/
theorem dl_lt : gNN n - 1 < gNN n := by have := nn_0 (n := n); omega
theorem lw_D (h2 : 2 ≤ n) (h5 : n ≤ 5) {g : Nat} (hg : g < gNN n) (h : lwG n g (gNN n - 1)) : g = gNN n - 1 := by
  refine dv_as h2 h5 hg dl_lt (d_pk h2 h5 hg).2.2.2.2 (Classical.byContradiction (fun hne => ?_))
  obtain ⟨a, ha, m1, m2⟩ := (f_fou h2 h5 hg dl_lt).2.2 hne
  exact h a ha m1 (d_pk h2 h5 (lett h2 h5 ha)).2.2.2.2
theorem lw_0 (h2 : 2 ≤ n) (h5 : n ≤ 5) {g : Nat} (hg : g < gNN n) (h : lwG n 0 g) : g = 0 := by
  refine Classical.byContradiction (fun hne => ?_)
  obtain ⟨a, ha, m1, m2⟩ := (f_fou h2 h5 nn_0 hg).2.2 (by rw [dd_0l h2 h5 hg]; exact hne)
  rw [dd_0l h2 h5 hg] at m2
  exact h a ha m1 m2
theorem let_ne (h2 : 2 ≤ n) (h5 : n ≤ 5) {a : Nat} (ha : a + 1 < n) : moG n 0 a - 1 ≠ 0 := fun e => by
  have h1 := ((f_two h2 h5 nn_0 ha).2.2.2 (f_fiv h2 h5 ha).1).1
  rw [e] at h1
  omega
theorem lw_Dl (h2 : 2 ≤ n) (h5 : n ≤ 5) {g : Nat} : lwG n (gNN n - 1) g := fun a ha m1 => by
  exfalso
  have hl := lett h2 h5 ha
  rw [← mu_let h2 h5 ha] at m1
  have := (d_pb h2 h5 dl_lt hl).1.mp m1
  rw [dd_s h2 h5 dl_lt, dd_0l h2 h5 hl] at this
  exact let_ne h2 h5 ha this
/-- what a form may be: weighted, without delta and without 1 -/
def nfL (n : Nat) (F : List Nat) : Prop := okT n F ∧ wtL n F ∧ ∀ g, g ∈ F → g ≠ 0 ∧ g ≠ gNN n - 1
theorem wtL_d {L : List Nat} (h : wtL n L) (d : Nat) : wtL n (L.drop d) := fun i g g' h1 h3 => by
  rw [List.getElem?_drop] at h1 h3
  exact h (d + i) g g' h1 h3
theorem wtL_k {L : List Nat} (h : wtL n L) (d : Nat) : wtL n (L.take d) := fun i g g' h1 h3 => by
  have l := (List.getElem?_eq_some_iff.mp h3).1
  rw [List.length_take] at l
  rw [List.getElem?_take_of_lt (by omega)] at h1 h3
  exact h i g g' h1 h3
theorem no_D (h2 : 2 ≤ n) (h5 : n ≤ 5) {L : List Nat} (hk : okT n L) (hw : wtL n L) (h0 : ∀ g, L[0]? = some g → g ≠ gNN n - 1) : ∀ (i g : Nat), L[i]? = some g → g ≠ gNN n - 1
  | 0, g, e => h0 g e
  | i + 1, g, e => fun e9 => by
    have l := (List.getElem?_eq_some_iff.mp e).1
    have e1 : L[i]? = some L[i] := List.getElem?_eq_getElem (by omega)
    have k := hw i _ _ e1 e
    rw [e9] at k
    exact no_D h2 h5 hk hw h0 i _ e1 (lw_D h2 h5 (hk _ (List.mem_of_getElem? e1)) k)
theorem al_0 (h2 : 2 ≤ n) (h5 : n ≤ 5) {L : List Nat} (hk : okT n L) (hw : wtL n L) {i : Nat} (e : L[i]? = some 0) : ∀ (d g : Nat), L[i + d]? = some g → g = 0
  | 0, g, e1 => by
    rw [Nat.add_zero, e] at e1
    exact (Option.some.inj e1).symm
  | d + 1, g, e1 => by
    have l := (List.getElem?_eq_some_iff.mp e1).1
    have e2 : L[i + d]? = some L[i + d] := List.getElem?_eq_getElem (by omega)
    have k := hw (i + d) _ _ e2 e1
    rw [al_0 h2 h5 hk hw e d _ e2] at k
    exact lw_0 h2 h5 (hk _ (List.mem_of_getElem? e1)) k
/-- deltas in front and 1 behind taken away -/
theorem nf_strip (h2 : 2 ≤ n) (h5 : n ≤ 5) {L : List Nat} (hk : okT n L) (hw : wtL n L) {d e : Nat} (hde : d + e ≤ L.length) (h1 : ∀ i g, i < d → L[i]? = some g → g = gNN n - 1) (h3 : d < L.length → ∀ g, L[d]? = some g → g ≠ gNN n - 1) (h4 : ∀ i g, d + e ≤ i → L[i]? = some g → g = 0) (h6 : 0 < e → ∀ g, L[d + e - 1]? = some g → g ≠ 0) : nfL n ((L.drop d).take e) ∧ eqT n L (List.replicate d (gNN n - 1) ++ (L.drop d).take e) := by
  have hkd : okT n (L.drop d) := fun t ht => hk t (List.mem_of_mem_drop ht)
  have hwd := wtL_d hw d
  have nd := no_D h2 h5 hkd hwd (fun g hg => by
    have l := (List.getElem?_eq_some_iff.mp hg).1
    rw [List.length_drop] at l
    rw [List.getElem?_drop, Nat.add_zero] at hg
    exact h3 (by omega) g hg)
  have ge : ∀ i g, ((L.drop d).take e)[i]? = some g → i < e ∧ L[d + i]? = some g := fun i g hg => by
    have l := (List.getElem?_eq_some_iff.mp hg).1
    rw [List.length_take] at l
    rw [List.getElem?_take_of_lt (by omega), List.getElem?_drop] at hg
    exact ⟨by omega, hg⟩
  refine ⟨⟨fun t ht => hkd t (List.mem_of_mem_take ht), wtL_k hwd e, fun g hg => ?_⟩, ?_⟩
  · obtain ⟨i, hi⟩ := List.getElem?_of_mem hg
    obtain ⟨i1, i2⟩ := ge i g hi
    refine ⟨fun e0 => ?_, nd i g (by rw [List.getElem?_drop]; exact i2)⟩
    rw [e0] at i2
    have l : d + e - 1 < L.length := by omega
    have e3 : L[d + e - 1]? = some L[d + e - 1] := List.getElem?_eq_getElem l
    have := al_0 h2 h5 hk hw i2 (e - 1 - i) L[d + e - 1] (by rw [show d + i + (e - 1 - i) = d + e - 1 by omega]; exact e3)
    exact h6 (by omega) _ e3 this
  · have sp : L = List.replicate d (gNN n - 1) ++ ((L.drop d).take e ++ (L.drop (d + e))) := by
      conv => lhs; rw [← List.take_append_drop d L, ← List.take_append_drop e (L.drop d), List.drop_drop]
      congr 1
      refine List.ext_getElem? (fun i => ?_)
      by_cases hi : i < d
      · rw [List.getElem?_take_of_lt hi, List.getElem?_replicate, if_pos hi, List.getElem?_eq_getElem (by omega)]
        exact congrArg some (h1 i _ hi (List.getElem?_eq_getElem (by omega)))
      · rw [List.getElem?_eq_none (by rw [List.length_take]; omega), List.getElem?_eq_none (by rw [List.length_replicate]; omega)]
    have z : L.drop (d + e) = List.replicate (L.length - (d + e)) 0 := by
      refine List.ext_getElem? (fun i => ?_)
      rw [List.getElem?_drop, List.getElem?_replicate]
      by_cases hi : i < L.length - (d + e)
      · rw [if_pos hi, List.getElem?_eq_getElem (by omega)]
        exact congrArg some (h4 (d + e + i) _ (by omega) (List.getElem?_eq_getElem (by omega)))
      · rw [if_neg hi, List.getElem?_eq_none (by omega)]
    have drop0 : ∀ (m : Nat) (X : List Nat), okT n X → eqT n (X ++ List.replicate m 0) X := by
      intro m
      induction m with
      | zero =>
        intro X _
        rw [List.replicate_zero, List.append_nil]
        exact eqT_rf X
      | succ m ih =>
        intro X hX
        rw [List.replicate_succ]
        exact eqT_tr (eqT_id h2 h5 hX (fun t ht => by rw [(List.mem_replicate.mp ht).2]; exact nn_0)) (ih X hX)
    conv => lhs; rw [sp, z]
    rw [← List.append_assoc]
    exact drop0 _ _ (okT_a.mpr ⟨fun t ht => by rw [(List.mem_replicate.mp ht).2]; exact dl_lt, fun t ht => hkd t (List.mem_of_mem_take ht)⟩)
end NF2
end
section
/-! 99zzzzzzzzzzzzzw.xnf3 -/
/-! normal forms of braids: the reference, exactly -/
section NF3
variable {n : Nat}
/-- words that make the simple ones T -/
def bvG (n : Nat) : List (List Nat) → List Nat → Prop
  | [], [] => True
  | c :: C, t :: T => evG n 0 c = t + 1 ∧ t < gNN n ∧ bvG n C T
  | _, _ => False
theorem bv_bl : ∀ (C : List (List Nat)) (T : List Nat), bvG n C T → blG n C ∧ okT n T ∧ C.length = T.length
  | [], [], _ => ⟨bl_nil, okT_n, rfl⟩
  | [], t :: T, h => h.elim
  | c :: C, [], h => h.elim
  | c :: C, t :: T, h => by
    obtain ⟨a1, a2, a3⟩ := bv_bl C T h.2.2
    refine ⟨fun w hw => ?_, okT_c.mpr ⟨h.2.1, a2⟩, by rw [List.length_cons, List.length_cons, a3]⟩
    rcases List.mem_cons.mp hw with e | hw
    · rw [e]
      exact ⟨t, h.2.1, h.1⟩
    · exact a1 w hw
theorem bv_app : ∀ (C : List (List Nat)) (T : List Nat) {c : List Nat} {t : Nat}, bvG n C T → evG n 0 c = t + 1 → t < gNN n → bvG n (C ++ [c]) (T ++ [t])
  | [], [], c, t, _, e, ht => ⟨e, ht, trivial⟩
  | [], t :: T, _, _, h, _, _ => h.elim
  | c :: C, [], _, _, h, _, _ => h.elim
  | c :: C, t :: T, c', t', h, e, ht => ⟨h.1, h.2.1, bv_app C T h.2.2 e ht⟩
theorem bv_flip (h2 : 2 ≤ n) (h5 : n ≤ 5) : ∀ (C : List (List Nat)) (T : List Nat), bvG n C T → bvG n (C.map (List.map (fun a => n - 2 - a))) (T.map (ovG n))
  | [], [], _ => trivial
  | [], t :: T, h => h.elim
  | c :: C, [], h => h.elim
  | c :: C, t :: T, h => by
    have := ev_flip h2 h5 c nn_0 h.1
    rw [ov_0 h2 h5] at this
    exact ⟨this, ov_lt h2 h5 h.2.1, bv_flip h2 h5 C T h.2.2⟩
theorem bv_rv (h2 : 2 ≤ n) (h5 : n ≤ 5) : ∀ (C : List (List Nat)) (T : List Nat) {v : Nat}, v < gNN n → bvG n C T → ∃ C', bvG n C' (r1G n v T).2 ∧ C'.length = C.length ∧ (rvG n v C.flatten).1 = C'.flatten ∧ (rvG n v C.flatten).2 = (r1G n v T).1
  | [], [], v, hv, _ => ⟨[], trivial, rfl, rfl, rfl⟩
  | [], t :: T, _, _, h => h.elim
  | c :: C, [], _, _, h => h.elim
  | c :: C, t :: T, v, hv, h => by
    obtain ⟨k1, k2⟩ := gv_simple0 h2 h5 hv h.1
    obtain ⟨C', b1, b2, b3, b4⟩ := bv_rv h2 h5 C T (dd_lt h2 h5 h.2.1 hv) h.2.2
    refine ⟨(rvG n v c).1 :: C', ⟨k2, dd_lt h2 h5 hv h.2.1, b1⟩, by rw [List.length_cons, List.length_cons, b2], ?_, ?_⟩
    · rw [List.flatten_cons, gv_app, k1, b3, List.flatten_cons]
    · rw [List.flatten_cons, gv_app, k1]
      exact b4
theorem bv_e : ∀ (C : List (List Nat)) (T : List Nat), bvG n C T → C.flatten = [] → ∀ t, t ∈ T → t = 0
  | [], [], _, _, t, ht => absurd ht List.not_mem_nil
  | [], t :: T, h, _, _, _ => h.elim
  | c :: C, [], h, _, _, _ => h.elim
  | c :: C, t :: T, h, e, s, hs => by
    rw [List.flatten_cons] at e
    obtain ⟨e1, e2⟩ := List.append_eq_nil_iff.mp e
    rcases List.mem_cons.mp hs with e9 | hs
    · have := h.1
      rw [e1] at this
      have : (0 : Nat) + 1 = t + 1 := this
      omega
    · exact bv_e C T h.2.2 e2 s hs
theorem bv_z (h2 : 2 ≤ n) (h5 : n ≤ 5) : ∀ (C : List (List Nat)) (T : List Nat), bvG n C T → (∀ t, t ∈ T → t = 0) → C.flatten = []
  | [], [], _, _ => rfl
  | [], t :: T, h, _ => h.elim
  | c :: C, [], h, _ => h.elim
  | c :: C, t :: T, h, e => by
    have l := (ev_len h2 h5 c nn_0 h.1).2.1
    rw [e t List.mem_cons_self, sz_0 h2 h5] at l
    have hc : c = [] := List.eq_nil_of_length_eq_zero (by omega)
    rw [List.flatten_cons, hc, bv_z h2 h5 C T h.2.2 (fun s hs => e s (List.mem_cons_of_mem _ hs))]
    rfl
theorem r1_z (h2 : 2 ≤ n) (h5 : n ≤ 5) : ∀ (T : List Nat) {v : Nat}, v < gNN n → (∀ t, t ∈ T → t = 0) → (r1G n v T).1 = v
  | [], _, _, _ => rfl
  | t :: T, v, hv, h => by
    show (r1G n (ddG n t v) T).1 = v
    rw [h t List.mem_cons_self, dd_0l h2 h5 hv]
    exact r1_z h2 h5 T hv (fun s hs => h s (List.mem_cons_of_mem _ hs))
theorem eq_nil (h2 : 2 ≤ n) (h5 : n ≤ 5) : ∀ (T : List Nat), okT n T → (∀ v, v < gNN n → (r1G n v T).1 = v) → ∀ t, t ∈ T → t = 0
  | [], _, _, t, ht => absurd ht List.not_mem_nil
  | t :: T, hk, h, s, hs => by
    obtain ⟨ht, hk'⟩ := okT_c.mp hk
    have t0 : t = 0 := by
      have k := h t ht
      have k : (r1G n (ddG n t t) T).1 = t := k
      rw [dd_s h2 h5 ht, r1_0 h2 h5 T hk'] at k
      exact k.symm
    rcases List.mem_cons.mp hs with e | hs
    · rw [e]
      exact t0
    · refine eq_nil h2 h5 T hk' (fun v hv => ?_) s hs
      have k := h v hv
      have k : (r1G n (ddG n t v) T).1 = v := k
      rw [t0, dd_0l h2 h5 hv] at k
      exact k
end NF3
section NF4
variable {z : ow_MS} {n : Nat}
theorem xr_normalise {k : Int32} {B : List (List Nat)} {T0 G0 : List Nat} (h2 : 2 ≤ n) (h5 : n ≤ 5) (hT : tbG z) (hB : bvG n B T0) (hr : B.length ≤ 18) (hw : lnI z 109 108 B.flatten) (hG : okT n G0) (hwt : wtL n G0) (hnz : ∀ g, g ∈ G0 → g ≠ 0) (he : eqT n T0 G0) : Te (fun K => qe_X13_normalise K (nI n) k z) (fun z1 => fmI z1 n (G0.filter (fun g => decide (g ≠ gNN n - 1))) ∧ z1.1 112 = k + nI (G0.countP (fun g => decide (g = gNN n - 1)))) := by
  have hN := nn_pos (n := n)
  let Q : ow_MS → Prop := fun z1 => fmI z1 n (G0.filter (fun g => decide (g ≠ gNN n - 1))) ∧ z1.1 112 = k + nI (G0.countP (fun g => decide (g = gNN n - 1)))
  have tF : ∀ {y : ow_MS}, fr nmH z y → tbG y := fun hf => tbG_fr hf (fun g hg => by unfold nmH at hg; omega) hT
  have hz0 : szG n 0 = 0 := sz_0 h2 h5
  have h00 : 0 < gNN n := by omega
  have c1 : ∀ (G : List Nat) (C : List (List Nat)) (T S : List Nat) (t : Nat) (y : ow_MS), okT n G → wtL n G → (∀ g, g ∈ G → g ≠ 0) → bvG n C T → C.length ≤ 18 → eqT n T G → S.length + t + C.flatten.length ≤ 180 → S ++ G.filter (fun g => decide (g ≠ gNN n - 1)) = G0.filter (fun g => decide (g ≠ gNN n - 1)) → t + G.countP (fun g => decide (g = gNN n - 1)) = G0.countP (fun g => decide (g = gNN n - 1)) → lnI y 109 108 C.flatten → fmI y n S → y.1 112 = k + nI t → fr nmH z y → Tt (fun K i => q_X13_normalise K i 1 (nI n) k (nI (gNN n - 1)) 0 0 0 0 0 y) Q := by
    intro G
    induction G with
    | nil =>
      intro C T S t y _ _ _ hC hC18 he hS e1 e2 hw hfm h112 hf
      have hz := bv_z h2 h5 C T hC (eq_nil h2 h5 T (bv_bl C T hC).2.1 (fun v hv => (eqT_1 he hv).1))
      rw [hz] at hw
      refine u_X13_normalise_1 ?_; unfold qm_X13_normalise_1
      refine w_rdF hw.1 (w_leT (b := 0) (by omega) (Nat.le_refl _) (w_some ⟨?_, ?_⟩))
      · rw [← e1]
        show fmI y n (S ++ [])
        rw [List.append_nil]
        exact hfm
      · rw [← e2]
        exact h112
    | cons g G ih =>
      intro C T S t y hG hwt hnz hC hC18 he hS e1 e2 hw hfm h112 hf
      obtain ⟨hbC, hokT, hlen⟩ := bv_bl C T hC
      obtain ⟨hg, hG'⟩ := okT_c.mp hG
      have hg0 := hnz g List.mem_cons_self
      obtain ⟨d1, d2⟩ := hd_1 h2 h5 hG he
      have hne : C.flatten ≠ [] := fun e9 => by
        have := r1_z h2 h5 T hg (bv_e C T hC e9)
        rw [d1] at this
        exact hg0 this.symm
      have c2 : ∀ (dd h : Nat) (C1 : List (List Nat)) (y : ow_MS), szG n h + dd = 10 → h < gNN n → (r1G n h T).1 = 0 → bvG n C1 (r1G n h T).2 → C1.length = C.length → C1.flatten.length + szG n h = C.flatten.length → lnI y 109 108 C1.flatten → fmI y n S → y.1 112 = k + nI t → fr nmH z y → Tt (fun K i => q_X13_normalise K i 2 (nI n) k (nI (gNN n - 1)) (nI h) 1 0 0 0 y) Q := by
        intro dd
        induction dd using Nat.strongRecOn with
        | ind dd ihd =>
        intro h C1 y hdd hh hr0 hbv hC1 hlw hw hfm h112 hf
        have hT1 := (r1_ok h2 h5 T hh hokT).2.1
        have hbl := (bv_bl C1 _ hbv).1
        have hl18 : C1.length ≤ 18 := by omega
        have hfl := (bl_len h2 h5 _ hbl).1
        have fin : (∀ b, b + 1 < n → moG n h b = 0 ∨ C1.flatten = [] ∨ (rvG n (moG n 0 b - 1) C1.flatten).2 ≠ 0) → ∀ (y : ow_MS), lnI y 109 108 C1.flatten → fmI y n S → y.1 112 = k + nI t → fr nmH z y → Tt (fun K i => q_X13_normalise K i 2 (nI n) k (nI (gNN n - 1)) (nI h) 0 0 0 0 y) Q := by
          intro hno y hw hfm h112 hf
          have ehg : h = g := hd_3 h2 h5 hokT hG hwt he hh hr0 (fun a ha m1 e9 => by
            rcases hno a ha with h9 | h9 | h9
            · exact m1 h9
            · have := r1_z h2 h5 _ (lett h2 h5 ha) (bv_e C1 _ hbv h9)
              rw [e9] at this
              exact let_ne h2 h5 ha this.symm
            · obtain ⟨C', -, -, -, q⟩ := bv_rv h2 h5 C1 _ (lett h2 h5 ha) hbv
              rw [q] at h9
              exact h9 e9)
          have hsz : 1 ≤ szG n h := by
            rcases Nat.eq_zero_or_pos (szG n h) with h9 | h9
            · exact absurd (sz_z h2 h5 hh h9) (by rw [ehg]; exact hg0)
            · exact h9
          rw [ehg] at hbv
          have c7 : ∀ (S' : List Nat) (t' : Nat) (y : ow_MS), S'.length + t' ≤ S.length + t + 1 → S' ++ G.filter (fun g => decide (g ≠ gNN n - 1)) = G0.filter (fun g => decide (g ≠ gNN n - 1)) → t' + G.countP (fun g => decide (g = gNN n - 1)) = G0.countP (fun g => decide (g = gNN n - 1)) → lnI y 109 108 C1.flatten → fmI y n S' → y.1 112 = k + nI t' → fr nmH z y → Tt (fun K i => q_X13_normalise K i 7 (nI n) k (nI (gNN n - 1)) (nI h) 0 0 0 0 y) Q := by
            intro S' t' y a1 a2 a3 a4 a5 a6 a7
            refine u_X13_normalise_7 ?_; unfold qm_X13_normalise_7
            exact ih C1 _ S' t' y hG' (wtL_t hwt) (fun g hg => hnz g (List.mem_cons_of_mem _ hg)) hbv hl18 d2 (by omega) a2 a3 a4 a5 a6 a7
          refine u_X13_normalise_2 ?_; unfold qm_X13_normalise_2
          refine w_ifT rfl (w_eqN (by omega) (by omega) (fun hd => ?_) (fun hd => ?_))
          · refine w_rdF h112 (w_wrF (c7 S (t + 1) _ (by omega) ?_ ?_ ⟨rf_ot (by omega) hw.1, hw.2⟩ ⟨⟨rf_ot (by omega) hfm.1.1, hfm.1.2⟩, hfm.2⟩ ?_ (fr_F2 hf (by unfold nmH; omega))))
            · rw [← e1, List.filter_cons_of_neg (by rw [← ehg, hd]; simp)]
            · rw [← e2, List.countP_cons_of_pos (by rw [← ehg, hd]; simp)]
              omega
            · rw [po_usF_at, Int32.add_assoc, nI_1]
          · refine w_rdF hfm.1.1 (w_wrI ml114 rfl (by omega) (w_rdF (x := nI S.length) hfm.1.1 (w_wrF (c7 (S ++ [h]) t _ ?_ ?_ ?_ ⟨rf_ot (by omega) hw.1, fun i a hi => rd_ot (by omega) (hw.2 i a hi)⟩ ⟨lnI_add hfm.1, fun s hs => ?_⟩ (rf_ot (by omega) h112) (fr_F2 (fr_I2 hf (by unfold nmH; omega)) (by unfold nmH; omega))))))
            · rw [List.length_append]
              show S.length + 1 + t ≤ _
              omega
            · rw [← e1, List.filter_cons_of_pos (by rw [← ehg]; exact decide_eq_true hd), ehg, List.append_assoc]
              rfl
            · rw [← e2, List.countP_cons_of_neg (by rw [← ehg]; simp [hd])]
            · rcases List.mem_append.mp hs with h9 | h9
              · exact hfm.2 s h9
              · rw [List.mem_singleton.mp h9]; exact hh
        have c3 : ∀ (d a : Nat) (y : ow_MS), a + d + 1 = n → (∀ b, b < a → moG n h b = 0 ∨ C1.flatten = [] ∨ (rvG n (moG n 0 b - 1) C1.flatten).2 ≠ 0) → lnI y 109 108 C1.flatten → fmI y n S → y.1 112 = k + nI t → fr nmH z y → Tt (fun K i => q_X13_normalise K i 3 (nI n) k (nI (gNN n - 1)) (nI h) 0 (nI a) 0 0 y) Q := by
          intro d
          induction d with
          | zero =>
            intro a y ha hno hw hfm h112 hf
            refine u_X13_normalise_3 ?_; unfold qm_X13_normalise_3
            rw [show nI n - 1 = nI (n - 1) from pk_sub (b := 1) (by omega)]
            refine w_leT (by omega) (by omega) ?_
            refine u_X13_normalise_6 ?_; unfold qm_X13_normalise_6
            exact fin (fun b hb => hno b (by omega)) y hw hfm h112 hf
          | succ d ih3 =>
            intro a y ha hno hw hfm h112 hf
            have ha1 : a + 1 < n := by omega
            have hTh := (((tF hf) n h2 h5).2 h hh).2.2.2.2 a ha1
            obtain ⟨t1, t2, t3, t4⟩ := f_two h2 h5 hh ha1
            have hl := lett h2 h5 ha1
            have c5 : ∀ (x7 : Int32) (y : ow_MS), (moG n h a = 0 ∨ C1.flatten = [] ∨ (rvG n (moG n 0 a - 1) C1.flatten).2 ≠ 0) → lnI y 109 108 C1.flatten → fmI y n S → y.1 112 = k + nI t → fr nmH z y → Tt (fun K i => q_X13_normalise K i 5 (nI n) k (nI (gNN n - 1)) (nI h) 0 (nI a) x7 0 y) Q := by
              intro x7 y hno2 hw hfm h112 hf
              refine u_X13_normalise_5 ?_; unfold qm_X13_normalise_5
              rw [nI_1]
              refine ih3 (a + 1) y (by omega) (fun b hb => ?_) hw hfm h112 hf
              by_cases hba : b = a
              · rw [hba]; exact hno2
              · exact hno b (by omega)
            refine u_X13_normalise_3 ?_; unfold qm_X13_normalise_3
            rw [show nI n - 1 = nI (n - 1) from pk_sub (b := 1) (by omega), ix4]
            refine w_leF (by omega) (by omega) (w_ifT rfl (w_rdI ml101 rfl (by omega) hTh.1 ?_))
            by_cases hmo : moG n h a = 0
            · rw [if_pos hmo]
              exact w_ifT rfl (c5 _ y (Or.inl hmo) hw hfm h112 hf)
            · rw [if_neg hmo]
              refine w_ifF (rn_neg1 (by omega)) (w_rdF hw.1 (w_le (b := 0) (by omega) (by omega) (fun h0 => c5 _ y (Or.inr (Or.inl (List.length_eq_zero_iff.mp (by omega)))) hw hfm h112 hf) (fun hpos => w_cs1 (tp_begins h2 h5 ha1 (tF hf) hbl hl18 hw) (fun v y2 ⟨ev, hq, f2⟩ => ?_))))
              have ev : v = bZ (decide ((rvG n (moG n 0 a - 1) C1.flatten).2 = 0)) := ev
              have hq : lnI y2 111 110 (rvG n (moG n 0 a - 1) C1.flatten).1 := hq
              have f2 : fr (fun g => g = 110 ∨ g = 111) y y2 := f2
              have hf2 : fr nmH z y2 := fr_tr hf (fr_mono (fun g hg => by unfold nmH; omega) f2)
              have hw2 : lnI y2 109 108 C1.flatten := lnI_fr f2 (by omega) (by omega) hw
              have hfm2 : fmI y2 n S := ⟨lnI_fr f2 (by omega) (by omega) hfm.1, hfm.2⟩
              have h112b : y2.1 112 = k + nI t := by rw [(f2 112 (by omega)).1]; exact h112
              by_cases hdv : (rvG n (moG n 0 a - 1) C1.flatten).2 = 0
              · rw [decide_eq_true hdv] at ev
                rw [ev]
                obtain ⟨C', q1, q2, q3, q4⟩ := bv_rv h2 h5 C1 _ hl hbv
                obtain ⟨B9, -, -, b3, -, b5⟩ := bl_rv h2 h5 C1 hl hbl
                rw [hdv, hz0, ← b3, q3] at b5
                rw [hdv] at q4
                have hsz1 : szG n (moG n 0 a - 1) = 1 := by
                  have := ((f_two h2 h5 h00 ha1).2.2.2 (f_fiv h2 h5 ha1).1).1
                  omega
                have emu : muG n h (moG n 0 a - 1) = (moG n h a - 1) + 1 := by rw [mu_let h2 h5 ha1]; omega
                obtain ⟨p1, p2⟩ := r1_mul h2 h5 T hh hl emu hokT
                rw [hr0, ← q4, mu_l0 h2 h5 h00] at p2
                rw [q3] at hq
                generalize hqq : C'.flatten = q at *
                have hql : q.length ≤ 180 := by omega
                refine w_ifF (by decide) (w_rdF hq.1 (w_wrF ?_))
                have c4 : ∀ (d4 j : Nat) (y : ow_MS), j + d4 = q.length → y.1 109 = nI q.length → lnI y 111 110 q → (∀ i b, i < j → q[i]? = some b → y.2.1 108 i = nI b) → fmI y n S → y.1 112 = k + nI t → fr nmH z y → Tt (fun K i => q_X13_normalise K i 4 (nI n) k (nI (gNN n - 1)) (nI (moG n h a - 1)) 0 (nI a) (nI (moG n h a - 1)) (nI j) y) Q := by
                  intro d4
                  induction d4 with
                  | zero =>
                    intro j y hj h109 hq hcp hfm h112 hf
                    refine u_X13_normalise_4 ?_; unfold qm_X13_normalise_4
                    refine w_rdF h109 (w_leT (by omega) (by omega) ?_)
                    refine u_X13_normalise_5 ?_; unfold qm_X13_normalise_5
                    rw [nI_1]
                    have c3' : Tt (fun K i => q_X13_normalise K i 6 (nI n) k (nI (gNN n - 1)) (nI (moG n h a - 1)) 1 (nI (a + 1)) 0 0 y) Q := by
                      refine u_X13_normalise_6 ?_; unfold qm_X13_normalise_6
                      have s1 := (t4 hmo).1
                      have s2 := (f_one h2 h5 (k := moG n h a - 1) (by omega)).1
                      exact ihd (dd - 1) (by omega) (moG n h a - 1) C' y (by omega) (by omega) (by omega) (by rw [p1]; exact q1) (by omega) (by rw [hqq]; omega) (by rw [hqq]; exact ⟨h109, fun i b hi => hcp i b (by have := (List.getElem?_eq_some_iff.mp hi).1; omega) hi⟩) hfm h112 hf
                    refine u_X13_normalise_3 ?_; unfold qm_X13_normalise_3
                    rw [show nI n - 1 = nI (n - 1) from pk_sub (b := 1) (by omega)]
                    exact w_le (by omega) (by omega) (fun _ => c3') (fun _ => w_ifF (by decide) c3')
                  | succ d4 ih4 =>
                    intro j y hj h109 hq hcp hfm h112 hf
                    have hjl : j < q.length := by omega
                    refine u_X13_normalise_4 ?_; unfold qm_X13_normalise_4
                    rw [nI_1]
                    refine w_rdF h109 (w_leF (by omega) hjl (w_rdI ml110 rfl (by omega) (hq.2 j _ (List.getElem?_eq_getElem hjl)) (w_wrI ml108 rfl (by omega) (ih4 (j + 1) _ (by omega) h109 ⟨hq.1, fun i b hi => rd_ot (by omega) (hq.2 i b hi)⟩ (fun i b hi hb => ?_) ⟨⟨hfm.1.1, fun i b hi => rd_ot (by omega) (hfm.1.2 i b hi)⟩, hfm.2⟩ h112 (fr_I2 hf (by unfold nmH; omega))))))
                    by_cases hij : i = j
                    · rw [hij] at hb
                      rw [List.getElem?_eq_getElem hjl] at hb
                      cases hb
                      rw [hij, po_usI_at]
                    · exact rd_ne hij (hcp i b (by omega) hb)
                exact c4 q.length 0 _ (by omega) po_usF_at ⟨rf_ot (by omega) hq.1, hq.2⟩ (fun i b hi => absurd hi (by omega)) ⟨⟨rf_ot (by omega) hfm2.1.1, hfm2.1.2⟩, hfm2.2⟩ (rf_ot (by omega) h112b) (fr_F2 hf2 (by unfold nmH; omega))
              · rw [decide_eq_false hdv] at ev
                rw [ev]
                exact w_ifT rfl (c5 _ y2 (Or.inr (Or.inr hdv)) hw2 hfm2 h112b hf2)
        refine u_X13_normalise_2 ?_; unfold qm_X13_normalise_2
        exact w_ifF (by decide) (c3 (n - 1) 0 y (by omega) (fun b hb => absurd hb (by omega)) hw hfm h112 hf)
      have hpos : 0 < C.flatten.length := List.length_pos_iff.mpr hne
      refine u_X13_normalise_1 ?_; unfold qm_X13_normalise_1
      refine w_rdF hw.1 (w_leF (b := 0) (by omega) (by omega) ?_)
      refine c2 10 0 C y (by omega) h00 ?_ ?_ rfl (by omega) hw hfm h112 hf
      · rw [r1_0 h2 h5 T hokT]
      · rw [r1_0 h2 h5 T hokT]
        exact hC
  have hTn := (hT n h2 h5).1
  have hfl := (bl_len h2 h5 B (bv_bl B T0 hB).1).1
  refine e_X13_normalise ?_
  refine u_X13_normalise_0 ?_; unfold qm_X13_normalise_0
  refine w_wrF (w_wrF (w_rdI ml97 rfl (by omega) hTn ?_))
  rw [show nI (gNN n) - 1 = nI (gNN n - 1) from pk_sub (b := 1) (by omega)]
  refine c1 G0 B T0 [] 0 _ hG hwt hnz hB hr he (by rw [List.length_nil]; omega) rfl (Nat.zero_add _) ⟨rf_ot (by omega) (rf_ot (by omega) hw.1), hw.2⟩ ⟨⟨po_usF_at, fun i a hi => by simp at hi⟩, fun s hs => absurd hs List.not_mem_nil⟩ ?_ (fr_F2 (fr_F (by unfold nmH; omega)) (by unfold nmH; omega))
  rw [po_usF_ot (by omega), po_usF_at]
  exact (Int32.add_zero k).symm
end NF4
/-- a letter, small or capital -/
def lx9 (p : Nat × Bool) : Int32 := if p.2 then -1 - nI p.1 else nI (p.1 + 1)
def stB9 (n : Nat) (p : Nat × Bool) (S : List Nat × Int) : List Nat × Int := if p.2 then (S.1.map (ovG n) ++ [ahG n (moG n 0 p.1 - 1)], S.2 - 1) else (S.1 ++ [moG n 0 p.1 - 1], S.2)
def foT (n : Nat) (w : Nat → Nat × Bool) : Nat → List Nat × Int
  | 0 => ([], 0)
  | i + 1 => stB9 n (w i) (foT n w i)
section NF5
variable {z : ow_MS} {n : Nat}
theorem wt_D (h2 : 2 ≤ n) (h5 : n ≤ 5) {F : List Nat} (hw : wtL n F) : ∀ {j : Nat}, wtL n (List.replicate j (gNN n - 1) ++ F)
  | 0 => by
    rw [List.replicate_zero, List.nil_append]
    exact hw
  | j + 1 => by
    intro i g g' h1 h3
    rw [List.replicate_succ] at h1 h3
    cases i with
    | zero =>
      have h1 : some (gNN n - 1) = some g := h1
      cases h1
      exact lw_Dl h2 h5
    | succ i => exact wt_D h2 h5 hw (j := j) i g g' h1 h3
theorem xr_formOf {b l : Nat} {w : Nat → Nat × Bool} {F : List Nat} {j9 : Nat} (hb : b < 20) (hh : hBr z b n l) (hT : tbG z) (hwd : ∀ i, i < l → (w i).1 + 1 < n ∧ z.2.1 94 (16 * b + i) = lx9 (w i)) (hF : nfL n F) (he : eqT n (foT n w l).1 (List.replicate j9 (gNN n - 1) ++ F)) : Te (fun K => qe_X13_formOf K (nI b) z) (fun z1 => fmI z1 n F ∧ z1.1 112 = iI ((foT n w l).2 + j9)) := by
  obtain ⟨h2, h5, hl, e96, e95, -⟩ := hh
  have hN := nn_pos (n := n)
  let Q : ow_MS → Prop := fun z1 => fmI z1 n F ∧ z1.1 112 = iI ((foT n w l).2 + j9)
  have hdl := dl_lt (n := n)
  have hG : okT n (List.replicate j9 (gNN n - 1) ++ F) := okT_a.mpr ⟨fun t ht => by rw [(List.mem_replicate.mp ht).2]; exact hdl, hF.1⟩
  have hD0 : gNN n - 1 ≠ 0 := fun e => by omega
  have hwt : wtL n (List.replicate j9 (gNN n - 1) ++ F) := wt_D h2 h5 hF.2.1
  have hnz : ∀ g, g ∈ List.replicate j9 (gNN n - 1) ++ F → g ≠ 0 := fun g hg => by
    rcases List.mem_append.mp hg with h9 | h9
    · rw [(List.mem_replicate.mp h9).2]
      exact hD0
    · exact (hF.2.2 g h9).1
  have tF : ∀ {y : ow_MS}, fr nmH z y → tbG y := fun hf => tbG_fr hf (fun g hg => by unfold nmH at hg; omega) hT
  have rF : ∀ {y : ow_MS} {g i : Nat}, fr nmH z y → g ≤ 96 → y.2.1 g i = z.2.1 g i := fun hf hg => by rw [(hf _ (by unfold nmH; omega)).2.1]
  have c1 : ∀ (d i g : Nat) (B : List (List Nat)) (y : ow_MS), i + d = l → g ≤ i → B.length = i → bvG n B (foT n w i).1 → (foT n w i).2 = -(g : Int) → lnI y 109 108 B.flatten → fr nmH z y → Tt (fun K t => q_X13_formOf K t 1 (nI b) (nI n) (iI (-(g : Int))) (nI i) 0 0 y) Q := by
    intro d
    induction d with
    | zero =>
      intro i g B y hi hg hBl hB hg9 hw hf
      have hblB := (bv_bl B _ hB).1
      have hfl := (bl_len h2 h5 B hblB).1
      refine u_X13_formOf_1 ?_; unfold qm_X13_formOf_1
      have hil : i = l := by omega
      refine w_rdI ml95 rfl (by omega) (by rw [rF hf (by omega)]; exact e95) (w_leT (by omega) (by omega) (w_cs0 (xr_normalise h2 h5 (tF hf) hB (by omega) hw hG hwt hnz (by rw [hil]; exact he)) (fun y1 ⟨f1, f3⟩ => w_some ⟨?_, ?_⟩)))
      · rw [List.filter_append, List.filter_eq_nil_iff.mpr (fun g hg => by rw [(List.mem_replicate.mp hg).2]; simp), List.nil_append, List.filter_eq_self.mpr (fun g hg => decide_eq_true (hF.2.2 g hg).2)] at f1
        exact f1
      · rw [List.countP_append, List.countP_eq_length.mpr (fun g hg => by rw [(List.mem_replicate.mp hg).2]; simp), List.countP_eq_zero.mpr (fun g hg => by have := (hF.2.2 g hg).2; simp [this]), List.length_replicate, Nat.add_zero] at f3
        rw [← hil, hg9, f3, nI_iI, iI_add]
    | succ d ih =>
      intro i g B y hi hg hBl hB hg9 hw hf
      have hblB := (bv_bl B _ hB).1
      have hfl := (bl_len h2 h5 B hblB).1
      obtain ⟨ha, hx⟩ := hwd i (by omega)
      rcases hwi : w i with ⟨a, sg9⟩
      rw [hwi] at ha hx
      have ha : a + 1 < n := ha
      have eS : foT n w (i + 1) = stB9 n (a, sg9) (foT n w i) := by rw [← hwi]; rfl
      have e94 : y.2.1 94 (16 * b + i) = z.2.1 94 (16 * b + i) := rF hf (by omega)
      have z1 := (f_fiv h2 h5 ha).1
      have hm0 := (f_two h2 h5 (k := 0) (by omega) ha).2.2.1
      refine u_X13_formOf_1 ?_; unfold qm_X13_formOf_1
      rw [show (16 : Int32) * nI b = nI (16 * b) from pk_mul 16 b, nI_add]
      refine w_rdI ml95 rfl (by omega) (by rw [rF hf (by omega)]; exact e95) (w_leF (by omega) (by omega) ?_)
      cases sg9 with
      | false =>
        have hx : z.2.1 94 (16 * b + i) = nI (a + 1) := hx
        refine w_rdI ml94 rfl (by omega) (e94.trans hx) (w_leF (b := 0) (by omega) (by omega) (w_rdF hw.1 ?_))
        rw [show nI (a + 1) - 1 = nI a from (pk_sub (a := a + 1) (b := 1) (by omega)).trans (by rw [Nat.add_sub_cancel])]
        refine w_wrI ml108 rfl (by omega) (w_rdF (x := nI B.flatten.length) hw.1 (w_wrF ?_))
        refine u_X13_formOf_3 ?_; unfold qm_X13_formOf_3
        rw [nI_1]
        refine ih (i + 1) g (B ++ [[a]]) _ (by omega) (by omega) (by rw [List.length_append, hBl]; rfl) ?_ (by rw [eS]; exact hg9) ?_ (fr_F2 (fr_I2 hf (by unfold nmH; omega)) (by unfold nmH; omega))
        · rw [eS]
          have := (f_one h2 h5 (k := moG n 0 a - 1) (by omega)).2.2.2.2.1
          rw [ltG_1 h2 h5 ha] at this
          exact bv_app B _ hB this (show moG n 0 a - 1 < gNN n by omega)
        · rw [List.flatten_append]
          have := lnI_add (a := a) hw
          exact this
      | true =>
        have hx : z.2.1 94 (16 * b + i) = -1 - nI a := hx
        have hle : (-1 - nI a : Int32) ≤ 0 := by
          rw [nI_iI]
          show iI (-1) - iI (a : Int) ≤ iI 0
          rw [iI_sub, iI_le (by omega) (by omega) (by omega) (by omega)]
          omega
        have eix : (480 : Int32) * nI n - (-1 - nI a) - 1 = nI (480 * n + a) := by
          rw [nI_iI n, nI_iI a]
          show iI 480 * iI (n : Int) - (iI (-1) - iI (a : Int)) - iI 1 = _
          rw [iI_mul, iI_sub, iI_sub, iI_sub]
          exact iI_nI (by omega)
        refine w_rdI ml94 rfl (by omega) (e94.trans hx) (w_ifT hle ?_)
        rw [show iI (-(g : Int)) + (-1) = iI (-((g + 1 : Nat) : Int)) from by
          show iI (-(g : Int)) + iI (-1) = _
          rw [iI_add]
          exact congrArg iI (by omega)]
        have c2 : ∀ (d2 t : Nat) (y : ow_MS), t + d2 = B.flatten.length → y.1 109 = nI B.flatten.length → (∀ j c, j < t → B.flatten[j]? = some c → y.2.1 108 j = nI (n - 2 - c)) → (∀ j c, t ≤ j → B.flatten[j]? = some c → y.2.1 108 j = nI c) → fr nmH z y → Tt (fun K k => q_X13_formOf K k 2 (nI b) (nI n) (iI (-((g + 1 : Nat) : Int))) (nI i) (-1 - nI a) (nI t) y) Q := by
          intro d2
          induction d2 with
          | zero =>
            intro t y ht h109 hc1 hc2 hf
            have hT0 := (((tF hf) n h2 h5).2 0 (by omega)).2.2.2.2 a ha
            rw [if_neg z1] at hT0
            have hs : moG n 0 a - 1 < gNN n := by omega
            have hTs := (((tF hf) n h2 h5).2 _ hs).2.1
            have hah := (f_one h2 h5 hs).2.1
            have e101 : y.2.1 101 (480 * n + a) = nI (moG n 0 a - 1) := by
              have := hT0.1
              rw [show 4 * (120 * n + 0) + a = 480 * n + a by omega] at this
              exact this
            have hw2 : lnI y 109 108 (B.map (List.map (fun a => n - 2 - a))).flatten := by
              rw [← List.map_flatten]
              refine ⟨by rw [List.length_map]; exact h109, fun j c hj => ?_⟩
              rw [List.getElem?_map] at hj
              cases hc : B.flatten[j]? with
              | none => rw [hc] at hj; cases hj
              | some c0 =>
                rw [hc] at hj
                cases hj
                exact hc1 j c0 (by have := (List.getElem?_eq_some_iff.mp hc).1; omega) hc
            have hBf := bl_flip h2 h5 hblB
            have hflf := (bl_len h2 h5 _ hBf).1
            rw [List.length_map] at hflf
            refine u_X13_formOf_2 ?_; unfold qm_X13_formOf_2
            rw [eix]
            refine w_rdF h109 (w_leT (by omega) (by omega) (w_rdI ml101 rfl (by omega) e101 ?_))
            rw [ix120]
            refine w_rdI ml102 rfl (by omega) hTs (w_cs0 (tp_append h2 h5 hah (tF hf) hw2 (by omega)) (fun y1 ⟨w1, f1⟩ => ?_))
            refine u_X13_formOf_3 ?_; unfold qm_X13_formOf_3
            rw [nI_1]
            refine ih (i + 1) (g + 1) (B.map (List.map (fun a => n - 2 - a)) ++ [ltG n (ahG n (moG n 0 a - 1))]) y1 (by omega) (by omega) (by rw [List.length_append, List.length_map, hBl]; rfl) (by rw [eS]; exact bv_app _ _ (bv_flip h2 h5 B _ hB) (f_one h2 h5 hah).2.2.2.2.1 hah) (by rw [eS]; show (foT n w i).2 - 1 = _; rw [hg9]; omega) ?_ (fr_tr hf (fr_mono (fun g hg => by unfold nmH; omega) f1))
            rw [List.flatten_append]
            have : [ltG n (ahG n (moG n 0 a - 1))].flatten = ltG n (ahG n (moG n 0 a - 1)) := by simp
            rw [this]
            exact w1
          | succ d2 ih2 =>
            intro t y ht h109 hc1 hc2 hf
            have htl : t < B.flatten.length := by omega
            have hc := (bl_len h2 h5 B hblB).2 _ (List.getElem_mem htl)
            have hrd := hc2 t _ (Nat.le_refl _) (List.getElem?_eq_getElem htl)
            generalize hce : B.flatten[t] = c at *
            refine u_X13_formOf_2 ?_; unfold qm_X13_formOf_2
            refine w_rdF h109 (w_leF (by omega) htl (w_rdI ml108 rfl (by omega) hrd ?_))
            rw [show nI n - 2 - nI c = nI (n - 2 - c) from by rw [show nI n - 2 = nI (n - 2) from pk_sub (b := 2) h2]; exact pk_sub (by omega), show nI t + 1 = nI (t + 1) from nI_1 _]
            refine w_wrI ml108 rfl (by omega) (ih2 (t + 1) _ (by omega) h109 (fun j c9 hj hj9 => ?_) (fun j c9 hj hj9 => rd_ne (by omega) (hc2 j c9 (by omega) hj9)) (fr_I2 hf (by unfold nmH; omega)))
            by_cases hjt : j = t
            · rw [hjt, List.getElem?_eq_getElem htl, hce] at hj9
              cases hj9
              rw [hjt, po_usI_at]
            · exact rd_ne hjt (hc1 j c9 (by omega) hj9)
        exact c2 B.flatten.length 0 y (by omega) hw.1 (fun j c hj => absurd hj (by omega)) (fun j c _ hj => hw.2 j c hj) hf
  refine e_X13_formOf ?_
  refine u_X13_formOf_0 ?_; unfold qm_X13_formOf_0
  refine w_rdI ml96 rfl (by omega) e96 (w_wrF ?_)
  exact c1 l 0 0 [] (usF z 109 0) (by omega) (Nat.le_refl _) rfl trivial rfl ⟨po_usF_at, fun i a hi => by simp at hi⟩ (fr_F (by unfold nmH; omega))
end NF5
end
section
/-! 99zzzzzzzzzzzzzx.xnf4 -/
/-! normal forms: simple braids as the class packs them, checked -/
def pkS (n k : Nat) : Nat → Int32
  | 0 => 0
  | j + 1 => pkS n k j ||| (nI (enG n k j) <<< (((4 * nI j) : Int32) &&& 31))
def pkG (n k : Nat) : Int32 := pkS n k n
def ivG (n k : Nat) : Int32 := foV (pkG n k) n
def gQk (n k : Nat) : Bool := decide (foV (ivG n k) n = pkG n k) && decide (foU (pkG n k) n n = pkG n (ovG n k)) && (decide (pkG n k = foE n) == decide (k = 0)) && (decide (pkG n k = foD n n) == decide (k = gNN n - 1))
def gQa (n k a : Nat) : Bool := !decide (a + 1 < n) || ((decide (foJ (ivG n k) (nI a) < foJ (ivG n k) (nI a + 1)) == decide (moG n k a ≠ 0)) && (decide (foJ (pkG n k) (nI a + 1) < foJ (pkG n k) (nI a)) == decide (ddG n k (moG n 0 a - 1) = 0)) && (decide (moG n k a = 0) || decide (foX (ivG n k) (nI a) = ivG n (moG n k a - 1))) && (decide (ddG n k (moG n 0 a - 1) ≠ 0) || decide (foX (pkG n k) (nI a) = pkG n (ddG n (moG n 0 a - 1) k))))
def gQl (n a : Nat) : Bool := !decide (a + 1 < n) || (decide (foX (foE n) (nI a) = pkG n (moG n 0 a - 1)) && decide (foV (foX (foV (foD n n) n) (nI a)) n = pkG n (ahG n (moG n 0 a - 1))) && decide (ovG n (moG n 0 a - 1) = moG n 0 (n - 2 - a) - 1))
def gQj (n k j : Nat) : Bool := !decide (j < n) || decide (foJ (pkG n k) (nI j) = nI (enG n k j))
def gQi (n k l : Nat) : Bool := decide (pkG n k = pkG n l) == decide (k = l)
theorem qk_2 : ∀ k : Fin 2, gQk 2 k.val = true := by decide +kernel
theorem qa_2 : ∀ k : Fin 2, ∀ a : Fin 4, gQa 2 k.val a.val = true := by decide +kernel
theorem ql_2 : ∀ a : Fin 4, gQl 2 a.val = true := by decide +kernel
theorem qj_2 : ∀ k : Fin 2, ∀ j : Fin 5, gQj 2 k.val j.val = true := by decide +kernel
theorem qi_2 : ∀ k : Fin 2, ∀ l : Fin 2, gQi 2 k.val l.val = true := by decide +kernel
theorem qk_3 : ∀ k : Fin 6, gQk 3 k.val = true := by decide +kernel
theorem qa_3 : ∀ k : Fin 6, ∀ a : Fin 4, gQa 3 k.val a.val = true := by decide +kernel
theorem ql_3 : ∀ a : Fin 4, gQl 3 a.val = true := by decide +kernel
theorem qj_3 : ∀ k : Fin 6, ∀ j : Fin 5, gQj 3 k.val j.val = true := by decide +kernel
theorem qi_3 : ∀ k : Fin 6, ∀ l : Fin 6, gQi 3 k.val l.val = true := by decide +kernel
theorem qk_4 : ∀ k : Fin 24, gQk 4 k.val = true := by decide +kernel
theorem qa_4 : ∀ k : Fin 24, ∀ a : Fin 4, gQa 4 k.val a.val = true := by decide +kernel
theorem ql_4 : ∀ a : Fin 4, gQl 4 a.val = true := by decide +kernel
theorem qj_4 : ∀ k : Fin 24, ∀ j : Fin 5, gQj 4 k.val j.val = true := by decide +kernel
theorem qi_4 : ∀ k : Fin 24, ∀ l : Fin 24, gQi 4 k.val l.val = true := by decide +kernel
theorem qk_5 : ∀ k : Fin 120, gQk 5 k.val = true := by decide +kernel
theorem qa_5 : ∀ k : Fin 120, ∀ a : Fin 4, gQa 5 k.val a.val = true := by decide +kernel
theorem ql_5 : ∀ a : Fin 4, gQl 5 a.val = true := by decide +kernel
theorem qj_5 : ∀ k : Fin 120, ∀ j : Fin 5, gQj 5 k.val j.val = true := by decide +kernel
theorem qi_5 : ∀ k : Fin 120, ∀ l : Fin 120, gQi 5 k.val l.val = true := by decide +kernel
section NF6
variable {n : Nat}
theorem qk_n (h2 : 2 ≤ n) (h5 : n ≤ 5) {k : Nat} (hk : k < gNN n) : gQk n k = true := by
  rcases nn_c h2 h5 with rfl | rfl | rfl | rfl
  · exact qk_2 ⟨k, hk⟩
  · exact qk_3 ⟨k, hk⟩
  · exact qk_4 ⟨k, hk⟩
  · exact qk_5 ⟨k, hk⟩
theorem qa_n (h2 : 2 ≤ n) (h5 : n ≤ 5) {k a : Nat} (hk : k < gNN n) (ha : a < 4) : gQa n k a = true := by
  rcases nn_c h2 h5 with rfl | rfl | rfl | rfl
  · exact qa_2 ⟨k, hk⟩ ⟨a, ha⟩
  · exact qa_3 ⟨k, hk⟩ ⟨a, ha⟩
  · exact qa_4 ⟨k, hk⟩ ⟨a, ha⟩
  · exact qa_5 ⟨k, hk⟩ ⟨a, ha⟩
theorem ql_n (h2 : 2 ≤ n) (h5 : n ≤ 5) {a : Nat} (ha : a < 4) : gQl n a = true := by
  rcases nn_c h2 h5 with rfl | rfl | rfl | rfl
  · exact ql_2 ⟨a, ha⟩
  · exact ql_3 ⟨a, ha⟩
  · exact ql_4 ⟨a, ha⟩
  · exact ql_5 ⟨a, ha⟩
theorem qj_n (h2 : 2 ≤ n) (h5 : n ≤ 5) {k j : Nat} (hk : k < gNN n) (hj : j < 5) : gQj n k j = true := by
  rcases nn_c h2 h5 with rfl | rfl | rfl | rfl
  · exact qj_2 ⟨k, hk⟩ ⟨j, hj⟩
  · exact qj_3 ⟨k, hk⟩ ⟨j, hj⟩
  · exact qj_4 ⟨k, hk⟩ ⟨j, hj⟩
  · exact qj_5 ⟨k, hk⟩ ⟨j, hj⟩
theorem qi_n (h2 : 2 ≤ n) (h5 : n ≤ 5) {k l : Nat} (hk : k < gNN n) (hl : l < gNN n) : gQi n k l = true := by
  rcases nn_c h2 h5 with rfl | rfl | rfl | rfl
  · exact qi_2 ⟨k, hk⟩ ⟨l, hl⟩
  · exact qi_3 ⟨k, hk⟩ ⟨l, hl⟩
  · exact qi_4 ⟨k, hk⟩ ⟨l, hl⟩
  · exact qi_5 ⟨k, hk⟩ ⟨l, hl⟩
theorem d_qk (h2 : 2 ≤ n) (h5 : n ≤ 5) {k : Nat} (hk : k < gNN n) : foV (ivG n k) n = pkG n k ∧ foU (pkG n k) n n = pkG n (ovG n k) ∧ (pkG n k = foE n ↔ k = 0) ∧ (pkG n k = foD n n ↔ k = gNN n - 1) := by
  have := qk_n h2 h5 hk
  unfold gQk at this
  simp only [Bool.and_eq_true, decide_eq_true_eq, beq_iff_eq, decide_eq_decide] at this
  exact ⟨this.1.1.1, this.1.1.2, this.1.2, this.2⟩
theorem d_qa (h2 : 2 ≤ n) (h5 : n ≤ 5) {k a : Nat} (hk : k < gNN n) (ha : a + 1 < n) : (foJ (ivG n k) (nI a) < foJ (ivG n k) (nI a + 1) ↔ moG n k a ≠ 0) ∧ (foJ (pkG n k) (nI a + 1) < foJ (pkG n k) (nI a) ↔ ddG n k (moG n 0 a - 1) = 0) ∧ (moG n k a ≠ 0 → foX (ivG n k) (nI a) = ivG n (moG n k a - 1)) ∧ (ddG n k (moG n 0 a - 1) = 0 → foX (pkG n k) (nI a) = pkG n (ddG n (moG n 0 a - 1) k)) := by
  have := qa_n h2 h5 hk (a := a) (by omega)
  unfold gQa at this
  rw [decide_eq_true ha] at this
  simp only [Bool.not_true, Bool.false_or, Bool.and_eq_true, Bool.or_eq_true, decide_eq_true_eq, beq_iff_eq, decide_eq_decide] at this
  obtain ⟨⟨⟨a1, a2⟩, a3⟩, a4⟩ := this
  exact ⟨a1, a2, fun h => a3.resolve_left h, fun h => a4.resolve_left (fun h9 => h9 h)⟩
theorem d_ql (h2 : 2 ≤ n) (h5 : n ≤ 5) {a : Nat} (ha : a + 1 < n) : foX (foE n) (nI a) = pkG n (moG n 0 a - 1) ∧ foV (foX (foV (foD n n) n) (nI a)) n = pkG n (ahG n (moG n 0 a - 1)) ∧ ovG n (moG n 0 a - 1) = moG n 0 (n - 2 - a) - 1 := by
  have := ql_n h2 h5 (a := a) (by omega)
  unfold gQl at this
  rw [decide_eq_true ha] at this
  simp only [Bool.not_true, Bool.false_or, Bool.and_eq_true, decide_eq_true_eq] at this
  exact ⟨this.1.1, this.1.2, this.2⟩
theorem d_qj (h2 : 2 ≤ n) (h5 : n ≤ 5) {k j : Nat} (hk : k < gNN n) (hj : j < n) : foJ (pkG n k) (nI j) = nI (enG n k j) := by
  have := qj_n h2 h5 hk (j := j) (by omega)
  unfold gQj at this
  rw [decide_eq_true hj] at this
  simp only [Bool.not_true, Bool.false_or, decide_eq_true_eq] at this
  exact this
theorem d_qi (h2 : 2 ≤ n) (h5 : n ≤ 5) {k l : Nat} (hk : k < gNN n) (hl : l < gNN n) (e : pkG n k = pkG n l) : k = l := by
  have := qi_n h2 h5 hk hl
  unfold gQi at this
  simp only [beq_iff_eq, decide_eq_decide] at this
  exact this.mp e
end NF6
end
section
/-! 99zzzzzzzzzzzzzy.xnf5 -/
/-! normal forms: the class, one letter after another -/
section NF7
variable {n : Nat} {a b : Int32}
theorem foM_n : ∀ (d i : Nat), foM n a b d i = none → ∀ j, i ≤ j → j < i + d → ¬ (foJ b (nI j + 1) < foJ b (nI j) ∧ foJ a (nI j) < foJ a (nI j + 1))
  | 0, i, _, j, h1, h3 => by omega
  | d + 1, i, e, j, h1, h3 => by
    rw [foM] at e
    by_cases c : foJ b (nI i + 1) < foJ b (nI i) ∧ foJ a (nI i) < foJ a (nI i + 1)
    · rw [if_pos c] at e
      cases e
    · rw [if_neg c] at e
      by_cases c2 : j = i
      · rw [c2]
        exact c
      · exact foM_n d (i + 1) e j (by omega) (by omega)
theorem foM_s : ∀ (d i x : Nat), foM n a b d i = some x → i ≤ x ∧ x < i + d ∧ foJ b (nI x + 1) < foJ b (nI x) ∧ foJ a (nI x) < foJ a (nI x + 1)
  | 0, i, x, e => by cases e
  | d + 1, i, x, e => by
    rw [foM] at e
    by_cases c : foJ b (nI i + 1) < foJ b (nI i) ∧ foJ a (nI i) < foJ a (nI i + 1)
    · rw [if_pos c] at e
      cases e
      exact ⟨Nat.le_refl _, by omega, c⟩
    · rw [if_neg c] at e
      obtain ⟨k1, k2, k3⟩ := foM_s d (i + 1) x e
      exact ⟨by omega, by omega, k3⟩
theorem oNI_0 {o : Option Nat} (ho : ∀ x, o = some x → x < 2 ^ 31) (e : oNI o = -1) : o = none := by
  cases o with
  | none => rfl
  | some x => exact absurd e (oM_n (ho x rfl))
theorem lw_M (h2 : 2 ≤ n) (h5 : n ≤ 5) {p q : Nat} (hp : p < gNN n) (hq : q < gNN n) (e : foM n (ivG n p) (pkG n q) (n - 1) 0 = none) : lwG n p q := fun c hc m1 d1 => foM_n _ _ e c (Nat.zero_le _) (by omega) ⟨(d_qa h2 h5 hq hc).2.1.mpr d1, (d_qa h2 h5 hp hc).1.mpr m1⟩
theorem lw_r0 (h2 : 2 ≤ n) (h5 : n ≤ 5) {p : Nat} : lwG n p 0 := fun c hc _ d1 => by
  rw [dd_0l h2 h5 (lett h2 h5 hc)] at d1
  exact let_ne h2 h5 hc d1
theorem sz_let (h2 : 2 ≤ n) (h5 : n ≤ 5) {c : Nat} (hc : c + 1 < n) : szG n (moG n 0 c - 1) = 1 := by
  have h1 := ((f_two h2 h5 nn_0 hc).2.2.2 (f_fiv h2 h5 hc).1).1
  rw [sz_0 h2 h5] at h1
  exact h1
/-- under the delta -/
theorem lw_ov (h2 : 2 ≤ n) (h5 : n ≤ 5) {g g' : Nat} (hg : g < gNN n) (hg' : g' < gNN n) (h : lwG n g g') : lwG n (ovG n g) (ovG n g') := by
  intro c hc m1 d1
  have hc' : n - 2 - c + 1 < n := by omega
  have hl := lett h2 h5 hc
  have hl' := lett h2 h5 hc'
  have e : moG n 0 c - 1 = ovG n (moG n 0 (n - 2 - c) - 1) := by
    rw [(d_ql h2 h5 hc').2.2, show n - 2 - (n - 2 - c) = c by omega]
  have o0 : ovG n 0 = 0 := by
    have := (f_one h2 h5 (nn_0 (n := n))).2.2.2.1
    rw [sz_0 h2 h5] at this
    exact sz_z h2 h5 (ov_lt h2 h5 nn_0) this
  have inj : ∀ v, v < gNN n → ovG n v = 0 → v = 0 := fun v hv e0 => by
    have k := (d_pk h2 h5 hv).2.2.1
    rw [e0, o0] at k
    exact k.symm
  have oD : ovG n (gNN n - 1) = gNN n - 1 := by
    have hD := dl_lt (n := n)
    refine dv_as h2 h5 (ov_lt h2 h5 hD) hD (d_pk h2 h5 (ov_lt h2 h5 hD)).2.2.2.2 ?_
    have k := (d_pb h2 h5 hD (ov_lt h2 h5 hD)).2.2
    rw [(d_pk h2 h5 hD).2.2.1, (d_pk h2 h5 (ov_lt h2 h5 hD)).2.2.2.2, o0] at k
    exact k
  rw [e, (d_pb h2 h5 hg' hl').2.2] at d1
  have d2 := inj _ (dd_lt h2 h5 hg' hl') d1
  refine h _ hc' ?_ d2
  rw [← mu_let h2 h5 hc] at m1
  rw [← mu_let h2 h5 hc']
  refine (d_pb h2 h5 hg hl').1.mpr ?_
  have k := (d_pb h2 h5 (ov_lt h2 h5 hg) hl).1.mp m1
  have hD := dl_lt (n := n)
  rw [e, ← oD, (d_pb h2 h5 hg hD).2.2, (d_pb h2 h5 (dd_lt h2 h5 hg hD) hl').2.2] at k
  exact inj _ (dd_lt h2 h5 (dd_lt h2 h5 hg hD) hl') k
theorem ovz_0 (h2 : 2 ≤ n) (h5 : n ≤ 5) : ovG n 0 = 0 := by
  have := (f_one h2 h5 (nn_0 (n := n))).2.2.2.1
  rw [sz_0 h2 h5] at this
  exact sz_z h2 h5 (ov_lt h2 h5 nn_0) this
theorem ov_D (h2 : 2 ≤ n) (h5 : n ≤ 5) : ovG n (gNN n - 1) = gNN n - 1 := by
  have hD := dl_lt (n := n)
  refine dv_as h2 h5 (ov_lt h2 h5 hD) hD (d_pk h2 h5 (ov_lt h2 h5 hD)).2.2.2.2 ?_
  have k := (d_pb h2 h5 hD (ov_lt h2 h5 hD)).2.2
  rw [(d_pk h2 h5 hD).2.2.1, (d_pk h2 h5 (ov_lt h2 h5 hD)).2.2.2.2, ovz_0 h2 h5] at k
  exact k
theorem nf_ov (h2 : 2 ≤ n) (h5 : n ≤ 5) {F : List Nat} (h : nfL n F) : nfL n (F.map (ovG n)) := by
  obtain ⟨h1, h3, h4⟩ := h
  refine ⟨okT_ov h2 h5 h1, fun i g g' k1 k2 => ?_, fun g hg => ?_⟩
  · rw [List.getElem?_map] at k1 k2
    cases e1 : F[i]? with
    | none =>
      rw [e1] at k1
      cases k1
    | some u =>
      cases e2 : F[i + 1]? with
      | none =>
        rw [e2] at k2
        cases k2
      | some u' =>
        rw [e1] at k1
        rw [e2] at k2
        cases k1
        cases k2
        exact lw_ov h2 h5 (h1 u (List.mem_of_getElem? e1)) (h1 u' (List.mem_of_getElem? e2)) (h3 i u u' e1 e2)
  · obtain ⟨s, hs, e⟩ := List.mem_map.mp hg
    obtain ⟨s1, s2⟩ := h4 s hs
    have k := (d_pk h2 h5 (h1 s hs)).2.2.1
    refine ⟨fun e0 => s1 ?_, fun e0 => s2 ?_⟩
    · rw [e, e0, ovz_0 h2 h5] at k
      exact k.symm
    · rw [e, e0, ov_D h2 h5] at k
      exact k.symm
theorem eqT_pre (h2 : 2 ≤ n) (h5 : n ≤ 5) : ∀ (V P X Y : List Nat), okT n V → okT n P → eqT n X Y → rsG n V (P ++ X) = rsG n V (P ++ Y)
  | [], _, _, _, _, _, _ => rfl
  | v :: V, P, X, Y, hV, hP, h => by
    obtain ⟨hv, hV⟩ := okT_c.mp hV
    obtain ⟨p1, p2, -⟩ := r1_ok h2 h5 P hv hP
    obtain ⟨e1, e2⟩ := eqT_1 h p1
    show (r1G n v (P ++ X)).1 :: rsG n V (r1G n v (P ++ X)).2 = (r1G n v (P ++ Y)).1 :: rsG n V (r1G n v (P ++ Y)).2
    rw [r1_app, r1_app]
    show (r1G n (r1G n v P).1 X).1 :: rsG n V ((r1G n v P).2 ++ (r1G n (r1G n v P).1 X).2) = (r1G n (r1G n v P).1 Y).1 :: rsG n V ((r1G n v P).2 ++ (r1G n (r1G n v P).1 Y).2)
    rw [e1, eqT_pre h2 h5 V _ _ _ hV p2 e2]
end NF7
section NF8
variable {vl : Nat → Nat} {y : ow_MS} {h n : Nat} {κ : Int32} {L : List Nat}
theorem fo_rd {i p : Nat} (h0 : foA y h n κ (L.map (pkG n))) (e : L[i]? = some p) : y.2.1 (h + 4) i = pkG n p := by
  refine h0.2.2.2.2.1 i _ ?_
  rw [List.getElem?_map, e]
  rfl
theorem fo_len (h0 : foA y h n κ (L.map (pkG n))) : y.1 (h + 3) = nI L.length ∧ L.length ≤ 24 := by
  obtain ⟨a1, a2, a3, a4, a5, a6, a7⟩ := h0
  rw [List.length_map] at a3 a4
  exact ⟨a3, a4⟩
theorem fo_set {i p : Nat} (h0 : foA y h n κ (L.map (pkG n))) : foA (usI y (h + 4) i (pkG n p)) h n κ ((L.set i p).map (pkG n)) := by
  obtain ⟨a1, a2, a3, a4, a5, a6, a7⟩ := h0
  refine ⟨a1, a2, ?_, ?_, fun j c e => ?_, a6, a7⟩
  · rw [List.length_map, List.length_set]
    rw [List.length_map] at a3
    exact a3
  · rw [List.length_map, List.length_set]
    rw [List.length_map] at a4
    exact a4
  · rw [List.map_set] at e
    by_cases c1 : j = i
    · subst c1
      have l := (List.getElem?_eq_some_iff.mp e).1
      rw [List.length_set] at l
      rw [List.getElem?_set_self l] at e
      rw [po_usI_at]
      exact Option.some.inj e
    · rw [List.getElem?_set_ne (Ne.symm c1)] at e
      rw [po_usI_ne c1]
      exact a5 j c e
theorem xc_weigh {i p q : Nat} (hh : fO h) (h2 : 2 ≤ n) (h5 : n ≤ 5) (hL : okT n L) (h0 : foA y h n κ (L.map (pkG n))) (ea : L[i]? = some p) (eb : L[i + 1]? = some q) : Te (fun K => ce_X5_weigh vl K h (nI i) y) (fun r => (r.1 = 0 ∧ r.2 = y ∧ lwG n p q) ∨ (r.1 = 1 ∧ fr (foP h) y r.2 ∧ ∃ x p' q', x < gNN n ∧ q' < gNN n ∧ muG n p x = p' + 1 ∧ muG n x q' = q + 1 ∧ lwG n p' q' ∧ foA r.2 h n κ (((L.set i p').set (i + 1) q').map (pkG n)))) := by
  let Q : Int32 × ow_MS → Prop := fun r => (r.1 = 0 ∧ r.2 = y ∧ lwG n p q) ∨ (r.1 = 1 ∧ fr (foP h) y r.2 ∧ ∃ x p' q', x < gNN n ∧ q' < gNN n ∧ muG n p x = p' + 1 ∧ muG n x q' = q + 1 ∧ lwG n p' q' ∧ foA r.2 h n κ (((L.set i p').set (i + 1) q').map (pkG n)))
  have hp := hL p (List.mem_of_getElem? ea)
  have hq := hL q (List.mem_of_getElem? eb)
  have hi := (List.getElem?_eq_some_iff.mp eb).1
  have hl24 := (fo_len h0).2
  have h1 : y.1 (h + 1) = nI n := h0.1
  have c2 : ∀ (x p' q' : Nat) (c d : Int32), x < gNN n → q' < gNN n → muG n p x = p' + 1 → muG n x q' = q + 1 → lwG n p' q' → Tt (fun K t => c_X5_weigh vl K t 2 (nI i) (ivG n p') (pkG n q') c d h y) Q := by
    intro x p' q' c d k1 k2 k3 k4 k5
    have hp' := (mu_lt h2 h5 hp k3).1
    refine u_X5_weigh_2 ?_; unfold cm_X5_weigh_2
    rw [nI_1]
    refine w_rdF h1 (w_cs1 (tc_invert h5) ?_)
    rintro v z ⟨e1, e2⟩
    dsimp only at e1 e2
    rw [e1, e2, (d_qk h2 h5 hp').1]
    exact w_ctI (fO_4 hh) rfl (show i < 24 by omega) (w_ctI (fO_4 hh) rfl (show i + 1 < 24 by omega) (w_okZ (Or.inr rfl) (w_some (Or.inr ⟨rfl, fr_I2 (fr_I (by unfold foP; omega)) (by unfold foP; omega), x, p', q', k1, k2, k3, k4, k5, fo_set (fo_set h0)⟩))))
  have c1 : ∀ (k j x p' q' : Nat), j + k = 10 → x < gNN n → q' < gNN n → muG n p x = p' + 1 → muG n x q' = q + 1 → szG n q' + j ≤ 10 → Tt (fun K t => c_X5_weigh vl K t 1 (nI i) (ivG n p') (pkG n q') (oNI (foM n (ivG n p') (pkG n q') (n - 1) 0)) (nI j) h y) Q := by
    intro k
    induction k with
    | zero =>
      intro j x p' q' hj k1 k2 k3 k4 k5
      have hq0 : q' = 0 := sz_z h2 h5 k2 (by omega)
      refine u_X5_weigh_1 ?_; unfold cm_X5_weigh_1
      refine w_leT (a := 10) (by omega) (by omega) (c2 x p' q' _ _ k1 k2 k3 k4 ?_)
      rw [hq0]
      exact lw_r0 h2 h5
    | succ k ih =>
      intro j x p' q' hj k1 k2 k3 k4 k5
      have hp' := (mu_lt h2 h5 hp k3).1
      refine u_X5_weigh_1 ?_; unfold cm_X5_weigh_1
      refine w_leF (a := 10) (by omega) (by omega) (w_if (fun e => c2 x p' q' _ _ k1 k2 k3 k4 (lw_M h2 h5 hp' k2 (oNI_0 (fun u hu => by have := foM_s _ _ _ hu; omega) e))) (fun e => ?_))
      cases eM : foM n (ivG n p') (pkG n q') (n - 1) 0 with
      | none =>
        rw [eM] at e
        exact absurd rfl e
      | some u =>
        obtain ⟨-, u1, u2, u3⟩ := foM_s _ _ _ eM
        have hu : u + 1 < n := by omega
        have m1 := (d_qa h2 h5 hp' hu).1.mp u3
        have d1 := (d_qa h2 h5 k2 hu).2.1.mp u2
        have hl := lett h2 h5 hu
        have x1 := (d_qa h2 h5 hp' hu).2.2.1 m1
        have x2 := (d_qa h2 h5 k2 hu).2.2.2 d1
        have m2 : muG n p' (moG n 0 u - 1) = (moG n p' u - 1) + 1 := by
          rw [mu_let h2 h5 hu]
          omega
        obtain ⟨r, r1, r2, r3⟩ := as1 h2 h5 hp k1 hl k3 m2
        have e2 := dd_mu h2 h5 hl k2 d1
        have hq2 := dd_lt h2 h5 hl k2
        have e3 := as2 h2 h5 k1 hl hq2 r2 e2 k4
        have sz := (mu_lt h2 h5 hl e2).2
        rw [sz_let h2 h5 hu] at sz
        refine w_cs1 tc_exchanged ?_
        rintro v z ⟨e5, e6⟩
        dsimp only at e5 e6
        rw [e5, e6]
        refine w_cs1 tc_exchanged ?_
        rintro v2 z2 ⟨e7, e8⟩
        dsimp only at e7 e8
        rw [e7, e8]
        refine w_cs1 (tc_movable h1 (by omega) h5) ?_
        rintro v3 z3 ⟨e9, e10⟩
        dsimp only at e9 e10
        rw [e9, e10, nI_1]
        show Tt (fun K t => c_X5_weigh vl K t 1 (nI i) (foX (ivG n p') (nI u)) (foX (pkG n q') (nI u)) (oNI (foM n (foX (ivG n p') (nI u)) (foX (pkG n q') (nI u)) (n - 1) 0)) (nI (j + 1)) h y) Q
        rw [x1, x2]
        exact ih (j + 1) r _ _ (by omega) r1 hq2 r3 e3 (by omega)
  refine e_X5_weigh ?_
  refine u_X5_weigh_0 ?_; unfold cm_X5_weigh_0
  rw [nI_1]
  refine w_crI (fO_4 hh) rfl (show i < 24 by omega) (fo_rd h0 ea) (w_rdF h1 (w_cs1 (tc_invert h5) ?_))
  rintro v z ⟨e1, e2⟩
  dsimp only at e1 e2
  rw [e1, e2]
  refine w_crI (fO_4 hh) rfl (show i + 1 < 24 by omega) (fo_rd h0 eb) (w_cs1 (tc_movable h1 (by omega) h5) ?_)
  rintro v2 z2 ⟨e3, e4⟩
  dsimp only at e3 e4
  rw [e3, e4]
  refine w_if (fun e => w_okZ (Or.inl rfl) (w_some (Or.inl ⟨rfl, rfl, lw_M h2 h5 hp hq (oNI_0 (fun u hu => by have := foM_s _ _ _ hu; omega) e)⟩))) (fun _ => ?_)
  exact c1 10 0 0 p q (by omega) nn_0 hq (mu_r0 h2 h5) (mu_l0 h2 h5 hq) (by have := (f_one h2 h5 hq).1; omega)
end NF8
end
section
/-! 99zzzzzzzzzzzzzz.xnf6 -/
/-! normal forms: the class, one simple braid behind another -/
section NF9
variable {vl : Nat → Nat} {y : ow_MS} {h n : Nat} {κ : Int32} {L : List Nat}
theorem xc_strip (hh : fO h) (h2 : 2 ≤ n) (h5 : n ≤ 5) (hk : okT n L) (hw : wtL n L) (h0 : foA y h n κ (L.map (pkG n))) : Te (fun K => ce_X5_strip vl K h y) (fun y1 => ∃ d F, foA y1 h n (κ + nI d) (F.map (pkG n)) ∧ nfL n F ∧ F.length ≤ L.length ∧ eqT n L (List.replicate d (gNN n - 1) ++ F) ∧ fr (foP h) y y1) := by
  let Q : ow_MS → Prop := fun y1 => ∃ d F, foA y1 h n (κ + nI d) (F.map (pkG n)) ∧ nfL n F ∧ F.length ≤ L.length ∧ eqT n L (List.replicate d (gNN n - 1) ++ F) ∧ fr (foP h) y y1
  obtain ⟨hl3, hl24⟩ := fo_len h0
  have len : ∀ d e, d + e ≤ L.length → ((L.drop d).take e).length = e := fun d e hde => by
    rw [List.length_take, List.length_drop]
    omega
  have c3 : ∀ (d e : Nat) (z : ow_MS) (x : Int32), d + e ≤ L.length → (∀ i g, i < d → L[i]? = some g → g = gNN n - 1) → (d < L.length → ∀ g, L[d]? = some g → g ≠ gNN n - 1) → (∀ i g, d + e ≤ i → L[i]? = some g → g = 0) → foA z h n (κ + nI d) (((L.drop d).take e).map (pkG n)) → fr (foP h) y z → Tt (fun K t => c_X5_strip vl K t 3 x h z) Q := by
    intro d e
    induction e with
    | zero =>
      intro z x hde k1 k3 k4 hz hf
      obtain ⟨z3, -⟩ := fo_len hz
      rw [len d 0 hde] at z3
      obtain ⟨n1, n2⟩ := nf_strip h2 h5 hk hw hde k1 k3 k4 (fun h9 => absurd h9 (Nat.lt_irrefl _))
      refine u_X5_strip_3 ?_; unfold cm_X5_strip_3
      exact w_rdF z3 (w_leT (b := 0) (by omega) (by omega) (w_some ⟨d, _, hz, n1, by rw [len d 0 hde]; omega, n2, hf⟩))
    | succ m ih =>
      intro z x hde k1 k3 k4 hz hf
      obtain ⟨z3, -⟩ := fo_len hz
      rw [len d (m + 1) hde] at z3
      have lm : d + m < L.length := by omega
      have hg : L[d + m]? = some L[d + m] := List.getElem?_eq_getElem lm
      have hg2 : ((L.drop d).take (m + 1))[m]? = some L[d + m] := by
        rw [List.getElem?_take_of_lt (by omega), List.getElem?_drop]
        exact hg
      have hgk := hk _ (List.mem_of_getElem? hg)
      refine u_X5_strip_3 ?_; unfold cm_X5_strip_3
      refine w_rdF z3 (w_leF (b := 0) (by omega) (by omega) (w_rdF z3 ?_))
      rw [show nI (m + 1) - 1 = nI m from pk_sub (b := 1) (by omega)]
      refine w_crI (fO_4 hh) rfl (show m < 24 by omega) (fo_rd hz hg2) (w_rdF hz.2.2.2.2.2.1 (w_if (fun e => w_rdF z3 (w_wrF ?_)) (fun e => ?_)))
      · have g0 := (d_qk h2 h5 hgk).2.2.1.mp e
        rw [show nI (m + 1) - 1 = nI m from pk_sub (b := 1) (by omega)]
        refine ih _ x (by omega) k1 k3 (fun i g hi hgi => ?_) ?_ (fr_F2 hf (by unfold foP; omega))
        · by_cases c : i = d + m
          · rw [c, hg] at hgi
            rw [← Option.some.inj hgi]
            exact g0
          · exact k4 i g (by omega) hgi
        · obtain ⟨a1, a2, a3, a4, a5, a6, a7⟩ := hz
          refine ⟨rf_ot (by omega) a1, rf_ot (by omega) a2, ?_, ?_, fun i c ei => a5 i c ?_, rf_ot (by omega) a6, rf_ot (by omega) a7⟩
          · rw [List.length_map, len d m (by omega)]
            exact po_usF_at
          · rw [List.length_map, len d m (by omega)]
            omega
          · have l := (List.getElem?_eq_some_iff.mp ei).1
            rw [List.length_map, len d m (by omega)] at l
            rw [List.getElem?_map, List.getElem?_take_of_lt (by omega)] at ei ⊢
            exact ei
      · have g0 : L[d + m] ≠ 0 := fun e0 => e ((d_qk h2 h5 hgk).2.2.1.mpr e0)
        obtain ⟨n1, n2⟩ := nf_strip h2 h5 hk hw hde k1 k3 k4 (fun _ g hgi => by
          rw [show d + (m + 1) - 1 = d + m by omega, hg] at hgi
          rw [← Option.some.inj hgi]
          exact g0)
        exact w_some ⟨d, _, hz, n1, by rw [len d _ hde]; omega, n2, hf⟩
  have c2 : ∀ j, j ≤ L.length → (∀ i g, i < j → L[i]? = some g → g = gNN n - 1) → (j < L.length → ∀ g, L[j]? = some g → g ≠ gNN n - 1) → Tt (fun K t => c_X5_strip vl K t 2 (nI j) h y) Q := by
    intro j hj k1 k3
    refine u_X5_strip_2 ?_; unfold cm_X5_strip_2
    have e3 : ∀ w : Int32, (usF y (h + 2) w).1 (h + 3) = nI L.length := fun w => rf_ot (by omega) hl3
    refine w_rdF h0.2.1 (w_wrF (w_rdF (e3 _) (w_wrF ?_)))
    rw [show nI L.length - nI j = nI (L.length - j) from pk_sub hj]
    refine w_rdF po_usF_at (w_cpI (a := j) (b := 0) (n := L.length - j) (fO_4 hh) (fO_4 hh) rfl rfl rfl (by omega) (by omega) ?_)
    refine c3 j (L.length - j) _ _ (by omega) k1 k3 (fun i g hi hgi => ?_) ?_ (fr_R2 (fr_F2 (fr_F (by unfold foP; omega)) (by unfold foP; omega)) (by unfold foP; omega))
    · have := (List.getElem?_eq_some_iff.mp hgi).1
      omega
    · obtain ⟨a1, a2, a3, a4, a5, a6, a7⟩ := h0
      refine ⟨rf_ot (by omega) (rf_ot (by omega) a1), rf_ot (by omega) po_usF_at, ?_, ?_, fun i c ei => ?_, rf_ot (by omega) (rf_ot (by omega) a6), rf_ot (by omega) (rf_ot (by omega) a7)⟩
      · rw [List.length_map, len j _ (by omega)]
        exact po_usF_at
      · rw [List.length_map, len j _ (by omega)]
        omega
      · have l := (List.getElem?_eq_some_iff.mp ei).1
        rw [List.length_map, len j _ (by omega)] at l
        rw [List.getElem?_map, List.getElem?_take_of_lt (by omega), List.getElem?_drop] at ei
        rw [usR_at, pk_cpy_in (by omega) (by omega), Nat.sub_zero]
        refine a5 (j + i) c ?_
        rw [List.getElem?_map]
        exact ei
  have c1 : ∀ (d j : Nat), j + d = L.length → (∀ i g, i < j → L[i]? = some g → g = gNN n - 1) → Tt (fun K t => c_X5_strip vl K t 1 (nI j) h y) Q := by
    intro d
    induction d with
    | zero =>
      intro j hj k1
      refine u_X5_strip_1 ?_; unfold cm_X5_strip_1
      exact w_rdF hl3 (w_leT (by omega) (by omega) (c2 j (by omega) k1 (fun h9 => by omega)))
    | succ d ih =>
      intro j hj k1
      have lm : j < L.length := by omega
      have hg : L[j]? = some L[j] := List.getElem?_eq_getElem lm
      have hgk := hk _ (List.mem_of_getElem? hg)
      refine u_X5_strip_1 ?_; unfold cm_X5_strip_1
      rw [nI_1]
      refine w_rdF hl3 (w_leF (by omega) (by omega) (w_crI (fO_4 hh) rfl (show j < 24 by omega) (fo_rd h0 hg) (w_rdF h0.2.2.2.2.2.2 (w_if (fun e => ih (j + 1) (by omega) (fun i g hi hgi => ?_)) (fun e => c2 j (by omega) k1 (fun _ g hgi e9 => ?_))))))
      · by_cases c : i = j
        · rw [c, hg] at hgi
          rw [← Option.some.inj hgi]
          exact (d_qk h2 h5 hgk).2.2.2.mp e
        · exact k1 i g (by omega) hgi
      · rw [hg] at hgi
        refine e ((d_qk h2 h5 hgk).2.2.2.mpr ?_)
        rw [Option.some.inj hgi]
        exact e9
  refine e_X5_strip ?_
  refine u_X5_strip_0 ?_; unfold cm_X5_strip_0
  exact c1 L.length 0 (by omega) (fun i g hi => absurd hi (Nat.not_lt_zero _))
theorem xc_putBehindF {F : List Nat} {b : Nat} (hh : fO h) (h2 : 2 ≤ n) (h5 : n ≤ 5) (hF : nfL n F) (hb : b < gNN n) (hl : F.length < 24) (h0 : foA y h n κ (F.map (pkG n))) : Te (fun K => ce_X5_putBehind vl K h (pkG n b) y) (fun y1 => ∃ d F', foA y1 h n (κ + nI d) (F'.map (pkG n)) ∧ nfL n F' ∧ F'.length ≤ F.length + 1 ∧ eqT n (F ++ [b]) (List.replicate d (gNN n - 1) ++ F') ∧ fr (foP h) y y1) := by
  let Q : ow_MS → Prop := fun y1 => ∃ d F', foA y1 h n (κ + nI d) (F'.map (pkG n)) ∧ nfL n F' ∧ F'.length ≤ F.length + 1 ∧ eqT n (F ++ [b]) (List.replicate d (gNN n - 1) ++ F') ∧ fr (foP h) y y1
  obtain ⟨h3, -⟩ := fo_len h0
  have c2 : ∀ (z : ow_MS) (a c : Int32) (L : List Nat), okT n L → wtL n L → L.length = F.length + 1 → eqT n (F ++ [b]) L → foA z h n κ (L.map (pkG n)) → fr (foP h) y z → Tt (fun K t => c_X5_putBehind vl K t 2 (pkG n b) a c h z) Q := by
    intro z a c L q1 q2 q3 q4 q5 q6
    refine u_X5_putBehind_2 ?_; unfold cm_X5_putBehind_2
    refine w_cs0 (xc_strip hh h2 h5 q1 q2 q5) ?_
    rintro z1 ⟨d, F', g1, g2, g3, g4, g5⟩
    exact w_some ⟨d, F', g1, g2, by omega, eqT_tr q4 g4, fr_tr q6 g5⟩
  have c1 : ∀ (m : Nat) (z : ow_MS) (a : Int32) (L : List Nat), m ≤ F.length → okT n L → L.length = F.length + 1 → eqT n (F ++ [b]) L → foA z h n κ (L.map (pkG n)) → fr (foP h) y z → (a = 1 ∧ wzI n F (F ++ [b]) L m ∨ a = 0 ∧ wtL n L) → Tt (fun K t => c_X5_putBehind vl K t 1 (pkG n b) a (iI ((m : Int) - 1)) h z) Q := by
    intro m
    induction m with
    | zero =>
      intro z a L hm q1 q3 q4 q5 q6 q7
      have hw : wtL n L := by
        rcases q7 with ⟨-, q7⟩ | ⟨-, q7⟩
        · exact wz_end hF.2.1 q7
        · exact q7
      refine u_X5_putBehind_1 ?_; unfold cm_X5_putBehind_1
      exact w_ifT (by decide) (c2 z _ _ L q1 hw q3 q4 q5 q6)
    | succ m ih =>
      intro z a L hm q1 q3 q4 q5 q6 q7
      have e : iI (((m + 1 : Nat) : Int) - 1) = nI m := by
        rw [nI_iI]
        congr 1
        omega
      refine u_X5_putBehind_1 ?_; unfold cm_X5_putBehind_1
      rw [e]
      refine w_ifF (nI_pos (by omega)) ?_
      rcases q7 with ⟨rfl, q7⟩ | ⟨rfl, q7⟩
      · have ea : L[m]? = some (L[m]'(by omega)) := List.getElem?_eq_getElem (by omega)
        have eb : L[m + 1]? = some (L[m + 1]'(by omega)) := List.getElem?_eq_getElem (by omega)
        refine w_ifF (by decide) (w_cs1 (xc_weigh hh h2 h5 q1 q5 ea eb) ?_)
        have e2 : nI m + -1 = iI ((m : Int) - 1) := by
          rw [nI_iI, show (-1 : Int32) = iI (-1) from rfl, iI_add]
          rfl
        rintro v z1 (⟨g1, g2, g3⟩ | ⟨g1, g2, x, p', q', x1, x2, x3, x4, x5, x6⟩)
        · dsimp only at g1 g2
          rw [e2, g1, g2]
          exact ih z 0 L (by omega) q1 q3 q4 q5 q6 (Or.inr ⟨rfl, wz_stop hF.2.1 q7 ea eb g3⟩)
        · dsimp only at g1 g2 x6
          rw [e2, g1]
          have st := wz_step h2 h5 hF.1 hF.2.1 q7 ea eb x1 x2 x3 x4 x5
          exact ih z1 1 _ (by omega) st.1 st.2.1 st.2.2.1 x6 (fr_tr q6 g2) (Or.inl ⟨rfl, st⟩)
      · exact w_ifT (by decide) (c2 z _ _ L q1 q7 q3 q4 q5 q6)
  refine e_X5_putBehind ?_
  refine u_X5_putBehind_0 ?_; unfold cm_X5_putBehind_0
  refine w_rdF h3 (w_lt (b := 24) (by omega) (by omega) (fun hl24 => w_rdF h3 (w_ctI (fO_4 hh) rfl hl24 (w_rdF (x := nI F.length) h3 (w_wrF ?_)))) (fun h9 => absurd hl (Nat.not_lt.mpr h9)))
  rw [nI_1]
  refine w_rdF po_usF_at ?_
  rw [show nI (F.length + 1) - 2 = iI ((F.length : Int) - 1) from by
    rw [nI_iI, show (2 : Int32) = iI 2 from rfl, iI_sub]
    congr 1
    omega]
  have st := wz_0 h2 h5 hF.1 hb (eqT_rf (n := n) (F ++ [b]))
  refine c1 F.length _ 1 (F ++ [b]) (Nat.le_refl _) st.1 st.2.1 st.2.2.1 ?_ (fr_F2 (fr_I (by unfold foP; omega)) (by unfold foP; omega)) (Or.inl ⟨rfl, st⟩)
  obtain ⟨a1, a2, a3, a4, a5, a6, a7⟩ := h0
  refine ⟨rf_ot (by omega) a1, rf_ot (by omega) a2, ?_, ?_, fun i c ei => ?_, rf_ot (by omega) a6, rf_ot (by omega) a7⟩
  · rw [List.length_map, List.length_append]
    exact po_usF_at
  · rw [List.length_map, List.length_append]
    show F.length + 1 ≤ 24
    omega
  · show (usI y (h + 4) F.length (pkG n b)).2.1 (h + 4) i = c
    rw [List.map_append] at ei
    by_cases c1 : i < F.length
    · rw [List.getElem?_append_left (by rw [List.length_map]; exact c1)] at ei
      rw [po_usI_ne (by omega)]
      exact a5 i c ei
    · have l := (List.getElem?_eq_some_iff.mp ei).1
      rw [List.length_append, List.length_map] at l
      have l : i < F.length + 1 := l
      have e : i = F.length := by omega
      rw [List.getElem?_append_right (by rw [List.length_map]; omega), List.length_map, e, Nat.sub_self] at ei
      rw [e, po_usI_at]
      exact Option.some.inj ei
end NF9
end
section
/-! 99zzzzzzzzzzzzzza.xnf7 -/
/-! normal forms: the class, a braid -/
theorem lx_f {c : Nat} (hc : c < 4) : ¬ (lx9 (c, false) ≤ 0) ∧ (if 0 ≤ lx9 (c, false) then lx9 (c, false) else 0 - lx9 (c, false)) - 1 = nI c := by
  have : ∀ c : Fin 4, ¬ (lx9 (c.val, false) ≤ 0) ∧ (if 0 ≤ lx9 (c.val, false) then lx9 (c.val, false) else 0 - lx9 (c.val, false)) - 1 = nI c.val := by decide +kernel
  exact this ⟨c, hc⟩
theorem lx_t {c : Nat} (hc : c < 4) : lx9 (c, true) ≤ 0 ∧ (if 0 ≤ lx9 (c, true) then lx9 (c, true) else 0 - lx9 (c, true)) - 1 = nI c := by
  have : ∀ c : Fin 4, lx9 (c.val, true) ≤ 0 ∧ (if 0 ≤ lx9 (c.val, true) then lx9 (c.val, true) else 0 - lx9 (c.val, true)) - 1 = nI c.val := by decide +kernel
  exact this ⟨c, hc⟩
section NF10
variable {vl : Nat → Nat} {y : ow_MS} {h n : Nat}
theorem st_ok (h2 : 2 ≤ n) (h5 : n ≤ 5) {p : Nat × Bool} {T : List Nat × Int} (hp : p.1 + 1 < n) (hT : okT n T.1) : okT n (stB9 n p T).1 := by
  unfold stB9
  split
  · exact okT_a.mpr ⟨okT_ov h2 h5 hT, okT_c.mpr ⟨(f_one h2 h5 (lett h2 h5 hp)).2.1, okT_n⟩⟩
  · exact okT_a.mpr ⟨hT, okT_c.mpr ⟨lett h2 h5 hp, okT_n⟩⟩
theorem fo_ok (h2 : 2 ≤ n) (h5 : n ≤ 5) {w : Nat → Nat × Bool} : ∀ (i : Nat), (∀ j, j < i → (w j).1 + 1 < n) → okT n (foT n w i).1
  | 0, _ => okT_n
  | i + 1, hw => st_ok h2 h5 (hw i (Nat.lt_succ_self _)) (fo_ok h2 h5 i (fun j hj => hw j (by omega)))
theorem rp_ok {j : Nat} : okT n (List.replicate j (gNN n - 1)) := fun t ht => by
  rw [(List.mem_replicate.mp ht).2]
  exact dl_lt
/-- one more behind, deltas in front -/
theorem eq_beh (h2 : 2 ≤ n) (h5 : n ≤ 5) {T F F' : List Nat} {j d b : Nat} (hT : okT n T) (hF : okT n F) (hb : b < gNN n) (he : eqT n T (List.replicate j (gNN n - 1) ++ F)) (h1 : eqT n (F ++ [b]) (List.replicate d (gNN n - 1) ++ F')) : eqT n (T ++ [b]) (List.replicate (j + d) (gNN n - 1) ++ F') := by
  refine eqT_tr (eqT_app h2 h5 hb hT (okT_a.mpr ⟨rp_ok, hF⟩) he) ?_
  rw [List.append_assoc, ← List.replicate_append_replicate, List.append_assoc]
  exact fun V hV => eqT_pre h2 h5 V _ _ _ hV rp_ok h1
theorem xc_takeLetter {p : Nat × Bool} {T : List Nat × Int} {F : List Nat} {j : Nat} (hh : fO h) (h2 : 2 ≤ n) (h5 : n ≤ 5) (hp : p.1 + 1 < n) (hT : okT n T.1) (hF : nfL n F) (hl : F.length < 24) (he : eqT n T.1 (List.replicate j (gNN n - 1) ++ F)) (h0 : foA y h n (iI (T.2 + j)) (F.map (pkG n))) : Te (fun K => ce_X5_takeLetter vl K h (lx9 p) y) (fun y1 => ∃ F' j', foA y1 h n (iI ((stB9 n p T).2 + (j' : Nat))) (F'.map (pkG n)) ∧ nfL n F' ∧ F'.length ≤ F.length + 1 ∧ eqT n (stB9 n p T).1 (List.replicate j' (gNN n - 1) ++ F') ∧ fr (foP h) y y1) := by
  let Q : ow_MS → Prop := fun y1 => ∃ F' j', foA y1 h n (iI ((stB9 n p T).2 + (j' : Nat))) (F'.map (pkG n)) ∧ nfL n F' ∧ F'.length ≤ F.length + 1 ∧ eqT n (stB9 n p T).1 (List.replicate j' (gNN n - 1) ++ F') ∧ fr (foP h) y y1
  obtain ⟨h3, hl24⟩ := fo_len h0
  obtain ⟨c, sg⟩ := p
  have hp : c + 1 < n := hp
  have hle := lett h2 h5 hp
  have hah := (f_one h2 h5 hle).2.1
  have hFo := nf_ov h2 h5 hF
  have c1 : ∀ (d i : Nat) (z : ow_MS), sg = true → i + d = F.length → foA z h n (iI (T.2 + j)) (((F.map (ovG n)).take i ++ F.drop i).map (pkG n)) → fr (foP h) y z → Tt (fun K t => c_X5_takeLetter vl K t 1 (lx9 (c, sg)) (nI c) (nI i) h z) Q := by
    intro d
    induction d with
    | zero =>
      intro i z es hi hz hf
      subst es
      have e0 : (F.map (ovG n)).take i ++ F.drop i = F.map (ovG n) := by
        rw [List.drop_of_length_le (by omega), List.append_nil, List.take_of_length_le (by rw [List.length_map]; omega)]
      rw [e0] at hz
      obtain ⟨z3, -⟩ := fo_len hz
      rw [List.length_map] at z3
      refine u_X5_takeLetter_1 ?_; unfold cm_X5_takeLetter_1
      refine w_rdF z3 (w_leT (by omega) (by omega) (w_rdF hz.2.1 (w_wrF ?_)))
      rw [show (1 : Int32) = iI 1 from rfl, iI_sub]
      have hz' : foA (usF z (h + 2) (iI (T.2 + j - 1))) h n (iI (T.2 + j - 1)) ((F.map (ovG n)).map (pkG n)) := by
        obtain ⟨a1, a2, a3, a4, a5, a6, a7⟩ := hz
        exact ⟨rf_ot (by omega) a1, po_usF_at, rf_ot (by omega) a3, a4, a5, rf_ot (by omega) a6, rf_ot (by omega) a7⟩
      refine w_rdF hz'.2.2.2.2.2.2 (w_rdF hz'.1 (w_cs1 (tc_exchangedBehind h5) ?_))
      rintro v z1 ⟨e1, e2⟩
      dsimp only at e1 e2
      rw [e1, e2, (d_ql h2 h5 hp).2.1]
      refine w_cs0 (xc_putBehindF hh h2 h5 hFo hah (by rw [List.length_map]; exact hl) hz') ?_
      rintro z2 ⟨d2, F', g1, g2, g3, g4, g5⟩
      rw [List.length_map] at g3
      refine w_some ⟨F', j + d2, ?_, g2, g3, ?_, fr_tr (fr_F2 hf (by unfold foP; omega)) g5⟩
      · rw [nI_iI, iI_add] at g1
        have : T.2 + (j : Int) - 1 + (d2 : Int) = T.2 - 1 + ((j + d2 : Nat) : Int) := by omega
        rw [this] at g1
        exact g1
      · have k := eqT_ov h2 h5 hT (okT_a.mpr ⟨rp_ok, hF.1⟩) he
        rw [List.map_append, List.map_replicate, ov_D h2 h5] at k
        exact eq_beh h2 h5 (okT_ov h2 h5 hT) hFo.1 hah k g4
    | succ d ih =>
      intro i z es hi hz hf
      subst es
      have li : i < F.length := by omega
      have lt : ((F.map (ovG n)).take i).length = i := by
        rw [List.length_take, List.length_map]
        omega
      have ei : ((F.map (ovG n)).take i ++ F.drop i)[i]? = some F[i] := by
        rw [List.getElem?_append_right (by omega), lt, Nat.sub_self, List.drop_eq_getElem_cons li]
        rfl
      obtain ⟨z3, -⟩ := fo_len hz
      rw [List.length_append, lt, List.length_drop, show i + (F.length - i) = F.length by omega] at z3
      refine u_X5_takeLetter_1 ?_; unfold cm_X5_takeLetter_1
      refine w_rdF z3 (w_leF (by omega) (by omega) (w_crI (fO_4 hh) rfl (show i < 24 by omega) (fo_rd hz ei) (w_rdF hz.1 (w_cs1 (tc_turned h5) ?_))))
      rintro v z1 ⟨e1, e2⟩
      dsimp only at e1 e2
      rw [e1, e2, (d_qk h2 h5 (hF.1 _ (List.getElem_mem li))).2.1]
      refine w_ctI (fO_4 hh) rfl (show i < 24 by omega) ?_
      rw [nI_1]
      refine ih (i + 1) _ rfl (by omega) ?_ (fr_I2 hf (by unfold foP; omega))
      have k := fo_set (i := i) (p := ovG n F[i]) hz
      have e3 : ((F.map (ovG n)).take i ++ F.drop i).set i (ovG n F[i]) = (F.map (ovG n)).take (i + 1) ++ F.drop (i + 1) := by
        rw [List.set_append_right _ _ (by omega), lt, Nat.sub_self, List.drop_eq_getElem_cons li, List.set_cons_zero, List.take_succ, List.getElem?_map, List.getElem?_eq_getElem li, List.append_assoc]
        rfl
      rw [e3] at k
      exact k
  cases sg with
  | false =>
    obtain ⟨x1, x2⟩ := lx_f (c := c) (by omega)
    refine e_X5_takeLetter ?_
    refine u_X5_takeLetter_0 ?_; unfold cm_X5_takeLetter_0
    rw [x2]
    refine w_ifF x1 (w_rdF h0.2.2.2.2.2.1 (w_cs1 tc_exchanged ?_))
    rintro v z1 ⟨e1, e2⟩
    dsimp only at e1 e2
    rw [e1, e2, (d_ql h2 h5 hp).1]
    refine w_cs0 (xc_putBehindF hh h2 h5 hF hle hl h0) ?_
    rintro z2 ⟨d2, F', g1, g2, g3, g4, g5⟩
    refine w_some ⟨F', j + d2, ?_, g2, g3, eq_beh h2 h5 hT hF.1 hle he g4, g5⟩
    rw [nI_iI, iI_add] at g1
    have : T.2 + (j : Int) + (d2 : Int) = T.2 + ((j + d2 : Nat) : Int) := by omega
    rw [this] at g1
    exact g1
  | true =>
    obtain ⟨x1, x2⟩ := lx_t (c := c) (by omega)
    refine e_X5_takeLetter ?_
    refine u_X5_takeLetter_0 ?_; unfold cm_X5_takeLetter_0
    rw [x2]
    exact w_ifT x1 (c1 F.length 0 y rfl (by omega) h0 fr_rf)
theorem xc_writeF {b l : Nat} {w : Nat → Nat × Bool} (hh : fO h) (h2 : 2 ≤ n) (h5 : n ≤ 5) (hb : b < 20) (e15 : y.2.1 15 b = nI n) (hl : l ≤ 16) (e14 : y.2.1 14 b = nI l) (hw : ∀ i, i < l → (w i).1 + 1 < n ∧ y.2.1 13 (16 * b + i) = lx9 (w i)) : Te (fun K => ce_X11_write vl K 0 h (nI b) y) (fun y1 => ∃ F j, foA y1 h n (iI ((foT n w l).2 + (j : Nat))) (F.map (pkG n)) ∧ nfL n F ∧ F.length ≤ l ∧ eqT n (foT n w l).1 (List.replicate j (gNN n - 1) ++ F) ∧ fr (foP h) y y1) := by
  have hh6 : 46000 ≤ h := by
    rcases hh with rfl | rfl | rfl | rfl <;> omega
  let Q : ow_MS → Prop := fun y1 => ∃ F j, foA y1 h n (iI ((foT n w l).2 + (j : Nat))) (F.map (pkG n)) ∧ nfL n F ∧ F.length ≤ l ∧ eqT n (foT n w l).1 (List.replicate j (gNN n - 1) ++ F) ∧ fr (foP h) y y1
  have c1 : ∀ (d i : Nat) (z : ow_MS) (F : List Nat) (j : Nat), i + d = l → foA z h n (iI ((foT n w i).2 + (j : Nat))) (F.map (pkG n)) → nfL n F → F.length ≤ i → eqT n (foT n w i).1 (List.replicate j (gNN n - 1) ++ F) → fr (foP h) y z → Tt (fun K t => c_X11_write vl K t 1 (nI b) (nI i) 0 h z) Q := by
    intro d
    induction d with
    | zero =>
      intro i z F j hi q1 q2 q3 q4 q5
      have e : i = l := by omega
      subst e
      refine u_X11_write_1 ?_; unfold cm_X11_write_1
      exact w_crI ch_14 rfl hb ((congrFun (q5 14 (by unfold foP; omega)).2.1 b).trans e14) (w_leT (by omega) (by omega) (w_some ⟨F, j, q1, q2, q3, q4, q5⟩))
    | succ d ih =>
      intro i z F j hi q1 q2 q3 q4 q5
      obtain ⟨w1, w2⟩ := hw i (by omega)
      refine u_X11_write_1 ?_; unfold cm_X11_write_1
      rw [m16, nI_add]
      refine w_crI ch_14 rfl hb ((congrFun (q5 14 (by unfold foP; omega)).2.1 b).trans e14) (w_leF (by omega) (by omega) (w_crI ch_13 rfl (show 16 * b + i < 320 by omega) ((congrFun (q5 13 (by unfold foP; omega)).2.1 _).trans w2) (w_cs0 (xc_takeLetter hh h2 h5 w1 (fo_ok h2 h5 i (fun k hk => (hw k (by omega)).1)) q2 (by omega) q4 q1) ?_)))
      rintro z1 ⟨F', j', g1, g2, g3, g4, g5⟩
      rw [nI_1]
      exact ih (i + 1) z1 F' j' (by omega) g1 g2 (by omega) g4 (fr_tr q5 g5)
  refine e_X11_write ?_
  refine u_X11_write_0 ?_; unfold cm_X11_write_0
  refine w_crI ch_15 rfl hb e15 (w_cs0 (tc_begin h5) ?_)
  rintro z ⟨g1, g2⟩
  exact c1 l 0 z [] 0 (by omega) g1 ⟨okT_n, fun i g g' k1 _ => (by rw [List.getElem?_nil] at k1; cases k1), fun g hg => absurd hg List.not_mem_nil⟩ (Nat.le_refl _) (eqT_rf _) g2
end NF10
end
section
/-! 99zzzzzzzzzzzzzzb.xnf8 -/
/-! normal answers the same -/
theorem far_nf {g : Nat} (hg : 46001 ≤ g) : ∀ h, nH h → ¬ cP h g := by
  intro h hh h9
  have key : ∀ a, a ∈ nHL → a ≤ 45000 := by decide
  have := key h hh
  unfold cP at h9
  omega
section NFA
variable {X : (Nat → Nat → Int32) → Prop} {P Q : Nat → Prop} {z z1 y y1 : ow_MS} {vl : Nat → Nat} {x x' : Int32}
theorem gM_nf (hf : fr Q y y1) (hQ : ∀ g, Q g → 46001 ≤ g ∧ g < 52000) (h : gM y) : gM y1 := ⟨⟨dgC_fr hf (fun g g1 g2 h9 => by have := hQ g h9; omega) h.1.1, nsC_fr hf (fun h hh g hg h9 => far_nf (g := g) (by have := hQ g h9; omega) h hh hg) h.1.2.1, kdC_fr hf (fun g h9 => by have := hQ g h9; omega) h.1.2.2⟩, tbs_fr hf (fun g h9 => by have := hQ g h9; omega) h.2⟩
theorem rel3_nf (hz : fr P z z1) (hy : fr Q y y1) (h1 : ∀ g, P g → g = 1 ∨ 108 ≤ g) (h2 : ∀ g, Q g → 46001 ≤ g ∧ g < 52000) (hI : gI X z1) (h : rel3 X z y) : rel3 X z1 y1 := by
  obtain ⟨⟨St, k1, k2, k3, k4, k5⟩, hM, t1, t2, t3, ⟨Ms, m1, m2, m3⟩, Ns, n1, n2, n3⟩ := h
  have hM1 := gM_nf hy h2 hM
  have no : ∀ g, 2 ≤ g → g < 108 → ¬ P g := fun g g1 g2 h9 => by
    have := h1 g h9
    omega
  have no2 : ∀ g, g < 46001 → ¬ Q g := fun g g2 h9 => by
    have := h2 g h9
    omega
  exact ⟨⟨St, hI, hM1.1, relR_fr hz (no 12 (by omega) (by omega)) k3, relC_fr hy (fun q hq => no2 q (by unfold cW at hq; omega)) k4, k5⟩, hM1, relT_k hz hy ⟨no _ (by omega) (by omega), no _ (by omega) (by omega)⟩ ⟨no2 _ (by omega), no2 _ (by omega)⟩ t1, relB_k hz hy ⟨no _ (by omega) (by omega), no _ (by omega) (by omega), no _ (by omega) (by omega)⟩ ⟨no2 _ (by omega), no2 _ (by omega), no2 _ (by omega)⟩ t2, brC_fr hy ⟨no2 _ (by omega), no2 _ (by omega), no2 _ (by omega)⟩ t3, ⟨Ms, rlR_k hz ⟨no _ (by omega) (by omega), no _ (by omega) (by omega), no _ (by omega) (by omega)⟩ m1, rlC_k hy (fun q hq => no2 q (by unfold cV at hq; omega)) m2, m3⟩, Ns, rlR_k hz ⟨no _ (by omega) (by omega), no _ (by omega) (by omega), no _ (by omega) (by omega)⟩ n1, rlC_k hy (fun q hq => no2 q (by unfold cV at hq; omega)) n2, n3⟩
theorem pf_nf {L : List Nat} (h : (L.all (fun g => g == 1 || decide (108 ≤ g))) = true) : ∀ g, pf L [] g → g = 1 ∨ 108 ≤ g := by
  rintro g (h1 | h1 | h1)
  · have h2 := List.all_eq_true.mp h g h1
    simp only [Bool.or_eq_true, beq_iff_eq, decide_eq_true_eq] at h2
    exact h2
  · exact absurd h1 List.not_mem_nil
  · omega
/-- a braid of the class, its letters -/
def brW (y : ow_MS) (x : Int32) (b n l : Nat) (w : Nat → Nat × Bool) : Prop := b < 20 ∧ x = nI b ∧ 2 ≤ n ∧ n ≤ 5 ∧ y.2.1 15 b = nI n ∧ l ≤ 16 ∧ y.2.1 14 b = nI l ∧ ∀ i, i < l → (w i).1 + 1 < n ∧ y.2.1 13 (16 * b + i) = lx9 (w i)
theorem wd_w {b n l : Nat} (h : wdB y b n l) : ∃ w : Nat → Nat × Bool, ∀ i, i < l → (w i).1 + 1 < n ∧ y.2.1 13 (16 * b + i) = lx9 (w i) := by
  refine Classical.axiomOfChoice (r := fun i p => i < l → p.1 + 1 < n ∧ y.2.1 13 (16 * b + i) = lx9 p) (fun i => ?_)
  by_cases hi : i < l
  · obtain ⟨a, e, a1, a2⟩ := h i hi
    by_cases h0 : 0 ≤ a
    · refine ⟨(a.natAbs - 1, false), fun _ => ⟨show a.natAbs - 1 + 1 < n by omega, ?_⟩⟩
      rw [e]
      show iI a = nI (a.natAbs - 1 + 1)
      rw [nI_iI]
      congr 1
      omega
    · refine ⟨(a.natAbs - 1, true), fun _ => ⟨show a.natAbs - 1 + 1 < n by omega, ?_⟩⟩
      rw [e]
      show iI a = -1 - nI (a.natAbs - 1)
      rw [nI_iI, show (-1 : Int32) = iI (-1) from rfl, iI_sub]
      congr 1
      omega
  · exact ⟨(0, false), fun h9 => absurd h9 hi⟩
def nvN (x' : Int32) (n l : Nat) (k : Int32) (m : Nat) : Int32 := if x' = 0 then k else if x' = 1 then nI m else if x' = 2 then nI l else nI n
theorem xc_normal (hB : brC y) : Te (fun K => ce_X11_normal vl K 0 x x' y) (fun r => r.1 = 1 ∧ noB (y.2.1 15) x ∨ ∃ b n l w, brW y x b n l w ∧ (r.1 = 2 ∧ (x' < 0 ∨ ¬ x' ≤ 3) ∨ r.1 = 0 ∧ ¬ x' < 0 ∧ x' ≤ 3 ∧ ∃ F j, nfL n F ∧ eqT n (foT n w l).1 (List.replicate j (gNN n - 1) ++ F) ∧ r.2.1 = nvN x' n l (iI ((foT n w l).2 + (j : Nat))) F.length)) := by
  refine e_X11_normal ?_; unfold cm_X11_normal_0
  refine w_tc0 (tc_needBraid (brC_E hB)) ?_ ?_
  · rintro y1 ⟨h1, rfl⟩
    rcases h1 with ⟨-, hb⟩ | h1
    · obtain ⟨b, n, l, hb20, rfl, hn2, hn5, e15, l16, e14, hwd⟩ := isB_w hB hb
      obtain ⟨w, hw⟩ := wd_w hwd
      have hW : brW y1 (nI b) b n l w := ⟨hb20, rfl, hn2, hn5, e15, l16, e14, hw⟩
      refine w_if (fun f0 => w_some (Or.inr ⟨b, n, l, w, hW, Or.inl ⟨rfl, Or.inl f0⟩⟩)) (fun f0 => w_if (fun f3 => w_cs0 (xc_writeF fo46 hn2 hn5 hb20 e15 l16 e14 hw) ?_) (fun f3 => w_some (Or.inr ⟨b, n, l, w, hW, Or.inl ⟨rfl, Or.inr f3⟩⟩)))
      rintro y2 ⟨F, j, g1, g3, g4, g5, g2⟩
      have q14 : y2.2.1 14 b = nI l := (congrFun (g2 14 (by unfold foP; omega)).2.1 b).trans e14
      have q15 : y2.2.1 15 b = nI n := (congrFun (g2 15 (by unfold foP; omega)).2.1 b).trans e15
      have fin : ∀ v, v = nvN x' n l (iI ((foT n w l).2 + (j : Nat))) F.length → Tt (fun _ _ => some ((0 : Nat), v, y2)) (fun r => r.1 = 1 ∧ noB (y1.2.1 15) (nI b) ∨ ∃ b' n l w, brW y1 (nI b) b' n l w ∧ (r.1 = 2 ∧ (x' < 0 ∨ ¬ x' ≤ 3) ∨ r.1 = 0 ∧ ¬ x' < 0 ∧ x' ≤ 3 ∧ ∃ F j, nfL n F ∧ eqT n (foT n w l).1 (List.replicate j (gNN n - 1) ++ F) ∧ r.2.1 = nvN x' n l (iI ((foT n w l).2 + (j : Nat))) F.length)) := fun v hv => w_some (Or.inr ⟨b, n, l, w, hW, Or.inr ⟨rfl, f0, f3, F, j, g3, g5, hv⟩⟩)
      rcases five f0 (Int32.le_trans f3 (by decide)) with h | h | h | h | h | h
      · subst h
        exact w_ifF (by decide) (w_ifT rfl (w_rdF g1.2.1 (fin _ rfl)))
      · subst h
        exact w_ifF (by decide) (w_ifF (by decide) (w_ifT rfl (w_rdF (fo_len g1).1 (fin _ rfl))))
      · subst h
        exact w_ifF (by decide) (w_ifF (by decide) (w_ifF (by decide) (w_ifT rfl (w_crI ch_14 rfl hb20 q14 (fin _ rfl)))))
      · subst h
        exact w_ifT (by decide) (w_crI ch_15 rfl hb20 q15 (fin _ rfl))
      · rw [h] at f3
        exact absurd f3 (by decide)
      · rw [h] at f3
        exact absurd f3 (by decide)
    · exact absurd (show (0 : Nat) = 1 from h1.1) (by decide)
  · rintro a y1 ha ⟨h1, rfl⟩
    rcases h1 with h1 | h1
    · exact absurd h1.1 ha
    · exact w_some (Or.inl ⟨h1.1, h1.2⟩)
theorem xq_normal (h : gI X z) (hG : ∀ W, X W → XG W) : Te (fun K => qe_X13_normal K x x' z) (fun r => (r.2.1 1 = nI 1 ∧ noB (z.2.1 96) x ∨ ∃ b n l, b < 20 ∧ x = nI b ∧ hBr z b n l ∧ (r.2.1 1 = nI 2 ∧ (x' < 0 ∨ ¬ x' ≤ 3) ∨ r.2.1 1 = 0 ∧ ¬ x' < 0 ∧ x' ≤ 3))) := by
  have h1 := gI_1 (c := 0) h
  let Q : Int32 × ow_MS → Prop := fun r => (r.2.1 1 = nI 1 ∧ noB (z.2.1 96) x ∨ ∃ b n l, b < 20 ∧ x = nI b ∧ hBr z b n l ∧ (r.2.1 1 = nI 2 ∧ (x' < 0 ∨ ¬ x' ≤ 3) ∨ r.2.1 1 = 0 ∧ ¬ x' < 0 ∧ x' ≤ 3))
  refine e_X13_normal ?_
  refine u_X13_normal_0 ?_; unfold qm_X13_normal_0
  refine w_wrF (w_hasBX h1.2.2.2.2.2.1 (fun h0 => w_ifT rfl (w_mono (w_failX (k := 1) h1 fr_1) (fun r hr => Or.inl ⟨hr.2.1, h0⟩))) (fun b n l hc hx hh => w_ifF (by decide) ?_))
  have c1 : (x' < 0 ∨ ¬ x' ≤ 3) → Tt (fun K i => q_X13_normal K i 1 x x' (usF z 1 0)) Q := by
    intro hv
    refine u_X13_normal_1 ?_; unfold qm_X13_normal_1
    exact w_mono (w_failX (k := 2) h1 fr_1) (fun r hr => Or.inr ⟨b, n, l, hc, hx, hh, Or.inl ⟨hr.2.1, hv⟩⟩)
  have fin : ∀ (v : Int32) (y : ow_MS), y.1 1 = 0 → ¬ x' < 0 → x' ≤ 3 → Tt (fun _ _ => some (v, y)) Q := fun v y e f0 f3 => w_some (Or.inr ⟨b, n, l, hc, hx, hh, Or.inr ⟨e, f0, f3⟩⟩)
  subst hx
  refine w_if (fun f0 => c1 (Or.inl f0)) (fun f0 => w_if (fun f3 => w_if (fun _ => w_rdI ml95 rfl (by omega) rfl (fin _ _ po_usF_at f0 f3)) (fun _ => w_if (fun _ => w_rdI ml96 rfl (by omega) rfl (fin _ _ po_usF_at f0 f3)) (fun _ => w_cs0 (tp_formOf hc hh (gI_tb hG h1)) (fun y ⟨_, f1⟩ => ?_)))) (fun f3 => c1 (Or.inr f3)))
  have e1 : y.1 1 = 0 := (f1 1 (by unfold nmH; omega)).1.trans po_usF_at
  exact w_if (fun _ => w_rdF rfl (fin _ _ e1 f0 f3)) (fun _ => w_rdF rfl (fin _ _ e1 f0 f3))
theorem xr_normal {b n l : Nat} {w : Nat → Nat × Bool} {F : List Nat} {j : Nat} (h : gI X z) (hG : ∀ W, X W → XG W) (hb : b < 20) (hh : hBr z b n l) (hwd : ∀ i, i < l → (w i).1 + 1 < n ∧ z.2.1 94 (16 * b + i) = lx9 (w i)) (hF : nfL n F) (he : eqT n (foT n w l).1 (List.replicate j (gNN n - 1) ++ F)) (f0 : ¬ x' < 0) (f3 : x' ≤ 3) : Te (fun K => qe_X13_normal K (nI b) x' z) (fun r => r.1 = nvN x' n l (iI ((foT n w l).2 + (j : Nat))) F.length) := by
  have h1 := gI_1 (c := 0) h
  refine e_X13_normal ?_
  refine u_X13_normal_0 ?_; unfold qm_X13_normal_0
  refine w_wrF (w_hasBX h1.2.2.2.2.2.1 (fun h0 => ?_) (fun b' n' l' hc hx hh' => w_ifF (by decide) ?_))
  · exfalso
    have := h0 b hb rfl
    have e96 : (usF z 1 0).2.1 96 b = nI n := hh.2.2.2.1
    rw [e96] at this
    exact nI_ne0 (by have := hh.1; omega) (by have := hh.2.1; omega) this
  · have e95 : (usF z 1 0).2.1 95 b = nI l := hh.2.2.2.2.1
    have e96 : (usF z 1 0).2.1 96 b = nI n := hh.2.2.2.1
    have fo := xr_formOf (z := usF z 1 0) hb hh (gI_tb hG h1) hwd hF he
    rcases five f0 (Int32.le_trans f3 (by decide)) with h | h | h | h | h | h
    · subst h
      exact w_ifF (by decide) (w_ifT (by decide) (w_ifF (by decide) (w_ifF (by decide) (w_cs0 fo (fun y1 ⟨k1, k2⟩ => w_ifT rfl (w_rdF k2 (w_some rfl)))))))
    · subst h
      exact w_ifF (by decide) (w_ifT (by decide) (w_ifF (by decide) (w_ifF (by decide) (w_cs0 fo (fun y1 ⟨k1, k2⟩ => w_ifF (by decide) (w_rdF k1.1.1 (w_some rfl)))))))
    · subst h
      exact w_ifF (by decide) (w_ifT (by decide) (w_ifT rfl (w_rdI ml95 rfl (by omega) e95 (w_some rfl))))
    · subst h
      exact w_ifF (by decide) (w_ifT (by decide) (w_ifF (by decide) (w_ifT rfl (w_rdI ml96 rfl (by omega) e96 (w_some rfl)))))
    · rw [h] at f3
      exact absurd f3 (by decide)
    · rw [h] at f3
      exact absurd f3 (by decide)
theorem c_normal (hG : ∀ W, X W → XG W) (h : rel3 X z y) : Te (fun K => qe_X13_normal K x x' z) (fun rr => Te (fun K => ce_X11_normal vl K 0 x x' y) (fun rc => rel3 X rr.2 rc.2.2 ∧ ansI [(1, 1), (2, 2)] rr rc)) := by
  have hI := r3_g h
  have hB := h.2.2.2.2.1
  have hR := h.2.2.2.1
  have ref := te_all (α := Nat × Nat × Nat × (Nat → Nat × Bool) × List Nat × Nat) (H := fun a => a.1 < 20 ∧ x = nI a.1 ∧ hBr z a.1 a.2.1 a.2.2.1 ∧ (∀ i, i < a.2.2.1 → (a.2.2.2.1 i).1 + 1 < a.2.1 ∧ z.2.1 94 (16 * a.1 + i) = lx9 (a.2.2.2.1 i)) ∧ nfL a.2.1 a.2.2.2.2.1 ∧ eqT a.2.1 (foT a.2.1 a.2.2.2.1 a.2.2.1).1 (List.replicate a.2.2.2.2.2 (gNN a.2.1 - 1) ++ a.2.2.2.2.1) ∧ ¬ x' < 0 ∧ x' ≤ 3) (R := fun a r => r.1 = nvN x' a.2.1 a.2.2.1 (iI ((foT a.2.1 a.2.2.2.1 a.2.2.1).2 + (a.2.2.2.2.2 : Nat))) a.2.2.2.2.1.length) (te_fo (te_and (tp_normal (b := x) (w := x') hG hI) (xq_normal (x := x) (x' := x') hI hG)) (fun K => ff_X13_normal)) (fun a ⟨a1, a2, a3, a4, a5, a6, a7, a8⟩ => by
    rw [a2]
    exact xr_normal hI hG a1 a3 a4 a5 a6 a7 a8)
  refine te_two ref (te_fo (xc_normal (x := x) (x' := x') hB) (fun K => ff_X11_normal)) (fun rr rc ⟨⟨⟨hgI, hr⟩, fR⟩, hall⟩ ⟨hc, fC⟩ => ⟨rel3_nf fR fC (pf_nf (by decide)) (fun g hg => by omega) hgI h, ?_⟩)
  rcases hr with ⟨r1, r2⟩ | ⟨b, n, l, hb, hx, hh, hr⟩
  · rcases hc with ⟨c1, -⟩ | ⟨b, n, l, w, ⟨w1, w2, w3, w4, w5, -⟩, -⟩
    · exact Or.inr ⟨1, 1, by simp, r1, c1⟩
    · have := r2 b w1 w2
      rw [(hR b w1).1, w5] at this
      exact absurd this (nI_ne0 (by omega) (by omega))
  · rcases hc with ⟨c1, c2⟩ | ⟨b', n', l', w, ⟨w1, w2, w3, w4, w5, w6, w7, w8⟩, hc⟩
    · have := c2 b hb hx
      rw [← (hR b hb).1, hh.2.2.2.1] at this
      exact absurd this (nI_ne0 (by have := hh.1; omega) (by have := hh.2.1; omega))
    · have eb := nI_inj9 (a := b) (b := b') (by omega) (by omega) (hx.symm.trans w2)
      subst eb
      have e96 := (hR b hb).1
      have en : n = n' := nI_inj9 (by have := hh.2.1; omega) (by omega) (hh.2.2.2.1.symm.trans (e96.trans w5))
      subst en
      have hne : z.2.1 96 b ≠ 0 := by
        rw [hh.2.2.2.1]
        exact nI_ne0 (by omega) (by omega)
      obtain ⟨k1, k2⟩ := (hR b hb).2 hne
      have el : l = l' := nI_inj9 (by have := hh.2.2.1; omega) (by omega) (hh.2.2.2.2.1.symm.trans (k1.trans w7))
      subst el
      have hwz : ∀ i, i < l → (w i).1 + 1 < n ∧ z.2.1 94 (16 * b + i) = lx9 (w i) := fun i hi => ⟨(w8 i hi).1, by rw [k2 l w6 hh.2.2.2.2.1 i hi]; exact (w8 i hi).2⟩
      rcases hr with ⟨r1, r2⟩ | ⟨r1, f0, f3⟩
      · rcases hc with ⟨c1, -⟩ | ⟨-, c2, c3, -⟩
        · exact Or.inr ⟨2, 2, by simp, r1, c1⟩
        · rcases r2 with r2 | r2
          · exact absurd r2 c2
          · exact absurd c3 r2
      · rcases hc with ⟨-, c2⟩ | ⟨c1, -, -, F, j, c4, c5, c6⟩
        · rcases c2 with c2 | c2
          · exact absurd c2 f0
          · exact absurd f3 c2
        · refine Or.inl ⟨r1, c1, ?_⟩
          rw [c6]
          exact hall (b, n, l, w, F, j) ⟨hb, hx, hh, hwz, c4, c5, f0, f3⟩
end NFA
end
section
/-! 99zzzzzzzzzzzzzzc.xnf9 -/
/-! factor and equal answer the same -/
section NFB
variable {X : (Nat → Nat → Int32) → Prop} {z y : ow_MS} {vl : Nat → Nat} {x x' x3 : Int32}
/-- the same braid on both sides -/
theorem br_same {b n l b' n' l' : Nat} {w : Nat → Nat × Bool} (hR : relB z y) (hb : b < 20) (hx : x = nI b) (hh : hBr z b n l) (hW : brW y x b' n' l' w) : b' = b ∧ n' = n ∧ l' = l ∧ ∀ i, i < l → (w i).1 + 1 < n ∧ z.2.1 94 (16 * b + i) = lx9 (w i) := by
  obtain ⟨w1, w2, w3, w4, w5, w6, w7, w8⟩ := hW
  have eb := nI_inj9 (a := b) (b := b') (by omega) (by omega) (hx.symm.trans w2)
  subst eb
  have e96 := (hR b hb).1
  have en : n = n' := nI_inj9 (by have := hh.2.1; omega) (by omega) (hh.2.2.2.1.symm.trans (e96.trans w5))
  subst en
  have hne : z.2.1 96 b ≠ 0 := by
    rw [hh.2.2.2.1]
    exact nI_ne0 (by omega) (by omega)
  obtain ⟨k1, k2⟩ := (hR b hb).2 hne
  have el : l = l' := nI_inj9 (by have := hh.2.2.1; omega) (by omega) (hh.2.2.2.2.1.symm.trans (k1.trans w7))
  subst el
  exact ⟨rfl, rfl, rfl, fun i hi => ⟨(w8 i hi).1, by rw [k2 l w6 hh.2.2.2.2.1 i hi]; exact (w8 i hi).2⟩⟩
def fvN (n : Nat) (F : List Nat) (x' x3 : Int32) : Int32 := if x' < 1 then -1 else if nI F.length < x' then -1 else if x3 < 0 then -1 else if x3 < nI n then nI (enG n (F.getD (x'.toNatClampNeg - 1) 0) x3.toNatClampNeg) else -1
/-- the ends of simple ones in the reference -/
def enW (z : ow_MS) : Prop := ∀ n s j, 2 ≤ n → n ≤ 5 → s < gNN n → j < n → z.2.1 98 (5 * (120 * n + s) + j) = nI (enG n s j)
theorem xc_factor (hB : brC y) : Te (fun K => ce_X11_factor vl K 0 x x' x3 y) (fun r => r.1 = 1 ∧ noB (y.2.1 15) x ∨ ∃ b n l w, brW y x b n l w ∧ r.1 = 0 ∧ ∃ F j, nfL n F ∧ F.length ≤ l ∧ eqT n (foT n w l).1 (List.replicate j (gNN n - 1) ++ F) ∧ r.2.1 = fvN n F x' x3) := by
  refine e_X11_factor ?_; unfold cm_X11_factor_0
  refine w_tc0 (tc_needBraid (brC_E hB)) ?_ ?_
  · rintro y1 ⟨h1, rfl⟩
    rcases h1 with ⟨-, hb⟩ | h1
    · obtain ⟨b, n, l, hb20, rfl, hn2, hn5, e15, l16, e14, hwd⟩ := isB_w hB hb
      obtain ⟨w, hw⟩ := wd_w hwd
      have hW : brW y1 (nI b) b n l w := ⟨hb20, rfl, hn2, hn5, e15, l16, e14, hw⟩
      refine w_cs0 (xc_writeF fo46 hn2 hn5 hb20 e15 l16 e14 hw) ?_
      rintro y2 ⟨F, j, g1, g3, g4, g5, g2⟩
      have q15 : y2.2.1 15 b = nI n := (congrFun (g2 15 (by unfold foP; omega)).2.1 b).trans e15
      have fin : ∀ v, v = fvN n F x' x3 → Tt (fun _ _ => some ((0 : Nat), v, y2)) (fun r => r.1 = 1 ∧ noB (y1.2.1 15) (nI b) ∨ ∃ b' n l w, brW y1 (nI b) b' n l w ∧ r.1 = 0 ∧ ∃ F j, nfL n F ∧ F.length ≤ l ∧ eqT n (foT n w l).1 (List.replicate j (gNN n - 1) ++ F) ∧ r.2.1 = fvN n F x' x3) := fun v hv => w_some (Or.inr ⟨b, n, l, w, hW, rfl, F, j, g3, g4, g5, hv⟩)
      refine w_if (fun f1 => fin _ (by unfold fvN; rw [if_pos f1])) (fun f1 => w_rdF (fo_len g1).1 (w_if (fun f4 => fin _ (by unfold fvN; rw [if_neg f1, if_pos f4])) (fun f4 => w_if (fun f5 => fin _ (by unfold fvN; rw [if_neg f1, if_neg f4, if_pos f5])) (fun f5 => w_crI ch_15 rfl hb20 q15 (w_if (fun f6 => ?_) (fun f6 => fin _ (by unfold fvN; rw [if_neg f1, if_neg f4, if_neg f5, if_neg f6])))))))
      have h0 : ¬ x' < 0 := fun h9 => f1 (Int32.lt_trans h9 (by decide))
      obtain ⟨k, k31, rfl⟩ := nI_of h0
      obtain ⟨j3, j31, rfl⟩ := nI_of f5
      have k1 : 1 ≤ k := by
        apply Nat.le_of_not_lt
        exact fun h9 => f1 (nI_lt (b := 1) h9 (by omega))
      have k2 : k ≤ F.length := by
        apply Nat.le_of_not_lt
        exact fun h9 => f4 (nI_lt h9 k31)
      have j3n : j3 < n := by
        apply Nat.lt_of_not_le
        intro h9
        have := (nI_ltI j31 (by omega)).mp f6
        omega
      have hk : k - 1 < F.length := by omega
      have eF : F[k - 1]? = some F[k - 1] := List.getElem?_eq_getElem hk
      rw [show nI k - 1 = nI (k - 1) from pk_sub (b := 1) k1]
      refine w_crI (fO_4 fo46) rfl (show k - 1 < 24 by omega) (fo_rd g1 eF) (w_cs1 tc_image ?_)
      rintro v z ⟨e1, e2⟩
      dsimp only at e1 e2
      rw [e2, e1, d_qj hn2 hn5 (g3.1 _ (List.getElem_mem hk)) j3n]
      refine fin _ ?_
      unfold fvN
      rw [if_neg f1, if_neg f4, if_neg f5, if_pos f6, nI_clamp k31, nI_clamp j31, List.getD_eq_getElem?_getD, eF]
      rfl
    · exact absurd (show (0 : Nat) = 1 from h1.1) (by decide)
  · rintro a y1 ha ⟨h1, rfl⟩
    rcases h1 with h1 | h1
    · exact absurd h1.1 ha
    · exact w_some (Or.inl ⟨h1.1, h1.2⟩)
theorem xq_factor (h : gI X z) (hG : ∀ W, X W → XG W) : Te (fun K => qe_X13_factor K x x' x3 z) (fun r => r.2.1 1 = nI 1 ∧ noB (z.2.1 96) x ∨ ∃ b n l, b < 20 ∧ x = nI b ∧ hBr z b n l ∧ ∀ w F j, (∀ i, i < l → (w i).1 + 1 < n ∧ z.2.1 94 (16 * b + i) = lx9 (w i)) → nfL n F → F.length ≤ l → eqT n (foT n w l).1 (List.replicate j (gNN n - 1) ++ F) → enW z → r.2.1 1 = 0 ∧ r.1 = fvN n F x' x3) := by
  have h1 := gI_1 (c := 0) h
  let Q : Int32 × ow_MS → Prop := fun r => r.2.1 1 = nI 1 ∧ noB (z.2.1 96) x ∨ ∃ b n l, b < 20 ∧ x = nI b ∧ hBr z b n l ∧ ∀ w F j, (∀ i, i < l → (w i).1 + 1 < n ∧ z.2.1 94 (16 * b + i) = lx9 (w i)) → nfL n F → F.length ≤ l → eqT n (foT n w l).1 (List.replicate j (gNN n - 1) ++ F) → enW z → r.2.1 1 = 0 ∧ r.1 = fvN n F x' x3
  refine e_X13_factor ?_
  refine u_X13_factor_0 ?_; unfold qm_X13_factor_0
  refine w_wrF (w_hasBX h1.2.2.2.2.2.1 (fun h0 => w_ifT rfl (w_mono (w_failX (k := 1) h1 fr_1) (fun r hr => Or.inl ⟨hr.2.1, h0⟩))) (fun b n l hc hx hh => w_ifF (by decide) ?_))
  subst hx
  have h2 := hh.1
  have h5 := hh.2.1
  have hl16 := hh.2.2.1
  have fo := te_all (α := (Nat → Nat × Bool) × List Nat × Nat) (H := fun a => (∀ i, i < l → (a.1 i).1 + 1 < n ∧ z.2.1 94 (16 * b + i) = lx9 (a.1 i)) ∧ nfL n a.2.1 ∧ eqT n (foT n a.1 l).1 (List.replicate a.2.2 (gNN n - 1) ++ a.2.1)) (R := fun a z1 => fmI z1 n a.2.1 ∧ z1.1 112 = iI ((foT n a.1 l).2 + (a.2.2 : Nat))) (tp_formOf (z := usF z 1 0) hc hh (gI_tb hG h1)) (fun a ⟨a1, a2, a3⟩ => xr_formOf (z := usF z 1 0) hc hh (gI_tb hG h1) a1 a2 a3)
  refine w_cs0 fo (fun y1 ⟨⟨⟨S, κ, f1, f2, _⟩, f3⟩, hall⟩ => ?_)
  have e1 : y1.1 1 = 0 := (f3 1 (by unfold nmH; omega)).1.trans po_usF_at
  have e96 : y1.2.1 96 b = nI n := by rw [(f3 96 (by unfold nmH; omega)).2.1]; exact hh.2.2.2.1
  have e98 : y1.2.1 98 = z.2.1 98 := (f3 98 (by unfold nmH; omega)).2.1
  have hN := nn_pos (n := n)
  have fin : ∀ v, (∀ F, nfL n F → fmI y1 n F → F.length ≤ l → enW z → v = fvN n F x' x3) → Tt (fun _ _ => some (v, y1)) Q := fun v hv => w_some (Or.inr ⟨b, n, l, hc, rfl, hh, fun w F j k1 k2 k3 k4 k5 => ⟨e1, hv F k2 (hall (w, F, j) ⟨k1, k2, k4⟩).1 k3 k5⟩⟩)
  have c1 : (∀ F, nfL n F → fmI y1 n F → F.length ≤ l → -1 = fvN n F x' x3) → Tt (fun K i => q_X13_factor K i 1 (nI b) x' x3 y1) Q := by
    intro hv
    refine u_X13_factor_1 ?_; unfold qm_X13_factor_1
    exact fin _ (fun F a1 a2 a3 _ => hv F a1 a2 a3)
  refine w_if (fun f1 => c1 (fun F _ _ _ => by unfold fvN; rw [if_pos f1])) (fun hi1 => ?_)
  obtain ⟨i', hi31, rfl⟩ := nI_of (x := x') (fun h9 => hi1 (Int32.lt_trans h9 (by decide)))
  have hi0 : 1 ≤ i' := by
    apply Nat.le_of_not_lt
    exact fun h9 => hi1 (nI_lt (b := 1) h9 (by omega))
  have key : ∀ F, fmI y1 n F → F.length ≤ l → F.length = S.length := fun F hF hFl => nI_inj9 (by omega) (by omega) (hF.1.1.symm.trans f1.1.1)
  refine w_rdF f1.1.1 (w_if (fun f4 => c1 (fun F _ hF hFl => by unfold fvN; rw [if_neg hi1, key F hF hFl, if_pos f4])) (fun f4 => w_if (fun f5 => c1 (fun F _ hF hFl => by unfold fvN; rw [if_neg hi1, key F hF hFl, if_neg f4, if_pos f5])) (fun f5 => ?_)))
  obtain ⟨j', hj31, rfl⟩ := nI_of f5
  refine w_rdI ml96 rfl (by omega) e96 (w_if (fun f6 => w_rdI ml96 rfl (by omega) e96 ?_) (fun f6 => c1 (fun F _ hF hFl => by unfold fvN; rw [if_neg hi1, key F hF hFl, if_neg f4, if_neg f5, if_neg f6])))
  have hjn : j' < n := by
    apply Nat.lt_of_not_le
    intro h9
    have := (nI_ltI hj31 (by omega)).mp f6
    omega
  have hil : i' - 1 < S.length := by
    have : i' ≤ S.length := by
      apply Nat.le_of_not_lt
      exact fun h9 => f4 (nI_lt h9 hi31)
    omega
  have hs := f1.2 _ (List.getElem_mem hil)
  have eS : y1.2.1 114 (i' - 1) = nI S[i' - 1] := f1.1.2 _ _ (List.getElem?_eq_getElem hil)
  rw [show nI i' - 1 = nI (i' - 1) from pk_sub (b := 1) hi0]
  refine w_rdI ml114 rfl (by omega) eS ?_
  generalize S[i' - 1] = s at hs eS
  refine w_rdI (i := 5 * (120 * n + s) + j') ml98 (by rw [ix120, show (5 : Int32) * nI (120 * n + s) = nI (5 * (120 * n + s)) from pk_mul 5 _, nI_add]) (by omega) rfl (fin _ (fun F a1 a2 a3 a4 => ?_))
  have eF := key F a2 a3
  have hk : i' - 1 < F.length := by omega
  have e9 := a2.1.2 _ _ (List.getElem?_eq_getElem hk)
  have hb9 := a1.1 _ (List.getElem_mem hk)
  have es : F[i' - 1] = s := nI_inj9 (by omega) (by omega) (e9.symm.trans eS)
  unfold fvN
  rw [if_neg hi1, eF, if_neg f4, if_neg f5, if_pos f6, nI_clamp hi31, nI_clamp hj31, List.getD_eq_getElem?_getD, List.getElem?_eq_getElem hk, es, e98]
  exact a4 n s j' h2 h5 hs hjn
theorem c_factor (hG : ∀ W, X W → XG W) (h : rel3 X z y) (hE : enW z) : Te (fun K => qe_X13_factor K x x' x3 z) (fun rr => Te (fun K => ce_X11_factor vl K 0 x x' x3 y) (fun rc => rel3 X rr.2 rc.2.2 ∧ ansI [(1, 1)] rr rc)) := by
  have hI := r3_g h
  have hB := h.2.2.2.2.1
  have hR := h.2.2.2.1
  refine te_two (te_fo (te_and (tp_factor (b := x) (i := x') (j := x3) hG hI) (xq_factor (x := x) (x' := x') (x3 := x3) hI hG)) (fun K => ff_X13_factor)) (te_fo (xc_factor (x := x) (x' := x') (x3 := x3) hB) (fun K => ff_X11_factor)) (fun rr rc ⟨⟨hgI, hr⟩, fR⟩ ⟨hc, fC⟩ => ⟨rel3_nf fR fC (pf_nf (by decide)) (fun g hg => by omega) hgI h, ?_⟩)
  rcases hr with ⟨r1, r2⟩ | ⟨b, n, l, hb, hx, hh, hr⟩
  · rcases hc with ⟨c1, -⟩ | ⟨b, n, l, w, ⟨w1, w2, w3, w4, w5, -⟩, -⟩
    · exact Or.inr ⟨1, 1, by simp, r1, c1⟩
    · have := r2 b w1 w2
      rw [(hR b w1).1, w5] at this
      exact absurd this (nI_ne0 (by omega) (by omega))
  · rcases hc with ⟨c1, c2⟩ | ⟨b', n', l', w, hW, c1, F, j, c2, c3, c4, c5⟩
    · have := c2 b hb hx
      rw [← (hR b hb).1, hh.2.2.2.1] at this
      exact absurd this (nI_ne0 (by have := hh.1; omega) (by have := hh.2.1; omega))
    · obtain ⟨rfl, rfl, rfl, hwz⟩ := br_same hR hb hx hh hW
      obtain ⟨k1, k2⟩ := hr w F j hwz c2 c3 c4 hE
      exact Or.inl ⟨k1, c1, k2.trans c5.symm⟩
end NFB
end
section
/-! 99zzzzzzzzzzzzzzd.xnf10 -/
/-! equal answers the same -/
section NFC
variable {X : (Nat → Nat → Int32) → Prop} {z y : ow_MS} {vl : Nat → Nat} {x x' : Int32} {n : Nat}
theorem fo_fr {P : Nat → Prop} {y1 : ow_MS} {h : Nat} {κ : Int32} {L : List Int32} (hf : fr P y y1) (hP : ∀ g, foP h g → ¬ P g) (h0 : foA y h n κ L) : foA y1 h n κ L := by
  obtain ⟨a1, a2, a3, a4, a5, a6, a7⟩ := h0
  have k : ∀ g, foP h g → y1.1 g = y.1 g ∧ y1.2.1 g = y.2.1 g := fun g hg => ⟨(hf g (hP g hg)).1, (hf g (hP g hg)).2.1⟩
  refine ⟨(k _ (by unfold foP; omega)).1.trans a1, (k _ (by unfold foP; omega)).1.trans a2, (k _ (by unfold foP; omega)).1.trans a3, a4, fun i a e => ?_, (k _ (by unfold foP; omega)).1.trans a6, (k _ (by unfold foP; omega)).1.trans a7⟩
  rw [(k (h + 4) (by unfold foP; omega)).2]
  exact a5 i a e
theorem nn_120 : gNN n ≤ 120 := by
  unfold gNN
  split <;> (try split) <;> (try split) <;> omega
theorem fm_uni {F S : List Nat} (h : fmI z n F) (h' : fmI z n S) (l1 : F.length < 100) (l2 : S.length < 100) : F = S := by
  have el : F.length = S.length := nI_inj9 (by omega) (by omega) (h.1.1.symm.trans h'.1.1)
  have bn := nn_120 (n := n)
  refine List.ext_getElem? (fun i => ?_)
  by_cases hi : i < F.length
  · have e1 : F[i]? = some F[i] := List.getElem?_eq_getElem hi
    have e2 : S[i]? = some (S[i]'(by omega)) := List.getElem?_eq_getElem (by omega)
    have b1 := h.2 _ (List.mem_of_getElem? e1)
    have b2 := h'.2 _ (List.mem_of_getElem? e2)
    rw [e1, e2]
    exact congrArg some (nI_inj9 (by omega) (by omega) ((h.1.2 i _ e1).symm.trans (h'.1.2 i _ e2)))
  · rw [List.getElem?_eq_none (by omega), List.getElem?_eq_none (by omega)]
theorem xc_sameAs {h g : Nat} {κ κ' : Int32} {F F' : List Nat} (hh : fO h) (hg : fO g) (h2 : 2 ≤ n) (h5 : n ≤ 5) (hF : okT n F) (hF' : okT n F') (h0 : foA y h n κ (F.map (pkG n))) (g0 : foA y g n κ' (F'.map (pkG n))) : Te (fun K => ce_X5_sameAs vl K h g y) (fun r => (r.1 = 1 ∧ κ = κ' ∧ F = F' ∨ r.1 = 0 ∧ ¬ (κ = κ' ∧ F = F')) ∧ r.2 = y) := by
  obtain ⟨h3, hl⟩ := fo_len h0
  obtain ⟨g3, gl⟩ := fo_len g0
  let Q : Int32 × ow_MS → Prop := fun r => (r.1 = 1 ∧ κ = κ' ∧ F = F' ∨ r.1 = 0 ∧ ¬ (κ = κ' ∧ F = F')) ∧ r.2 = y
  have no : ¬ (κ = κ' ∧ F = F') → Tt (fun _ _ => okZ 0 (some ((0 : Int32), y))) Q := fun hn => w_okZ (Or.inl rfl) (w_some ⟨Or.inr ⟨rfl, hn⟩, rfl⟩)
  have c1 : ∀ (d j : Nat), j + d = F.length → F.length = F'.length → κ = κ' → (∀ i, i < j → F[i]? = F'[i]?) → Tt (fun K t => c_X5_sameAs vl K t 1 (nI j) h g y) Q := by
    intro d
    induction d with
    | zero =>
      intro j hj el ek hp
      refine u_X5_sameAs_1 ?_; unfold cm_X5_sameAs_1
      refine w_rdF h3 (w_leT (by omega) (by omega) (w_okZ (Or.inr rfl) (w_some ⟨Or.inl ⟨rfl, ek, List.ext_getElem? (fun i => ?_)⟩, rfl⟩)))
      by_cases hi : i < j
      · exact hp i hi
      · rw [List.getElem?_eq_none (by omega), List.getElem?_eq_none (by omega)]
    | succ d ih =>
      intro j hj el ek hp
      have l1 : j < F.length := by omega
      have l2 : j < F'.length := by omega
      have e1 : F[j]? = some F[j] := List.getElem?_eq_getElem l1
      have e2 : F'[j]? = some F'[j] := List.getElem?_eq_getElem l2
      refine u_X5_sameAs_1 ?_; unfold cm_X5_sameAs_1
      rw [nI_1]
      refine w_rdF h3 (w_leF (by omega) (by omega) (w_crI (fO_4 hh) rfl (show j < 24 by omega) (fo_rd h0 e1) (w_crI (fO_4 hg) rfl (show j < 24 by omega) (fo_rd g0 e2) (w_if (fun e => ih (j + 1) (by omega) el ek (fun i hi => ?_)) (fun e => no (fun h9 => e ?_))))))
      · by_cases c : i = j
        · rw [c, e1, e2, d_qi h2 h5 (hF _ (List.getElem_mem l1)) (hF' _ (List.getElem_mem l2)) e]
        · exact hp i (by omega)
      · have e3 : F[j]? = F'[j]? := by rw [h9.2]
        rw [e1, e2] at e3
        rw [Option.some.inj e3]
  refine e_X5_sameAs ?_
  refine u_X5_sameAs_0 ?_; unfold cm_X5_sameAs_0
  refine w_rdF h0.1 (w_rdF g0.1 (w_ifT rfl (w_rdF h0.2.1 (w_rdF g0.2.1 (w_if (fun ek => w_rdF h3 (w_rdF g3 (w_eqN (by omega) (by omega) (fun el => c1 F.length 0 (by omega) el ek (fun i hi => absurd hi (Nat.not_lt_zero _))) (fun el => no (fun h9 => el ?_))))) (fun ek => no (fun h9 => ek h9.1)))))))
  rw [h9.2]
theorem xc_equal (hB : brC y) : Te (fun K => ce_X11_equal vl K 0 x x' y) (fun r => r.1 = 0 ∧ (noB (y.2.1 15) x ∨ noB (y.2.1 15) x') ∨ ∃ b n l w b' n' l' w', brW y x b n l w ∧ brW y x' b' n' l' w' ∧ (n ≠ n' ∧ r.1 = 0 ∨ n = n' ∧ ∃ F j F' j', nfL n F ∧ F.length ≤ l ∧ eqT n (foT n w l).1 (List.replicate j (gNN n - 1) ++ F) ∧ nfL n F' ∧ F'.length ≤ l' ∧ eqT n (foT n w' l').1 (List.replicate j' (gNN n - 1) ++ F') ∧ (r.1 = 1 ∧ iI ((foT n w l).2 + (j : Nat)) = iI ((foT n w' l').2 + (j' : Nat)) ∧ F = F' ∨ r.1 = 0 ∧ ¬ (iI ((foT n w l).2 + (j : Nat)) = iI ((foT n w' l').2 + (j' : Nat)) ∧ F = F')))) := by
  refine e_X11_equal ?_; unfold cm_X11_equal_0
  refine w_cs1 (tc_hasBraid (brC_E hB)) ?_
  rintro v y1 ⟨h1, e1⟩
  dsimp only at h1 e1
  rw [e1]
  rcases h1 with ⟨rfl, hb⟩ | ⟨rfl, hn1⟩
  · refine w_ifF (by decide) (w_cs1 (tc_hasBraid (brC_E hB)) ?_)
    rintro v2 y2 ⟨h2, e2⟩
    dsimp only at h2 e2
    rw [e2]
    rcases h2 with ⟨rfl, hb'⟩ | ⟨rfl, hn2⟩
    · obtain ⟨b, n, l, hb20, rfl, hn2, hn5, e15, l16, e14, hwd⟩ := isB_w hB hb
      obtain ⟨b', n', l', hb20', rfl, hn2', hn5', e15', l16', e14', hwd'⟩ := isB_w hB hb'
      obtain ⟨w, hw⟩ := wd_w hwd
      obtain ⟨w', hw'⟩ := wd_w hwd'
      have hW : brW y (nI b) b n l w := ⟨hb20, rfl, hn2, hn5, e15, l16, e14, hw⟩
      have hW' : brW y (nI b') b' n' l' w' := ⟨hb20', rfl, hn2', hn5', e15', l16', e14', hw'⟩
      refine w_ifF (by decide) (w_crI ch_15 rfl hb20 e15 (w_crI ch_15 rfl hb20' e15' (w_eqN (by omega) (by omega) (fun en => ?_) (fun en => w_okZ (Or.inl rfl) (w_some (Or.inr ⟨b, n, l, w, b', n', l', w', hW, hW', Or.inl ⟨en, rfl⟩⟩))))))
      subst en
      refine w_cs0 (xc_writeF fo46 hn2 hn5 hb20 e15 l16 e14 hw) ?_
      rintro y3 ⟨F, j, g1, g3, g4, g5, g2⟩
      have q13 : y3.2.1 13 = y.2.1 13 := (g2 13 (by unfold foP; omega)).2.1
      refine w_cs0 (xc_writeF (n := n) (l := l') (w := w') fo47 hn2' hn5' hb20' ((congrFun (g2 15 (by unfold foP; omega)).2.1 b').trans e15') l16' ((congrFun (g2 14 (by unfold foP; omega)).2.1 b').trans e14') (fun i hi => ⟨(hw' i hi).1, by rw [q13]; exact (hw' i hi).2⟩)) ?_
      rintro y4 ⟨F', j', k1, k3, k4, k5, k2⟩
      have g6 := fo_fr k2 (fun g hg => by unfold foP at hg ⊢; omega) g1
      refine w_cs1 (xc_sameAs fo46 fo47 hn2 hn5 g3.1 k3.1 g6 k1) ?_
      rintro v5 y5 ⟨e5, e6⟩
      dsimp only at e5 e6
      rw [e6]
      refine w_okZ ?_ (w_some (Or.inr ⟨b, n, l, w, b', n, l', w', hW, hW', Or.inr ⟨rfl, F, j, F', j', g3, g4, g5, k3, k4, k5, e5⟩⟩))
      rcases e5 with e5 | e5
      · exact Or.inr e5.1
      · exact Or.inl e5.1
    · exact w_ifT rfl (w_okZ (Or.inl rfl) (w_some (Or.inl ⟨rfl, Or.inr hn2⟩)))
  · exact w_ifT rfl (w_okZ (Or.inl rfl) (w_some (Or.inl ⟨rfl, Or.inl hn1⟩)))
theorem xr_isForm {r0 r2 i j l0 l2 : Nat} {S S' : List Nat} {κ κ' : Int} (h0 : (mX.2 r0).2.1 = l0) (h2 : (mX.2 r2).2.1 = l2) (hl0 : l0 ≤ 8040) (hl2 : l2 ≤ 8040) (hi : i + 2 + S.length ≤ l0) (hj : j + 2 + S'.length ≤ l2) (hS : frwI z r0 i n S κ) (hS' : frwI z r2 j n S' κ') : Te (fun K => qe_X13_isForm K r0 (nI i) r2 (nI j) z) (fun r => r.2 = z ∧ (r.1 = 1 ∧ iI κ = iI κ' ∧ S = S' ∨ r.1 = 0 ∧ ¬ (iI κ = iI κ' ∧ S = S'))) := by
  let Q : Int32 × ow_MS → Prop := fun r => r.2 = z ∧ (r.1 = 1 ∧ iI κ = iI κ' ∧ S = S' ∨ r.1 = 0 ∧ ¬ (iI κ = iI κ' ∧ S = S'))
  have c30 : ∀ (x5 : Int32), ¬ (iI κ = iI κ' ∧ S = S') → Tt (fun K t => q_X13_isForm K t 3 (nI i) (nI j) 0 x5 r0 r2 0 z) Q := by
    intro x5 hn
    refine u_X13_isForm_3 ?_; unfold qm_X13_isForm_3
    exact w_ifT rfl (w_okZ (Or.inl rfl) (w_some ⟨rfl, Or.inr ⟨rfl, hn⟩⟩))
  have c3 : ∀ (d k : Nat), k + d = S.length → S.length = S'.length → iI κ = iI κ' → (∀ t, t < k → S[t]? = S'[t]?) → Tt (fun K t => q_X13_isForm K t 3 (nI i) (nI j) 1 (nI k) r0 r2 0 z) Q := by
    intro d
    induction d with
    | zero =>
      intro k hk el ek hp
      refine u_X13_isForm_3 ?_; unfold qm_X13_isForm_3
      rw [show nI i + 1 = nI (i + 1) from nI_1 _]
      refine w_ifF (by decide) (w_rdI h0 rfl (by omega) hS.2.1 (w_leT (by omega) (by omega) (w_okZ (Or.inr rfl) (w_some ⟨rfl, Or.inl ⟨rfl, ek, List.ext_getElem? (fun t => ?_)⟩⟩))))
      by_cases ht : t < k
      · exact hp t ht
      · rw [List.getElem?_eq_none (by omega), List.getElem?_eq_none (by omega)]
    | succ d ih =>
      intro k hk el ek hp
      have l1 : k < S.length := by omega
      have l2' : k < S'.length := by omega
      have e1 : S[k]? = some S[k] := List.getElem?_eq_getElem l1
      have e2 : S'[k]? = some S'[k] := List.getElem?_eq_getElem l2'
      have b1 : S[k] < gNN n := hS.2.2.2 _ (List.getElem_mem l1)
      have b2 : S'[k] < gNN n := hS'.2.2.2 _ (List.getElem_mem l2')
      have bn := nn_120 (n := n)
      refine u_X13_isForm_3 ?_; unfold qm_X13_isForm_3
      rw [show nI i + 1 = nI (i + 1) from nI_1 _, show nI i + 2 = nI (i + 2) from nI_add i 2, nI_add, show nI j + 2 = nI (j + 2) from nI_add j 2, nI_add]
      refine w_ifF (by decide) (w_rdI h0 rfl (by omega) hS.2.1 (w_leF (by omega) (by omega) (w_rdI h0 rfl (by omega) (hS.2.2.1 k _ e1) (w_rdI h2 rfl (by omega) (hS'.2.2.1 k _ e2) (w_eqN (by omega) (by omega) (fun e => ?_) (fun e => ?_))))))
      · refine u_X13_isForm_4 ?_; unfold qm_X13_isForm_4
        rw [nI_1]
        refine ih (k + 1) (by omega) el ek (fun t ht => ?_)
        by_cases c : t = k
        · rw [c, e1, e2, e]
        · exact hp t (by omega)
      · refine u_X13_isForm_4 ?_; unfold qm_X13_isForm_4
        refine c30 _ (fun h9 => e ?_)
        have e3 : S[k]? = S'[k]? := by rw [h9.2]
        rw [e1, e2] at e3
        exact Option.some.inj e3
  have c1 : ¬ (iI κ = iI κ' ∧ S = S') → Tt (fun K t => q_X13_isForm K t 1 (nI i) (nI j) 0 0 r0 r2 0 z) Q := by
    intro hn
    refine u_X13_isForm_1 ?_; unfold qm_X13_isForm_1
    refine u_X13_isForm_2 ?_; unfold qm_X13_isForm_2
    exact c30 _ hn
  refine e_X13_isForm ?_
  refine u_X13_isForm_0 ?_; unfold qm_X13_isForm_0
  rw [show nI i + 1 = nI (i + 1) from nI_1 _, show nI j + 1 = nI (j + 1) from nI_1 _]
  refine w_rdI h0 rfl (by omega) hS.1 (w_rdI h2 rfl (by omega) hS'.1 (w_if (fun ek => w_rdI h0 rfl (by omega) hS.2.1 (w_rdI h2 rfl (by omega) hS'.2.1 (w_eqN (by omega) (by omega) (fun el => ?_) (fun el => c1 (fun h9 => el (by rw [h9.2])))))) (fun ek => c1 (fun h9 => ek h9.1))))
  refine u_X13_isForm_2 ?_; unfold qm_X13_isForm_2
  exact c3 S.length 0 (by omega) el ek (fun t ht => absurd ht (Nat.not_lt_zero _))
theorem xq_equal (h : gI X z) (hG : ∀ W, X W → XG W) : Te (fun K => qe_X13_equal K x x' z) (fun r => r.2.1 1 = 0 ∧ (r.1 = 0 ∧ (noB (z.2.1 96) x ∨ noB (z.2.1 96) x') ∨ ∃ b n l b' n' l', b < 20 ∧ x = nI b ∧ hBr z b n l ∧ b' < 20 ∧ x' = nI b' ∧ hBr z b' n' l' ∧ (n ≠ n' ∧ r.1 = 0 ∨ n = n' ∧ ∀ w F j w' F' j', (∀ i, i < l → (w i).1 + 1 < n ∧ z.2.1 94 (16 * b + i) = lx9 (w i)) → nfL n F → F.length ≤ l → eqT n (foT n w l).1 (List.replicate j (gNN n - 1) ++ F) → (∀ i, i < l' → (w' i).1 + 1 < n ∧ z.2.1 94 (16 * b' + i) = lx9 (w' i)) → nfL n F' → F'.length ≤ l' → eqT n (foT n w' l').1 (List.replicate j' (gNN n - 1) ++ F') → (r.1 = 1 ∧ iI ((foT n w l).2 + (j : Nat)) = iI ((foT n w' l').2 + (j' : Nat)) ∧ F = F' ∨ r.1 = 0 ∧ ¬ (iI ((foT n w l).2 + (j : Nat)) = iI ((foT n w' l').2 + (j' : Nat)) ∧ F = F'))))) := by
  have h1 := gI_1 (c := 0) h
  have e10 : (usF z 1 0).1 1 = 0 := po_usF_at
  refine e_X13_equal ?_; unfold qm_X13_equal_0
  refine w_wrF (w_hasBX h1.2.2.2.2.2.1 (fun h0 => w_ifT rfl (w_okZ (Or.inl rfl) (w_some ⟨e10, Or.inl ⟨rfl, Or.inl h0⟩⟩))) (fun c n l hc hx hh => w_ifF (by decide) (w_hasBX h1.2.2.2.2.2.1 (fun h0 => w_ifT rfl (w_okZ (Or.inl rfl) (w_some ⟨e10, Or.inl ⟨rfl, Or.inr h0⟩⟩))) (fun c2 n2 l2 hc2 hx2 hh2 => w_ifF (by decide) ?_))))
  subst hx
  subst hx2
  have b5 := hh.2.1
  have b52 := hh2.2.1
  refine w_rdI ml96 rfl (by omega) hh.2.2.2.1 (w_rdI ml96 rfl (by omega) hh2.2.2.2.1 (w_eqN (by omega) (by omega) (fun en => ?_) (fun en => w_okZ (Or.inl rfl) (w_some ⟨e10, Or.inr ⟨c, n, l, c2, n2, l2, hc, rfl, hh, hc2, rfl, hh2, Or.inl ⟨en, rfl⟩⟩⟩))))
  subst en
  have fo : ∀ {y : ow_MS} {b l : Nat}, b < 20 → hBr y b n l → gI X y → Te (fun K => qe_X13_formOf K (nI b) y) (fun z1 => ((∃ S κ, fmI z1 n S ∧ S.length ≤ 16 ∧ z1.1 112 = iI κ ∧ -16 ≤ κ ∧ κ + szL n S ≤ 160) ∧ fr nmH y z1) ∧ ∀ a : (Nat → Nat × Bool) × List Nat × Nat, ((∀ i, i < l → (a.1 i).1 + 1 < n ∧ y.2.1 94 (16 * b + i) = lx9 (a.1 i)) ∧ nfL n a.2.1 ∧ eqT n (foT n a.1 l).1 (List.replicate a.2.2 (gNN n - 1) ++ a.2.1)) → fmI z1 n a.2.1 ∧ z1.1 112 = iI ((foT n a.1 l).2 + (a.2.2 : Nat))) := fun hb hb9 hy => te_all (tp_formOf hb hb9 (gI_tb hG hy)) (fun a ⟨a1, a2, a3⟩ => xr_formOf hb hb9 (gI_tb hG hy) a1 a2 a3)
  refine w_cs0 (fo hc hh h1) (fun y1 ⟨⟨⟨S, κ, f1, f2, f3, _⟩, f4⟩, hall1⟩ => ?_)
  have g1 := gI_nm f4 h1
  refine w_cs0 (tp_formTo (r := 117) (o := 0) ml117 (by omega) (by omega) (by omega) (by omega) f1 f3) (fun y2 ⟨k1, k2, _⟩ => ?_)
  have g2 : gI X y2 := gI_fr k2 (fun g hg => by rw [hg]; decide) g1
  have hh3 : hBr y2 c2 n l2 := hBr_fr (P := fun g => g = 117) k2 (by omega) (by omega) (by omega) (hBr_fr f4 (by unfold nmH; omega) (by unfold nmH; omega) (by unfold nmH; omega) hh2)
  have r94 : y2.2.1 94 = z.2.1 94 := (k2 94 (by omega)).2.1.trans (f4 94 (by unfold nmH; omega)).2.1
  refine w_cs0 (fo hc2 hh3 g2) (fun y3 ⟨⟨⟨S3, κ3, a1, a2, a3, _⟩, a4⟩, hall2⟩ => ?_)
  have g3 := gI_nm a4 g2
  refine w_cs0 (tp_formTo (r := 118) (o := 0) ml118 (by omega) (by omega) (by omega) (by omega) a1 a3) (fun y4 ⟨b1, b2, _⟩ => ?_)
  have k4 : frwI y4 117 0 n S κ := frwI_fr b2 (by omega) (frwI_fr a4 (by unfold nmH; omega) k1)
  have e14 : y4.1 1 = 0 := ((((b2 1 (by omega)).1.trans (a4 1 (by unfold nmH; omega)).1).trans (k2 1 (by omega)).1).trans (f4 1 (by unfold nmH; omega)).1).trans e10
  refine w_cs1 (xr_isForm (i := 0) (j := 0) ml117 ml118 (by omega) (by omega) (by omega) (by omega) k4 b1) (fun v y5 ⟨e5, e6⟩ => ?_)
  have e5 : y5 = y4 := e5
  subst e5
  refine w_okZ (by
    rcases e6 with e6 | e6
    · exact Or.inr e6.1
    · exact Or.inl e6.1) (w_some ⟨e14, Or.inr ⟨c, n, l, c2, n, l2, hc, rfl, hh, hc2, rfl, hh2, Or.inr ⟨rfl, fun w F j w' F' j' q1 q2 q3 q4 q5 q6 q7 q8 => ?_⟩⟩⟩)
  have l16 := hh.2.2.1
  have l162 := hh2.2.2.1
  obtain ⟨m1, m2⟩ := hall1 (w, F, j) ⟨q1, q2, q4⟩
  obtain ⟨m3, m4⟩ := hall2 (w', F', j') ⟨fun i hi => by rw [r94]; exact q5 i hi, q6, q8⟩
  have eF : F = S := fm_uni m1 f1 (by omega) (by omega)
  have eF' : F' = S3 := fm_uni m3 a1 (by omega) (by omega)
  have ek : iI ((foT n w l).2 + (j : Nat)) = iI κ := m2.symm.trans f3
  have ek' : iI ((foT n w' l2).2 + (j' : Nat)) = iI κ3 := m4.symm.trans a3
  rw [eF, eF', ek, ek']
  exact e6
theorem c_equal (hG : ∀ W, X W → XG W) (h : rel3 X z y) : Te (fun K => qe_X13_equal K x x' z) (fun rr => Te (fun K => ce_X11_equal vl K 0 x x' y) (fun rc => rel3 X rr.2 rc.2 ∧ rr.2.1 1 = 0 ∧ rr.1 = rc.1)) := by
  have hI := r3_g h
  have hB := h.2.2.2.2.1
  have hR := h.2.2.2.1
  refine te_two (te_fo (te_and (tp_equal (a := x) (b := x') hG hI) (xq_equal (x := x) (x' := x') hI hG)) (fun K => ff_X13_equal)) (te_fo (xc_equal (x := x) (x' := x') hB) (fun K => ff_X11_equal)) (fun rr rc ⟨⟨hgI, r0, hr⟩, fR⟩ ⟨hc, fC⟩ => ⟨rel3_nf fR fC (pf_nf (by decide)) (fun g hg => by omega) hgI h, r0, ?_⟩)
  have no1 : ∀ {x : Int32} {b n l w}, noB (z.2.1 96) x → brW y x b n l w → False := fun {x b n l w} r2 ⟨w1, w2, w3, w4, w5, _⟩ => by
    have := r2 b w1 w2
    rw [(hR b w1).1, w5] at this
    exact absurd this (nI_ne0 (by omega) (by omega))
  have no2 : ∀ {x : Int32} {b n l}, noB (y.2.1 15) x → b < 20 → x = nI b → hBr z b n l → False := fun {x b n l} c2 hb hx hh => by
    have := c2 b hb hx
    rw [← (hR b hb).1, hh.2.2.2.1] at this
    exact absurd this (nI_ne0 (by have := hh.1; omega) (by have := hh.2.1; omega))
  rcases hr with ⟨r1, r2⟩ | ⟨b, n, l, b', n', l', hb, hx, hh, hb', hx', hh', hr⟩
  · rcases hc with ⟨c1, -⟩ | ⟨b, n, l, w, b', n', l', w', hW, hW', -⟩
    · exact r1.trans c1.symm
    · rcases r2 with r2 | r2
      · exact (no1 r2 hW).elim
      · exact (no1 r2 hW').elim
  · rcases hc with ⟨c1, c2⟩ | ⟨b1, n1, l1, w, b2, n2, l2, w', hW, hW', hc⟩
    · rcases c2 with c2 | c2
      · exact (no2 c2 hb hx hh).elim
      · exact (no2 c2 hb' hx' hh').elim
    · obtain ⟨rfl, rfl, rfl, hwz⟩ := br_same hR hb hx hh hW
      obtain ⟨rfl, rfl, rfl, hwz'⟩ := br_same hR hb' hx' hh' hW'
      rcases hr with ⟨r1, r2⟩ | ⟨r1, r2⟩
      · rcases hc with ⟨c1, c2⟩ | ⟨c1, -⟩
        · exact r2.trans c2.symm
        · exact absurd c1 r1
      · rcases hc with ⟨c1, -⟩ | ⟨c1, F, j, F', j', q1, q2, q3, q4, q5, q6, q7⟩
        · exact absurd r1 c1
        · subst r1
          rcases r2 w F j w' F' j' hwz q1 q2 q3 hwz' q4 q5 q6 with ⟨k1, k2⟩ | ⟨k1, k2⟩
          · rcases q7 with ⟨k3, -⟩ | ⟨-, k4⟩
            · exact k1.trans k3.symm
            · exact absurd k2 k4
          · rcases q7 with ⟨-, k3⟩ | ⟨k3, -⟩
            · exact absurd k3 k2
            · exact k1.trans k3.symm
end NFC
end
section
/-! 99zzzzzzzzzzzzzze.xnf11 -/
/-! the ends of simple braids as the reference has them at the start -/
def dE9 (n : Nat) (y : ow_MS) : Prop := eN n (gNN n) y
theorem dE_fB {P : Nat → Prop} {n m : Nat} {y y1 : ow_MS} (h2 : 2 ≤ m) (h5 : m ≤ 5) (hm : m ≠ n) (hf : fB P n y y1) (h : dE9 m y) : dE9 m y1 := by
  have hN := nn_pos (n := m)
  exact ⟨by rw [hf.2 97 m (by unfold inB; omega)]; exact h.1, fun k hk s hs => by rw [hf.2 98 _ (by unfold inB; omega)]; exact h.2 k hk s hs⟩
theorem smE_12 {Q : ow_MS → Prop} {n : Nat} {z : ow_MS} (h2 : 2 ≤ n) (h5 : n ≤ 5) (hE : eN n (gNN n) z) (hS : szN n (gNN n) z) (hM : mN n (gNN n) 0 z) (hT : tT n (gNN n) z) (H : ∀ y, dE9 n y → fB pA n z y → Tt (fun K t => q_X13_makeSimples_a K t 1 (nI (n + 1)) 0 0 0 0 0 0 0 0 0 y) Q) : Tt (fun K t => q_X13_makeSimples_a K t 12 (nI n) 0 0 0 0 0 0 0 0 0 z) Q := by
  have hN := nn_pos (n := n)
  have np : ∀ g, (97 ≤ g ∧ g ≤ 103) → ¬ pR g := fun g hg h => by unfold pR at h; omega
  have tRz : ∀ {y : ow_MS}, fB pR n z y → tR n y := fun hf => tR_fr hf.1 (np _ (by omega)) (np _ (by omega)) (np _ (by omega)) (fun k hk => ⟨(hS k hk).1, (hS k hk).2, fun j hj => hM k j (Or.inl hk) hk hj⟩)
  have e97 : ∀ {y : ow_MS}, fB pR n z y → y.2.1 97 n = nI (gNN n) := fun hf => by rw [(hf.1 97 (np _ (by omega))).2.1]; exact hE.1
  have c12 : ∀ (d k : Nat) (y : ow_MS), k + d = gNN n → pN n k 0 y → fB pR n z y → Tt (fun K t => q_X13_makeSimples_a K t 12 (nI n) (nI k) 0 0 0 0 0 0 0 0 y) Q := by
    intro d
    induction d with
    | zero =>
      intro k y hk hp hf
      have e : k = gNN n := by omega
      subst e
      refine u_X13_makeSimples_a_12 ?_; unfold qm_X13_makeSimples_12_a
      rw [nI_1]
      refine w_rdI ma97 rfl (by omega) (e97 hf) (w_leT (by omega) (by omega) (H y ?_ (fB_mono hf (fun g hg => by unfold pR at hg; unfold pA; omega))))
      exact eN_fr hf.1 (np _ (by omega)) (np _ (by omega)) hE
    | succ d ih =>
      intro k y hk hp hf
      have hkN : k < gNN n := by omega
      have c13 : ∀ (dd j : Nat) (y : ow_MS), j + dd + 1 = n → pN n k j y → fB pR n z y → Tt (fun K t => q_X13_makeSimples_a K t 13 (nI n) (nI k) (nI j) 0 0 0 0 0 0 0 y) Q := by
        intro dd
        induction dd with
        | zero =>
          intro j y hj hp hf
          refine u_X13_makeSimples_a_13 ?_; unfold qm_X13_makeSimples_13_a
          rw [show nI n - 1 = nI (n - 1) from pk_sub (b := 1) (by omega), nI_1]
          refine w_leT (by omega) (by omega) (ih (k + 1) y (by omega) (fun l i h1 h3 h4 => hp l i ?_ h3 h4) hf)
          omega
        | succ dd ihd =>
          intro j y hj hp hf
          refine u_X13_makeSimples_a_13 ?_; unfold qm_X13_makeSimples_13_a
          rw [show nI n - 1 = nI (n - 1) from pk_sub (b := 1) (by omega), nI_1 j]
          refine w_leF (by omega) (by omega) (w_cs0 (tp_turnRound_a h2 h5 hkN (by omega) (tRz hf)) ?_)
          rintro y1 ⟨⟨r1, r2⟩, r3, r4⟩
          refine ihd (j + 1) y1 (by omega) (fun l i h1 h3 h4 => ?_) (fB_tr hf r4)
          by_cases e : l = k ∧ i = j
          · rw [e.1, e.2]
            exact ⟨r1, r2⟩
          · rw [r3 104 _ (Or.inl rfl) (by omega), r3 105 _ (Or.inr rfl) (by omega)]
            exact hp l i (by omega) h3 h4
      refine u_X13_makeSimples_a_12 ?_; unfold qm_X13_makeSimples_12_a
      exact w_rdI ma97 rfl (by omega) (e97 hf) (w_leF (by omega) (by omega) (c13 (n - 1) 0 y (by omega) hp hf))
  exact c12 (gNN n) 0 z (by omega) (fun l i h1 => by omega) fB_rf
theorem smE_2 {Q : ow_MS → Prop} {n : Nat} {z : ow_MS} (h2 : 2 ≤ n) (h5 : n ≤ 5) (h0 : z.2.1 100 (120 * n) = 0) (H : ∀ y, dE9 n y → fB pA n z y → Tt (fun K t => q_X13_makeSimples_a K t 1 (nI (n + 1)) 0 0 0 0 0 0 0 0 0 y) Q) : Tt (fun K t => q_X13_makeSimples_a K t 2 (nI n) 0 0 0 0 0 0 0 0 0 z) Q := by
  have hN := nn_pos (n := n)
  obtain ⟨z1, z2, z3⟩ := hh9 h2 h5
  have c2 : ∀ (d a : Nat) (y : ow_MS), a + d = n → fB (fun g => g = 98) n z y → (∀ s, s < a → y.2.1 98 (600 * n + s) = nI s) → Tt (fun K t => q_X13_makeSimples_a K t 2 (nI n) (nI a) 0 0 0 0 0 0 0 0 y) Q := by
    intro d
    induction d with
    | zero =>
      intro a y ha hf hy
      have ea : a = n := by omega
      subst ea
      refine u_X13_makeSimples_a_2 ?_; unfold qm_X13_makeSimples_2_a
      refine w_leT (by omega) (by omega) (w_wrI ma97 rfl (by omega) (sm_3 h2 h5 ⟨po_usI_at, fun k hk s hs => ?_⟩ (fun k hk => ⟨?_, fun i hi => ?_⟩) (fun y1 hE hS hM hf1 => w_cs0 (tp_makeTurned_a h2 h5 hE) (fun y2 h9 => ?_))))
      · rw [show k = 0 by omega, z3 s hs, show 5 * (120 * a + 0) + s = 600 * a + s by omega]
        exact rd_ot (by omega) (hy s hs)
      · rw [show k = 0 by omega, z2]
        refine rd_ot (by omega) ?_
        rw [Nat.add_zero, (hf.1 100 (by omega)).2.1]
        exact h0
      · rw [show k = 0 by omega, z2] at hi
        omega
      · obtain ⟨hT, hf2⟩ := h9
        have np : ∀ g, (97 ≤ g ∧ g ≤ 101) → ¬ pTu g := fun g hg h => by unfold pTu at h; omega
        refine smE_12 h2 h5 (eN_fr hf2.1 (np _ (by omega)) (np _ (by omega)) hE) (szN_fr hf2.1 (np _ (by omega)) (np _ (by omega)) hS) (mN_fr hf2.1 (np _ (by omega)) hM) hT (fun y3 hd hf3 => H y3 hd ?_)
        have f1 : fB pA a z (usI y 97 a 1) := fB_I2 (fB_mono hf (fun g hg => by unfold pA; omega)) (by unfold pA; omega) (by unfold inB; omega)
        exact fB_tr (fB_tr (fB_tr f1 (fB_mono hf1 (fun g hg => by unfold pS at hg; unfold pA; omega))) (fB_mono hf2 (fun g hg => by unfold pTu at hg; unfold pA; omega))) hf3
    | succ d ih =>
      intro a y ha hf hy
      refine u_X13_makeSimples_a_2 ?_; unfold qm_X13_makeSimples_2_a
      rw [show (600 : Int32) * nI n + nI a = nI (600 * n + a) from by rw [show (600 : Int32) * nI n = nI (600 * n) from pk_mul 600 _, nI_add], nI_1 a]
      refine w_leF (by omega) (by omega) (w_wrI ma98 rfl (by omega) (ih (a + 1) _ (by omega) (fB_I2 hf rfl (by unfold inB; omega)) (fun s hs => ?_)))
      by_cases e : s = a
      · rw [e]
        exact po_usI_at
      · exact rd_ne (by omega) (hy s (by omega))
  exact c2 n 0 z (by omega) fB_rf (fun s hs => by omega)
theorem tp_simE {z : ow_MS} (hz : ∀ n, n ≤ 5 → z.2.1 100 (120 * n) = 0) : Te (fun K => qe_X13_makeSimples_a K z) (fun z1 => (∀ n, 2 ≤ n → n ≤ 5 → dE9 n z1) ∧ fr pA z z1) := by
  let Q : ow_MS → Prop := fun z1 => (∀ n, 2 ≤ n → n ≤ 5 → dE9 n z1) ∧ fr pA z z1
  have key : ∀ (d n : Nat) (y : ow_MS), n + d = 6 → 2 ≤ n → (∀ m, 2 ≤ m → m < n → dE9 m y) → (∀ m, n ≤ m → m ≤ 5 → y.2.1 100 (120 * m) = 0) → fr pA z y → Tt (fun K t => q_X13_makeSimples_a K t 1 (nI n) 0 0 0 0 0 0 0 0 0 y) Q := by
    intro d
    induction d with
    | zero =>
      intro n y hn h2 hD h0 hf
      refine u_X13_makeSimples_a_1 ?_; unfold qm_X13_makeSimples_1_a
      exact w_ltT (a := 5) (by omega) (by omega) (w_some ⟨fun m h1 h3 => hD m h1 (by omega), hf⟩)
    | succ d ih =>
      intro n y hn h2 hD h0 hf
      refine u_X13_makeSimples_a_1 ?_; unfold qm_X13_makeSimples_1_a
      refine w_ltF (a := 5) (by omega) (by omega) (smE_2 h2 (by omega) (h0 n (by omega) (by omega)) (fun y1 hd hf1 => ih (n + 1) y1 (by omega) (by omega) (fun m h1 h3 => ?_) (fun m h1 h3 => ?_) (fr_tr hf hf1.1)))
      · by_cases e : m = n
        · rw [e]
          exact hd
        · exact dE_fB h1 (by omega) e hf1 (hD m h1 (by omega))
      · rw [hf1.2 100 _ (by unfold inB; omega)]
        exact h0 m (by omega) h3
  refine e_X13_makeSimples_a ?_
  refine u_X13_makeSimples_a_0 ?_; unfold qm_X13_makeSimples_0_a
  exact key 4 2 z (by omega) (by omega) (fun m h1 h3 => by omega) (fun m h1 h3 => hz m h3) fr_rf
end
section
/-! 99zzzzzzzzzzzzzzf.xst5 -/
/-! normal, factor, equal are steps of the law -/
section XSA
variable {Pc Pr : ow_MS → Prop}
theorem s3_normal (hc : keepP ciX Pc) (hr : keepP rfX Pr) : stpX Pc Pr lst_normal := by
  intro S x1 x2 x3 x4 x5 h pc pr
  have hc0 := rel_of (vl := S.1) (y := S.2.1) (z := S.2.2) (em := [(1, 1), (2, 2)]) (fc := fun K => ce_X11_normal S.1 K 0 x1 x2 S.2.1) (fm := fun K => qe_X13_normal K x1 x2 S.2.2) h.1 (c_normal (fun _ => XR_G) h.1.1 ) (fun K => ff_X13_normal) (fun K => ff_X11_normal) (by decide) (fun g hg h9 => by unfold ciH at h9; omega)
  have hn : Te (fun K => ce_X11_normal S.1 K 0 x1 x2 S.2.1) (fun rc => NM rc.2.2) := te_nmF (te_in hc0) (fun K => ff_X11_normal) (fun g hg h9 => by omega) h.2
  have hs0 : Te (lsV S.1 (fun K => ce_X11_normal S.1 K 0 x1 x2 S.2.1) (fun k z => if k = 1 then some (1, z) else if k = 2 then some (2, z) else none) (fun K => qe_X13_normal K x1 x2 S.2.2)) (fun S1 => REL S1 ∧ dPhi S.1 ≤ dPhi S1.1) := by
    refine st_int hc0 (fun j k hm => ?_)
    simp only [List.mem_cons, List.not_mem_nil, or_false, Prod.mk.injEq] at hm
    rcases hm with ⟨rfl, rfl⟩ | ⟨rfl, rfl⟩ <;> exact ⟨by decide, by decide, by decide, fun _ => rfl⟩
  have hmp : ∀ (k : Nat) (z : ow_MS) (r : Int32 × ow_MS), ((fun k z => if k = 1 then some (1, z) else if k = 2 then some (2, z) else none) : Nat → ow_MS → Option (Int32 × ow_MS)) k z = some r → r.2 = z := (fun k z r hr => by
    have hr : (if k = 1 then some (1, z) else if k = 2 then some (2, z) else none) = some r := hr
    by_cases c0 : k = 1
    · rw [if_pos c0] at hr
      cases hr
      rfl
    by_cases c1 : k = 2
    · rw [if_neg c0, if_pos c1] at hr
      cases hr
      rfl
    rw [if_neg c0, if_neg c1] at hr
    cases hr)
  have hs : Te (lsV S.1 (fun K => ce_X11_normal S.1 K 0 x1 x2 S.2.1) (fun k z => if k = 1 then some (1, z) else if k = 2 then some (2, z) else none) (fun K => qe_X13_normal K x1 x2 S.2.2)) (fun S1 => REL2 S1 ∧ dPhi S.1 ≤ dPhi S1.1) := w_monoE (lsV_nm hs0 hn hmp) (fun S1 ⟨⟨q1, q2⟩, q3⟩ => ⟨⟨q1, q3⟩, q2⟩)
  exact w_monoE (lsV_fo hs (fun K => ff_X11_normal) (fun K => ff_X13_normal) hmp) (fun S1 ⟨q, f1, f2⟩ => ⟨q, hc _ _ _ f1 (fun g hg h9 => by unfold ciX at h9; omega) pc, hr _ _ _ f2 (pf_rf (by decide)) pr⟩)
theorem s3_factor (hc : keepP ciX Pc) (hr : keepP rfX Pr) (hE : ∀ z, Pr z → enW z) : stpX Pc Pr lst_factor := by
  intro S x1 x2 x3 x4 x5 h pc pr
  have hc0 := rel_of (vl := S.1) (y := S.2.1) (z := S.2.2) (em := [(1, 1)]) (fc := fun K => ce_X11_factor S.1 K 0 x1 x2 x3 S.2.1) (fm := fun K => qe_X13_factor K x1 x2 x3 S.2.2) h.1 (c_factor (fun _ => XR_G) h.1.1 (hE _ pr)) (fun K => ff_X13_factor) (fun K => ff_X11_factor) (by decide) (fun g hg h9 => by unfold ciH at h9; omega)
  have hn : Te (fun K => ce_X11_factor S.1 K 0 x1 x2 x3 S.2.1) (fun rc => NM rc.2.2) := te_nmF (te_in hc0) (fun K => ff_X11_factor) (fun g hg h9 => by omega) h.2
  have hs0 : Te (lsV S.1 (fun K => ce_X11_factor S.1 K 0 x1 x2 x3 S.2.1) (fun k z => if k = 1 then some (1, z) else none) (fun K => qe_X13_factor K x1 x2 x3 S.2.2)) (fun S1 => REL S1 ∧ dPhi S.1 ≤ dPhi S1.1) := by
    refine st_int hc0 (fun j k hm => ?_)
    simp only [List.mem_cons, List.not_mem_nil, or_false, Prod.mk.injEq] at hm
    obtain ⟨rfl, rfl⟩ := hm
    exact ⟨by decide, by decide, by decide, fun _ => rfl⟩
  have hmp : ∀ (k : Nat) (z : ow_MS) (r : Int32 × ow_MS), ((fun k z => if k = 1 then some (1, z) else none) : Nat → ow_MS → Option (Int32 × ow_MS)) k z = some r → r.2 = z := (fun k z r hr => by
    have hr : (if k = 1 then some (1, z) else none) = some r := hr
    by_cases c0 : k = 1
    · rw [if_pos c0] at hr
      cases hr
      rfl
    rw [if_neg c0] at hr
    cases hr)
  have hs : Te (lsV S.1 (fun K => ce_X11_factor S.1 K 0 x1 x2 x3 S.2.1) (fun k z => if k = 1 then some (1, z) else none) (fun K => qe_X13_factor K x1 x2 x3 S.2.2)) (fun S1 => REL2 S1 ∧ dPhi S.1 ≤ dPhi S1.1) := w_monoE (lsV_nm hs0 hn hmp) (fun S1 ⟨⟨q1, q2⟩, q3⟩ => ⟨⟨q1, q3⟩, q2⟩)
  exact w_monoE (lsV_fo hs (fun K => ff_X11_factor) (fun K => ff_X13_factor) hmp) (fun S1 ⟨q, f1, f2⟩ => ⟨q, hc _ _ _ f1 (fun g hg h9 => by unfold ciX at h9; omega) pc, hr _ _ _ f2 (pf_rf (by decide)) pr⟩)
theorem s3_equal (hc : keepP ciX Pc) (hr : keepP rfX Pr) : stpX Pc Pr lst_equal := by
  intro S x1 x2 x3 x4 x5 h pc pr
  have hs0 := st_bool (vl := S.1) (y := S.2.1) (z := S.2.2) (fc := fun K => ce_X11_equal S.1 K 0 x1 x2 S.2.1) (fm := fun K => qe_X13_equal K x1 x2 S.2.2) h.1 (c_equal (fun _ => XR_G) h.1.1) (fun K => ff_X13_equal) (fun K => ff_X11_equal) (by decide) (fun g hg h9 => by unfold ciH at h9; omega)
  have hn : Te (fun K => ce_X11_equal S.1 K 0 x1 x2 S.2.1) (fun rc => NM rc.2) := w_monoE (te_fo (te_in (c_equal (fun _ => XR_G) h.1.1)) (fun K => ff_X11_equal)) (fun rc ⟨_, f⟩ => NM_fr f (fun g hg h9 => by omega) h.2)
  exact w_monoE (lsB_fo (w_monoE (lsB_nm hs0 hn) (fun S1 ⟨⟨q1, q2⟩, q3⟩ => (⟨⟨q1, q3⟩, q2⟩ : REL2 S1 ∧ dPhi S.1 ≤ dPhi S1.1))) (fun K => ff_X11_equal) (fun K => ff_X13_equal)) (fun S1 ⟨q, f1, f2⟩ => ⟨q, hc _ _ _ f1 (fun g hg h9 => by unfold ciX at h9; omega) pc, hr _ _ _ f2 (pf_rf (by decide)) pr⟩)
theorem en_init {m1 m2 : ow_MS} {b : Nat} (hb : ∀ K, b ≤ K → qe_X13_makeSimples_a K Z13 = some m1 ∧ qe_X13_makePermutations_a K m1 = some m2) : enW (usZ m2 blM) := by
  have h2 : ∀ g i, g ≠ 73 → Z13.2.1 g i = 0 := fun g i hg => by
    show (if g = 73 then fT13 else fun _ => 0) i = 0
    rw [if_neg hg]
  obtain ⟨r1, ⟨b1, hb1⟩, ⟨hD, hf1⟩⟩ := tp_simE (z := Z13) (fun n _ => h2 100 _ (by omega))
  have er1 : r1 = m1 := Option.some.inj ((hb1 (b + b1) (by omega)).symm.trans (hb (b + b1) (by omega)).1)
  subst er1
  have m1I : ∀ g i, ¬ (97 ≤ g ∧ g ≤ 107) → g ≠ 73 → r1.2.1 g i = 0 := fun g i hg h9 => by
    rw [(hf1 g hg).2.1]
    exact h2 g i h9
  obtain ⟨r2, ⟨b2, hb2⟩, -, hf2⟩ := tp_perms_a (z := r1) ⟨fun i => ⟨0, by omega, m1I 74 i (by omega) (by omega)⟩, fun m g1 g4 o p ho hp => ⟨⟨0, by omega, m1I 75 _ (by omega) (by omega)⟩, 0, by omega, m1I 76 _ (by omega) (by omega)⟩⟩
  have er2 : r2 = m2 := Option.some.inj ((hb2 (b + b2) (by omega)).symm.trans (hb (b + b2) (by omega)).2)
  subst er2
  intro n s j n2 n5 hs hj
  have e : (usZ r2 blM).2.1 98 = r1.2.1 98 := (uz_I (m := r2) (by omega)).trans (hf2 98 (by unfold pmP; omega)).2.1
  rw [e]
  exact (hD n n2 n5).2 s hs j hj
end XSA
end
section
/-! 99zzzzzzzzzzzzzzg.xst6 -/
/-! conway is a step of the law; what is left of the whole -/
section XSB
variable {vl : Nat → Nat} {y : ow_MS}
theorem te_in2 {O P : Type} {f : Nat → Option O} {g : Nat → Option P} {M : O → P → Prop} (h : Te f (fun a => Te g (fun b => M a b))) : Te g (fun b => ∃ a, M a b) := by
  obtain ⟨a, -, ⟨b, hb, hM⟩⟩ := h
  exact ⟨b, hb, a, hM⟩
theorem te_out {O P : Type} {f : Nat → Option O} {g : Nat → Option P} {M : O → P → Prop} (h : Te f (fun a => Te g (fun b => M a b))) : Te f (fun a => ∃ b, M a b) := by
  obtain ⟨a, ha, ⟨b, hb, hM⟩⟩ := h
  exact ⟨a, ha, b, hM⟩
theorem tc_unfK {g' p' s' c : Nat} {A : rn_L} {sg : Nat → Bool} (hg' : tH g' p') (hd : g' + 6 ≤ 24000) (hs' : s' < p') (hb : slC y g' s' (clC sg A)) (hA : okL A c) (hby : byR y (g' + 1)) (hk : knC y) (hl : lvS y) : Te (fun K => ce_X8_unfoldCode vl K 24000 g' (nI s') y) (fun y1 => ∀ D, cOK D → slC y 25000 1 D → slC y1 25000 1 D) := by
  obtain ⟨C, cc1, cc2⟩ := hk.2.1 0 (by omega)
  refine e_X8_unfoldCode ?_; unfold cm_X8_unfoldCode_0
  refine w_cs1 (tc_isKnown2 (s := 0) (by omega) hg' (by omega) hs' hb (okL_c hA).2 hby cc1 cc2) ?_
  rintro v y1 ⟨h1, k1, -, f1⟩
  dsimp only at h1 k1 f1
  have f1s : fr skP y y1 := fr_mono (fun g hg => by unfold cW at hg; unfold skP; omega) f1
  have l1 : lvS y1 := fun j hj => by
    obtain ⟨T, t1, t2⟩ := hl j hj
    exact ⟨T, cAt_fr f1 (fun g hg h9 => by unfold cP lv at hg; unfold cW at h9; omega) t1, t2⟩
  refine w_if (fun _ => ?_) (fun _ => w_some (fun D hD hs => k1 1 D (by omega) hD hs))
  refine w_cs0 (tc_fillA ch_24003 (by omega)) ?_
  rintro y2 ⟨-, f2⟩
  refine w_cs0 (tc_fillA ch_24004 (by omega)) ?_
  rintro y3 ⟨-, f3⟩
  have f13 : fr skP y1 y3 := fr_tr (fr_mono (fun g hg => by unfold skP; omega) f2) (fr_mono (fun g hg => by unfold skP; omega) f3)
  have f13a : fr (fun g => g = 24003 ∨ g = 24004) y1 y3 := fr_tr (fr_mono (fun g hg => by omega) f2) (fr_mono (fun g hg => by omega) f3)
  have l3 : lvS y3 := fun j hj => by
    obtain ⟨T, t1, t2⟩ := l1 j hj
    exact ⟨T, cAt_fr f13a (fun g hg h9 => by unfold cP lv at hg; omega) t1, t2⟩
  obtain ⟨T, t1, t2⟩ := l3 0 (by omega)
  have s3 : slC y3 g' s' (clC sg A) := slC_fr (fr_tr f1s f13) (fun q hq h9 => by unfold cW at hq; unfold skP at h9; omega) hb
  refine w_crX (j := 0) rfl (by omega) (w_cs0 (tc_load2 (lv_nH (L := 0) (by omega)) hg' (Or.inr (by omega)) hs' hA s3 t1 t2) ?_)
  rintro y4 ⟨⟨T1, q1, q2, q3⟩, f4⟩
  have n4 := q1.2.2.1
  have l4 : lvS y4 := lvS_fr (L := 0) f4 (fun g hg => Or.inl (cL_in hg)) ⟨T1, q1.1, n4.2.2.1⟩ l3
  refine w_cs0 (tc_unfold l4 q1.1 ⟨n4.1, n4.2.1, n4.2.2.1, by have := n4.2.2.2; omega⟩) ?_
  rintro y5 ⟨l5, f5⟩
  have f45 : fr (fun g => 24003 ≤ g ∧ g ≤ 24004 ∨ 26001 ≤ g ∧ g ≤ 38011) y1 y5 := fr_tr (fr_mono (fun g hg => by omega) f13a) (fr_tr (fr_mono (fun g hg => by unfold cL at hg; omega) f4) (fr_mono (fun g hg => by unfold unP at hg; omega) f5))
  exact w_some (fun D hD hs => slC_fr f45 (fun q hq h9 => by unfold cW at hq; omega) (k1 1 D (by omega) hD hs))
theorem tc_conK {x x' : Int32} (hM : gM y) (hk : knC y) : Te (fun K => ce_X11_conway vl K 0 x x' y) (fun r => ∀ D, cOK D → slC y 25000 1 D → slC r.2.2 25000 1 D) := by
  refine e_X11_conway ?_; unfold cm_X11_conway_0
  refine w_tc0 (tc_need hM.1.1) ?_ ?_
  · rintro y1 ⟨h1, rfl⟩
    rcases h1 with ⟨-, d, A, sg, c, hd, rfl, hs, hA, hne⟩ | h1
    · refine w_cs0 (tc_unfK ch_1000 (by omega) hd hs hA hM.1.1.1 hk (lvS_ns hM.1.2.1)) ?_
      rintro y2 k2
      refine w_cs1 tc_conwayAt ?_
      rintro v z ⟨e2, -⟩
      dsimp only at e2
      rw [e2]
      exact w_some k2
    · exact absurd (show (0 : Nat) = 1 from h1.1) (by decide)
  · rintro a y1 ha ⟨h1, rfl⟩
    exact w_some (fun D _ hs => hs)
/-- what the class keeps besides, where only the skein's rows changed -/
theorem CI_sk {y1 : ow_MS} (hf : fr skP y y1) (h1 : knC y1) (h2 : ∀ D, cOK D → slC y 25000 1 D → slC y1 25000 1 D) (h : CI vl y) : CI vl y1 := by
  obtain ⟨-, ⟨C, c1, c2, c3⟩, i3, i4, i5, i6, i7, i8⟩ := h
  have no : ∀ g, 24005 ≤ g ∧ g ≤ 25000 ∨ 38012 ≤ g → ¬ skP g := fun g hg h9 => by unfold skP at h9; omega
  refine ⟨h1, ⟨C, h2 C c2 c1, c2, c3.imp id (fun ⟨A, sg, c, q1, S, G, q2, q3, q4, q5⟩ => ⟨A, sg, c, q1, S, G, q2, (hf 40008 (no _ (by omega))).1.trans q3, (hf 24009 (no _ (by omega))).1.trans q4, fun k hk => by rw [(hf 24006 (no _ (by omega))).2.1]; exact q5 k hk⟩)⟩, bnC_fr hf (fun m hm => no _ (by omega)) i3, mpC_fr hf ⟨no _ (by omega), no _ (by omega), no _ (by omega)⟩ i4, ?_, fun m hm => ?_, fun i k hi hk => ?_, i8⟩
  · obtain ⟨k, k1, k2, k3⟩ := i5
    refine ⟨k, k1, by rw [(hf 41010 (no _ (by omega))).1]; exact k2, fun s hs => ?_⟩
    rw [(hf 41012 (no _ (by omega))).2.1, (hf 41013 (no _ (by omega))).2.1, (hf 41014 (no _ (by omega))).2.1]
    exact k3 s hs
  · rw [(hf 43005 (no _ (by omega))).2.1]
    exact i6 m hm
  · rw [(hf (45001 + i) (no _ (by omega))).2.1]
    exact i7 i k hi hk
variable {Pc Pr : ow_MS → Prop}
end XSB
end
section
/-! 99zzzzzzzzzzzzzzh.xmp0 -/
/-! permutations: the reference's tables as numbers, checked -/
def gPX (m : Nat) : Nat := if m = 4 then 0xe4e1d8d2c9c6b4b19c938d8778726c634e4b39362d271e1b else if m = 3 then 0xe4e1d8d2c9c6 else if m = 2 then 0xe4e1 else 0xe4
def gDN9 (m : Nat) : Nat := if m = 4 then 0xbdab49ca307b9ac5a928398a418820bda53a5630635cf214430054b424c7bcab3a5927599487b62c83823208a0bcad49d527428cb18444015af645d0bd6549d840204a363a2f834c85a547bd6d3a4840194244192b3a9cc7c5b0bd92818a305a8a47bab4005ac9c8c7bd843426302154b63653399cfa5420b892345aa0785d459624828d3649a7b8ac81a6a0a382f99a4c3b4ab24550ba4481da47619b322a2b814347d5c0ba6c340a479b4cca06af039445c4b0bca2c209277b42359ab301548a59d0bc84464527185af42ad4838cb9d4a0b8a2464aa0594d3785233b5d445950b8a4c246a0998aba3ac88282f1a5a7bc44c24ad0439541b52f384b35d4c0bc64460ad0a29c8996ab019a37a427bd62f5a440638c8206543a8a39d9b0bd52b7c440419cc196d383424a4947ba62b7d6472283461848039b31d8b0ba6af5c647a05449b6c3814cc409c0bc52f5d6d01b4b34384c0195424827bc6ab7a6d0995a3a2a44385c8608c0 else if m = 3 then 0xa41882000000000000000000000000a40044300000000000000000000000a01844400000000000000000000000a02082300000000000000000000000a30082400000000000000000000000a320440 else if m = 2 then 0x20000000000000000000000000000020 else 0x0
def gBK9 (m : Nat) : Nat := if m = 4 then 0xbdab49ca307b9ac5a928398a418820bda53a5630635cf214430054b424c7bcab3a5927599487b62c83823208a0bd6549d840204a363a2f834c85a547bcad49d527428cb18444015af645d0bd6d3a4840194244192b3a9cc7c5b0bd92818a305a8a47bab4005ac9c8c7bd843426302154b63653399cfa5420bca2c209277b42359ab301548a59d0bd62f5a440638c8206543a8a39d9b0bc84464527185af42ad4838cb9d4a0bd52b7c440419cc196d383424a4947b892345aa0785d459624828d3649a7ba4481da47619b322a2b814347d5c0b8a2464aa0594d3785233b5d445950ba62b7d6472283461848039b31d8b0bc44c24ad0439541b52f384b35d4c0bc52f5d6d01b4b34384c0195424827b8ac81a6a0a382f99a4c3b4ab24550ba6c340a479b4cca06af039445c4b0b8a4c246a0998aba3ac88282f1a5a7ba6af5c647a05449b6c3814cc409c0bc64460ad0a29c8996ab019a37a427bc6ab7a6d0995a3a2a44385c8608c0 else if m = 3 then 0xa41882000000000000000000000000a40044300000000000000000000000a01844400000000000000000000000a30082400000000000000000000000a02082300000000000000000000000a320440 else if m = 2 then 0x20000000000000000000000000000020 else 0x0
def pmX (m p : Nat) : Nat := dgN (gPX m) 8 p
def imP (m p a : Nat) : Nat := pmX m p / 4 ^ a % 4
def dnM (m o x : Nat) : Nat := dgN (gDN9 m) 5 (24 * o + x)
def bkM (m o x : Nat) : Nat := dgN (gBK9 m) 5 (24 * o + x)
def acO (m o x w : Nat) : Nat → Bool
  | 0 => true
  | a + 1 => acO m o x w a && decide (imP m w (imP m o a) = imP m o (imP m x a))
def acT (m o x w : Nat) : Nat → Bool
  | 0 => true
  | a + 1 => acT m o x w a && decide (imP m o (imP m w a) = imP m x (imP m o a))
def pmW (m : Nat) : Nat → Nat → Nat → Bool
  | 0, _, _ => true
  | d + 1, c, k => if pmA m c = true then (decide (pmX m k = c) && pmW m d (c + 1) (k + 1)) else pmW m d (c + 1) k
theorem pmW_c : pmW 1 256 0 0 = true ∧ pmW 2 256 0 0 = true ∧ pmW 3 256 0 0 = true ∧ pmW 4 256 0 0 = true := by decide +kernel
theorem pmW_n {m : Nat} (h1 : 1 ≤ m) (h4 : m ≤ 4) : pmW m 256 0 0 = true := by
  obtain ⟨a, b, c, d⟩ := pmW_c
  have : m = 1 ∨ m = 2 ∨ m = 3 ∨ m = 4 := by omega
  rcases this with rfl | rfl | rfl | rfl
  · exact a
  · exact b
  · exact c
  · exact d
theorem pmW_at {m : Nat} : ∀ (d c : Nat), pmW m d c (pmC m c) = true → ∀ c', c ≤ c' → c' < c + d → pmA m c' = true → pmX m (pmC m c') = c'
  | 0, c, _, c', h1, h3, _ => by omega
  | d + 1, c, h, c', h1, h3, hA => by
    rw [pmW] at h
    have e : pmC m (c + 1) = pmC m c + (if pmA m c = true then 1 else 0) := rfl
    by_cases q : pmA m c = true
    · rw [if_pos q] at h
      rw [if_pos q] at e
      obtain ⟨a1, a2⟩ := (Bool.and_eq_true _ _).mp h
      by_cases k : c' = c
      · rw [k]
        exact of_decide_eq_true a1
      · exact pmW_at d (c + 1) (by rw [e]; exact a2) c' (by omega) (by omega) hA
    · rw [if_neg q] at h
      rw [if_neg q, Nat.add_zero] at e
      by_cases k : c' = c
      · rw [k] at hA
        exact absurd hA q
      · exact pmW_at d (c + 1) (by rw [e]; exact h) c' (by omega) (by omega) hA
theorem pmX_at {m c : Nat} (h1 : 1 ≤ m) (h4 : m ≤ 4) (hc : c < 256) (hA : pmA m c = true) : pmX m (pmC m c) = c := pmW_at 256 0 (pmW_n h1 h4) c (Nat.zero_le _) (by omega) hA
def gAC (m o x w : Nat) : Bool := (acO m o x w m == decide (w = dnM m o x)) && (acT m o x w m == decide (w = bkM m o x)) && decide (dnM m o x < thM m) && decide (bkM m o x < thM m)
theorem ac_1 : ∀ o : Fin 1, ∀ x : Fin 1, ∀ w : Fin 1, gAC 1 o.val x.val w.val = true := by decide +kernel
theorem ac_2 : ∀ o : Fin 2, ∀ x : Fin 2, ∀ w : Fin 2, gAC 2 o.val x.val w.val = true := by decide +kernel
theorem ac_3 : ∀ o : Fin 6, ∀ x : Fin 6, ∀ w : Fin 6, gAC 3 o.val x.val w.val = true := by decide +kernel
theorem ac_4 : ∀ o : Fin 24, ∀ x : Fin 24, ∀ w : Fin 24, gAC 4 o.val x.val w.val = true := by decide +kernel
theorem ac_n {m o x w : Nat} (h1 : 1 ≤ m) (h4 : m ≤ 4) (ho : o < thM m) (hx : x < thM m) (hw : w < thM m) : (acO m o x w m = true ↔ w = dnM m o x) ∧ (acT m o x w m = true ↔ w = bkM m o x) ∧ dnM m o x < thM m ∧ bkM m o x < thM m := by
  have k : gAC m o x w = true := by
    have : m = 1 ∨ m = 2 ∨ m = 3 ∨ m = 4 := by omega
    rcases this with rfl | rfl | rfl | rfl
    · exact ac_1 ⟨o, ho⟩ ⟨x, hx⟩ ⟨w, hw⟩
    · exact ac_2 ⟨o, ho⟩ ⟨x, hx⟩ ⟨w, hw⟩
    · exact ac_3 ⟨o, ho⟩ ⟨x, hx⟩ ⟨w, hw⟩
    · exact ac_4 ⟨o, ho⟩ ⟨x, hx⟩ ⟨w, hw⟩
  unfold gAC at k
  simp only [Bool.and_eq_true, beq_iff_eq, decide_eq_true_eq] at k
  obtain ⟨⟨⟨a1, a2⟩, a3⟩, a4⟩ := k
  exact ⟨by rw [a1, decide_eq_true_eq], by rw [a2, decide_eq_true_eq], a3, a4⟩
end
section
/-! 99zzzzzzzzzzzzzzi.xmp1 -/
/-! permutations: the reference makes its tables as they should be -/
def e74 (y : ow_MS) (m n : Nat) : Prop := ∀ p a, p < n → a < 4 → y.2.1 74 (96 * m + 4 * p + a) = nI (imP m p a)
def e75 (y : ow_MS) (m o x : Nat) : Prop := ∀ o' x', o' < thM m → x' < thM m → (o' < o ∨ o' = o ∧ x' < x) → y.2.1 75 (576 * m + 24 * o' + x') = nI (dnM m o' x') ∧ y.2.1 76 (576 * m + 24 * o' + x') = nI (bkM m o' x')
def eP9 (y : ow_MS) (m : Nat) : Prop := e74 y m (thM m) ∧ e75 y m (thM m) 0
def bI9 (b : Bool) : Int32 := if b = true then 1 else 0
theorem bI_and {b : Bool} {c : Prop} [Decidable c] : bI9 b &&& (if c then 1 else 0) = bI9 (b && decide c) := by
  by_cases h : c <;> cases b <;> simp [bI9, h]
theorem bI_0 {b : Bool} (e : bI9 b = 0) : b = false := by
  cases b
  · rfl
  · exact absurd e (by decide)
theorem bI_1 {b : Bool} (e : bI9 b ≠ 0) : b = true := by
  cases b
  · exact absurd rfl e
  · rfl
theorem imP_4 {m p a : Nat} : imP m p a < 4 := Nat.mod_lt _ (by omega)
theorem e74_74 {y : ow_MS} {m m' n p a : Nat} {v : Int32} (hm : m' ≠ m) (hn : n ≤ 24) (hp : p < 24) (ha : a < 4) (h : e74 y m' n) : e74 (usI y 74 (96 * m + 4 * p + a) v) m' n := fun p' a' h1 h3 => rd_ne (by omega) (h p' a' h1 h3)
theorem e74_o {y : ow_MS} {m n g i : Nat} {v : Int32} (hg : g ≠ 74) (h : e74 y m n) : e74 (usI y g i v) m n := fun p' a' h1 h3 => rd_ot (Ne.symm hg) (h p' a' h1 h3)
theorem e75_o {y : ow_MS} {m o x i : Nat} {v : Int32} (h : e75 y m o x) : e75 (usI y 74 i v) m o x := fun o' x' h1 h3 h4 => ⟨rd_ot (by omega) (h o' x' h1 h3 h4).1, rd_ot (by omega) (h o' x' h1 h3 h4).2⟩
theorem e75_7 {y : ow_MS} {m m' o x o1 x1 g : Nat} {v : Int32} (hm : m' ≠ m ∨ m' = m ∧ o1 = o ∧ x1 = x) (ho : o < 24) (hx : x < 24) (h : e75 y m' o1 x1) : e75 (usI y g (576 * m + 24 * o + x) v) m' o1 x1 := fun o' x' h1 h3 h4 => by
  have := (thM_le m').2
  have k := h o' x' h1 h3 h4
  have ne : 576 * m' + 24 * o' + x' ≠ 576 * m + 24 * o + x := by
    rcases hm with hm | ⟨rfl, rfl, rfl⟩ <;> omega
  constructor
  · by_cases e : (75 : Nat) = g
    · subst e
      exact rd_ne ne k.1
    · exact rd_ot e k.1
  · by_cases e : (76 : Nat) = g
    · subst e
      exact rd_ne ne k.2
    · exact rd_ot e k.2
theorem tp_image_e {y : ow_MS} {m n p a : Nat} (hy : e74 y m n) (hm : m ≤ 4) (hp : p < n) (hn : n ≤ 24) (ha : a < 4) : Te (fun K => qe_X13_image_a K (nI m) (nI p) (nI a) y) (fun r => r.1 = nI (imP m p a) ∧ r.2 = y) := by
  refine e_X13_image_a ?_; unfold qm_X13_image_0_a
  exact w_rdI ma74 (by rw [show (96 : Int32) * nI m = nI (96 * m) from pk_mul 96 m, show (4 : Int32) * nI p = nI (4 * p) from pk_mul 4 p, nI_add, nI_add]) (by omega) (hy p a hp ha) (w_some ⟨rfl, rfl⟩)
theorem tp_permE {z : ow_MS} : Te (fun K => qe_X13_makePermutations_a K z) (fun z1 => (∀ m, 1 ≤ m → m ≤ 4 → eP9 z1 m) ∧ fr pmP z z1) := by
  let Q : ow_MS → Prop := fun z1 => (∀ m, 1 ≤ m → m ≤ 4 → eP9 z1 m) ∧ fr pmP z z1
  have key : ∀ (dm m : Nat) (y : ow_MS), m + dm = 5 → 1 ≤ m → (∀ m', 1 ≤ m' → m' < m → eP9 y m') → fr pmP z y → Tt (fun K t => q_X13_makePermutations_a K t 1 (nI m) 0 0 0 0 0 0 0 0 0 y) Q := by
    intro dm
    induction dm with
    | zero =>
      intro m y hm h1 hy hf
      refine u_X13_makePermutations_a_1 ?_; unfold qm_X13_makePermutations_1_a
      exact w_ltT (a := 4) (by omega) (by omega) (w_some ⟨fun m' a b => hy m' a (by omega), hf⟩)
    | succ dm ihm =>
      intro m y hm h1 hy hf
      have h4 : m ≤ 4 := by omega
      have hT := thM_le m
      have ac := fun o x w => ac_n (m := m) (o := o) (x := x) (w := w) h1 h4
      have e75d : ∀ {y : ow_MS} {o x}, e75 y m o x = ∀ o' x', o' < thM m → x' < thM m → (o' < o ∨ o' = o ∧ x' < x) → y.2.1 75 (576 * m + 24 * o' + x') = nI (dnM m o' x') ∧ y.2.1 76 (576 * m + 24 * o' + x') = nI (bkM m o' x') := rfl
      have ePd : ∀ {y : ow_MS}, eP9 y m = (e74 y m (thM m) ∧ e75 y m (thM m) 0) := rfl
      generalize hTT : thM m = T at hT ac e75d ePd
      let S : Nat → Nat → ow_MS → Prop := fun o x y' => (∀ m', 1 ≤ m' → m' < m → eP9 y' m') ∧ e74 y' m T ∧ e75 y' m o x ∧ fr pmP z y'
      let R : Nat → Nat → Nat → Nat → ow_MS → Prop := fun o x w1 w2 y' => S o x y' ∧ (dnM m o x < w1 → y'.2.1 75 (576 * m + 24 * o + x) = nI (dnM m o x)) ∧ (bkM m o x < w2 → y'.2.1 76 (576 * m + 24 * o + x) = nI (bkM m o x))
      have S7 : ∀ {o x g : Nat} {v : Int32} {y' : ow_MS}, o < T → x < T → (g = 75 ∨ g = 76) → S o x y' → S o x (usI y' g (576 * m + 24 * o + x) v) := fun {o x g v y'} ho hx hg h => by
        refine ⟨fun m' a b => ⟨e74_o (by omega) (h.1 m' a b).1, e75_7 (Or.inl (by omega)) (by omega) (by omega) (h.1 m' a b).2⟩, e74_o (by omega) h.2.1, e75_7 (Or.inr ⟨rfl, rfl, rfl⟩) (by omega) (by omega) h.2.2.1, fr_I2 h.2.2.2 (by unfold pmP; omega)⟩
      -- the three loops over o, x, y
      have c12 : ∀ (o x w : Nat), o < T → x < T → w < T → (∀ y', R o x (w + 1) (w + 1) y' → Tt (fun K t => q_X13_makePermutations_a K t 11 (nI m) (nI T) (nI o) (nI x) (nI (w + 1)) 0 0 0 0 0 y') Q) → ∀ (d a : Nat) (y' : ow_MS), a + d = m → R o x w w y' → Tt (fun K t => q_X13_makePermutations_a K t 12 (nI m) (nI T) (nI o) (nI x) (nI w) (bI9 (acO m o x w a)) (bI9 (acT m o x w a)) (nI a) 0 0 y') Q := by
        intro o x w ho hx hw K11 d
        obtain ⟨ac1, ac2, ac3, ac4⟩ := ac o x w ho hx hw
        have k16 : ∀ (x6 x7 x8 : Int32) (y' : ow_MS), R o x (w + 1) (w + 1) y' → Tt (fun K t => q_X13_makePermutations_a K t 16 (nI m) (nI T) (nI o) (nI x) (nI w) x6 x7 x8 0 0 y') Q := by
          intro x6 x7 x8 y' hy'
          refine u_X13_makePermutations_a_16 ?_; unfold qm_X13_makePermutations_16_a
          rw [nI_1]
          exact K11 y' hy'
        have k15 : ∀ (x6 x8 : Int32) (y' : ow_MS), R o x (w + 1) w y' → Tt (fun K t => q_X13_makePermutations_a K t 15 (nI m) (nI T) (nI o) (nI x) (nI w) x6 (bI9 (acT m o x w m)) x8 0 0 y') Q := by
          intro x6 x8 y' hy'
          refine u_X13_makePermutations_a_15 ?_; unfold qm_X13_makePermutations_15_a
          rw [pm576]
          refine w_if (fun e => k16 _ _ _ _ ⟨hy'.1, hy'.2.1, fun h9 => hy'.2.2 ?_⟩) (fun e => w_wrI ma76 rfl (by omega) (k16 _ _ _ _ ⟨S7 ho hx (Or.inr rfl) hy'.1, fun h9 => rd_ot (by omega) (hy'.2.1 h9), fun h9 => ?_⟩))
          · have : ¬ w = bkM m o x := fun h8 => by
              rw [ac2.mpr h8] at e
              exact absurd e (by decide)
            omega
          · have := ac2.mp (bI_1 e)
            rw [← this]
            exact po_usI_at
        induction d with
        | zero =>
          intro a y' ha hy'
          have ea : a = m := by omega
          rw [ea]
          refine u_X13_makePermutations_a_12 ?_; unfold qm_X13_makePermutations_12_a
          rw [pm576]
          refine w_leT (by omega) (by omega) (w_if (fun e => k15 _ _ _ ⟨hy'.1, fun h9 => hy'.2.1 ?_, hy'.2.2⟩) (fun e => w_wrI ma75 rfl (by omega) (k15 _ _ _ ⟨S7 ho hx (Or.inl rfl) hy'.1, fun h9 => ?_, fun h9 => rd_ot (by omega) (hy'.2.2 h9)⟩)))
          · have : ¬ w = dnM m o x := fun h8 => by
              rw [ac1.mpr h8] at e
              exact absurd e (by decide)
            omega
          · have := ac1.mp (bI_1 e)
            rw [← this]
            exact po_usI_at
        | succ d ih =>
          intro a y' ha hy'
          have g74 := hy'.1.2.1
          have im : ∀ {p a : Nat}, p < T → a < 4 → Te (fun K => qe_X13_image_a K (nI m) (nI p) (nI a) y') (fun r => r.1 = nI (imP m p a) ∧ r.2 = y') := fun hp ha => tp_image_e g74 h4 hp (by omega) ha
          have i4 : ∀ {p a : Nat}, imP m p a < 2 ^ 31 := fun {p a} => by have := imP_4 (m := m) (p := p) (a := a); omega
          have k14 : ∀ (x6 t0 : Int32), x6 = bI9 (acO m o x w (a + 1)) → t0 = (if imP m o (imP m w a) = imP m x (imP m o a) then 1 else 0) → Tt (fun K t => q_X13_makePermutations_a K t 14 (nI m) (nI T) (nI o) (nI x) (nI w) x6 (bI9 (acT m o x w a)) (nI a) t0 (bI9 (acT m o x w a)) y') Q := by
            intro x6 t0 e6 e0
            subst e6
            subst e0
            refine u_X13_makePermutations_a_14 ?_; unfold qm_X13_makePermutations_14_a
            rw [nI_1, bI_and]
            exact ih (a + 1) y' (by omega) hy'
          have k13 : ∀ (t0 : Int32), t0 = (if imP m w (imP m o a) = imP m o (imP m x a) then 1 else 0) → Tt (fun K t => q_X13_makePermutations_a K t 13 (nI m) (nI T) (nI o) (nI x) (nI w) (bI9 (acO m o x w a)) (bI9 (acT m o x w a)) (nI a) t0 (bI9 (acO m o x w a)) y') Q := by
            intro t0 e0
            subst e0
            refine u_X13_makePermutations_a_13 ?_; unfold qm_X13_makePermutations_13_a
            refine w_cs1 (im hw (by omega)) ?_
            rintro v y1 ⟨e2, e1⟩
            dsimp only at e1 e2
            rw [e1, e2]
            refine w_cs1 (im ho imP_4) ?_
            rintro v y1 ⟨e2, e1⟩
            dsimp only at e1 e2
            rw [e1, e2]
            refine w_cs1 (im ho (by omega)) ?_
            rintro v y1 ⟨e2, e1⟩
            dsimp only at e1 e2
            rw [e1, e2]
            refine w_cs1 (im hx imP_4) ?_
            rintro v y1 ⟨e2, e1⟩
            dsimp only at e1 e2
            rw [e1, e2, bI_and]
            exact w_eqN i4 i4 (fun e => k14 _ _ rfl (if_pos e).symm) (fun e => k14 _ _ rfl (if_neg e).symm)
          refine u_X13_makePermutations_a_12 ?_; unfold qm_X13_makePermutations_12_a
          refine w_leF (by omega) (by omega) ?_
          refine w_cs1 (im ho (by omega)) ?_
          rintro v y1 ⟨e2, e1⟩
          dsimp only at e1 e2
          rw [e1, e2]
          refine w_cs1 (im hw imP_4) ?_
          rintro v y1 ⟨e2, e1⟩
          dsimp only at e1 e2
          rw [e1, e2]
          refine w_cs1 (im hx (by omega)) ?_
          rintro v y1 ⟨e2, e1⟩
          dsimp only at e1 e2
          rw [e1, e2]
          refine w_cs1 (im ho imP_4) ?_
          rintro v y1 ⟨e2, e1⟩
          dsimp only at e1 e2
          rw [e1, e2]
          exact w_eqN i4 i4 (fun e => k13 _ (if_pos e).symm) (fun e => k13 _ (if_neg e).symm)
      have c11 : ∀ (o x : Nat), o < T → x < T → (∀ y', S o (x + 1) y' → Tt (fun K t => q_X13_makePermutations_a K t 10 (nI m) (nI T) (nI o) (nI (x + 1)) 0 0 0 0 0 0 y') Q) → ∀ (d w : Nat) (y' : ow_MS), w + d = T → R o x w w y' → Tt (fun K t => q_X13_makePermutations_a K t 11 (nI m) (nI T) (nI o) (nI x) (nI w) 0 0 0 0 0 y') Q := by
        intro o x ho hx K10 d
        induction d with
        | zero =>
          intro w y' hw hy'
          obtain ⟨ac1, ac2, ac3, ac4⟩ := ac o x 0 ho hx (by omega)
          refine u_X13_makePermutations_a_11 ?_; unfold qm_X13_makePermutations_11_a
          rw [nI_1]
          refine w_leT (by omega) (by omega) (K10 y' ⟨hy'.1.1, hy'.1.2.1, ?_, hy'.1.2.2.2⟩)
          rw [e75d]
          intro o' x' g1 g2 g3
          by_cases e : o' = o ∧ x' = x
          · rw [e.1, e.2]
            exact ⟨hy'.2.1 (by omega), hy'.2.2 (by omega)⟩
          · have k := hy'.1.2.2.1
            rw [e75d] at k
            exact k o' x' g1 g2 (by omega)
        | succ d ih =>
          intro w y' hw hy'
          refine u_X13_makePermutations_a_11 ?_; unfold qm_X13_makePermutations_11_a
          exact w_leF (by omega) (by omega) (c12 o x w ho hx (by omega) (fun y2 h2 => ih (w + 1) y2 (by omega) h2) m 0 y' (by omega) hy')
      have c10 : ∀ (o : Nat), o < T → (∀ y', S (o + 1) 0 y' → Tt (fun K t => q_X13_makePermutations_a K t 9 (nI m) (nI T) (nI (o + 1)) 0 0 0 0 0 0 0 y') Q) → ∀ (d x : Nat) (y' : ow_MS), x + d = T → S o x y' → Tt (fun K t => q_X13_makePermutations_a K t 10 (nI m) (nI T) (nI o) (nI x) 0 0 0 0 0 0 y') Q := by
        intro o ho K9 d
        induction d with
        | zero =>
          intro x y' hx hy'
          refine u_X13_makePermutations_a_10 ?_; unfold qm_X13_makePermutations_10_a
          rw [nI_1]
          refine w_leT (by omega) (by omega) (K9 y' ⟨hy'.1, hy'.2.1, ?_, hy'.2.2.2⟩)
          rw [e75d]
          intro o' x' g1 g2 g3
          have k := hy'.2.2.1
          rw [e75d] at k
          exact k o' x' g1 g2 (by omega)
        | succ d ih =>
          intro x y' hx hy'
          refine u_X13_makePermutations_a_10 ?_; unfold qm_X13_makePermutations_10_a
          exact w_leF (by omega) (by omega) (c11 o x ho (by omega) (fun y2 h2 => ih (x + 1) y2 (by omega) h2) T 0 y' (by omega) ⟨hy', fun h9 => absurd h9 (Nat.not_lt_zero _), fun h9 => absurd h9 (Nat.not_lt_zero _)⟩)
      have c9 : ∀ (d o : Nat) (y' : ow_MS), o + d = T → S o 0 y' → Tt (fun K t => q_X13_makePermutations_a K t 9 (nI m) (nI T) (nI o) 0 0 0 0 0 0 0 y') Q := by
        intro d
        induction d with
        | zero =>
          intro o y' ho hy'
          have eo : o = T := by omega
          refine u_X13_makePermutations_a_9 ?_; unfold qm_X13_makePermutations_9_a
          rw [nI_1]
          refine w_leT (by omega) (by omega) (ihm (m + 1) y' (by omega) (by omega) (fun m' a b => ?_) hy'.2.2.2)
          by_cases em : m' = m
          · rw [em, ePd]
            exact ⟨hy'.2.1, by rw [← eo]; exact hy'.2.2.1⟩
          · exact hy'.1 m' a (by omega)
        | succ d ih =>
          intro o y' ho hy'
          refine u_X13_makePermutations_a_9 ?_; unfold qm_X13_makePermutations_9_a
          exact w_leF (by omega) (by omega) (c10 o (by omega) (fun y2 h2 => ih (o + 1) y2 (by omega) h2) T 0 y' (by omega) hy')
      let V : Nat → ow_MS → Prop := fun n y' => (∀ m', 1 ≤ m' → m' < m → eP9 y' m') ∧ e74 y' m n ∧ fr pmP z y'
      -- the codes
      have c2 : ∀ (d c : Nat) (y' : ow_MS), c + d = 256 → V (pmC m c) y' → Tt (fun K t => q_X13_makePermutations_a K t 2 (nI m) (nI (pmC m c)) (nI c) 0 0 0 0 0 0 0 y') Q := by
        intro d
        induction d with
        | zero =>
          intro c y' hc hy'
          have e : c = 256 := by omega
          subst e
          refine u_X13_makePermutations_a_2 ?_; unfold qm_X13_makePermutations_2_a
          rw [pmC_th h1 h4, hTT]
          rw [pmC_th h1 h4, hTT] at hy'
          exact w_leT (a := 256) (by omega) (by omega) (c9 T 0 y' (by omega) ⟨hy'.1, hy'.2.1, fun o' x' _ _ g3 => by omega, hy'.2.2⟩)
        | succ d ih =>
          intro c y' hc hy'
          have k8 : ∀ (x2 x4 x5 : Int32) (y2 : ow_MS), x2 = nI (pmC m (c + 1)) → V (pmC m (c + 1)) y2 → Tt (fun K t => q_X13_makePermutations_a K t 8 (nI m) x2 (nI c) x4 x5 0 0 0 0 0 y2) Q := by
            intro x2 x4 x5 y2 e h2
            subst e
            refine u_X13_makePermutations_a_8 ?_; unfold qm_X13_makePermutations_8_a
            rw [nI_1]
            exact ih (c + 1) y2 (by omega) h2
          have k7 : pmA m c = true → ∀ (dd a : Nat) (x4 : Int32) (y2 : ow_MS), a + dd = 4 → V (pmC m c) y2 → (∀ a', a' < a → y2.2.1 74 (96 * m + 4 * pmC m c + a') = nI (imP m (pmC m c) a')) → Tt (fun K t => q_X13_makePermutations_a K t 7 (nI m) (nI (pmC m c)) (nI c) x4 (nI a) 0 0 0 0 0 y2) Q := by
            intro hA dd
            have hlt := pmC_lt h1 h4 (show c < 256 by omega) hA
            rw [hTT] at hlt
            induction dd with
            | zero =>
              intro a x4 y2 ha h2 h3
              have ec : pmC m (c + 1) = pmC m c + 1 := by
                show pmC m c + (if pmA m c = true then 1 else 0) = _
                rw [if_pos hA]
              refine u_X13_makePermutations_a_7 ?_; unfold qm_X13_makePermutations_7_a
              refine w_leT (a := 4) (by omega) (by omega) (k8 _ _ _ _ ?_ ⟨h2.1, ?_, h2.2.2⟩)
              · rw [nI_1, ec]
              · rw [ec]
                intro p' a' g1 g2
                by_cases e : p' = pmC m c
                · rw [e]
                  exact h3 a' (by omega)
                · exact h2.2.1 p' a' (by omega) g2
            | succ dd ihd =>
              intro a x4 y2 ha h2 h3
              have e : sP (nI c) (nI a) = nI (c / 4 ^ a % 4) := sP_c ⟨c, by omega⟩ ⟨a, by omega⟩
              have ei : imP m (pmC m c) a = c / 4 ^ a % 4 := by
                unfold imP
                rw [pmX_at h1 h4 (by omega) hA]
              unfold sP at e
              refine u_X13_makePermutations_a_7 ?_; unfold qm_X13_makePermutations_7_a
              rw [pm96, e, nI_1 a, ← ei]
              refine w_leF (a := 4) (by omega) (by omega) (w_wrI ma74 rfl (by omega) (ihd (a + 1) x4 _ (by omega) ⟨fun m' g1 g2 => ⟨e74_74 (by omega) (thM_le m').2 (by omega) (by omega) (h2.1 m' g1 g2).1, e75_o (h2.1 m' g1 g2).2⟩, fun p' a' g1 g2 => rd_ne (by omega) (h2.2.1 p' a' g1 g2), fr_I2 h2.2.2 (Or.inl rfl)⟩ (fun a' g1 => ?_)))
              by_cases e9 : a' = a
              · rw [e9]
                exact po_usI_at
              · exact rd_ne (by omega) (h3 a' (by omega))
          have k3 : ∀ (dd a : Nat) (x4 : Int32), a + dd = 4 → pmO m c dd a x4 = pmO m c 4 0 1 → Tt (fun K t => q_X13_makePermutations_a K t 3 (nI m) (nI (pmC m c)) (nI c) x4 (nI a) 0 0 0 0 0 y') Q := by
            intro dd
            induction dd with
            | zero =>
              intro a x4 ha e
              have e : x4 = pmO m c 4 0 1 := e
              refine u_X13_makePermutations_a_3 ?_; unfold qm_X13_makePermutations_3_a
              refine w_leT (a := 4) (by omega) (by omega) (w_if (fun h0 => ?_) (fun h0 => ?_))
              · have ec : pmC m (c + 1) = pmC m c := by
                  show pmC m c + (if pmA m c = true then 1 else 0) = _
                  rw [if_neg (fun h9 => (of_decide_eq_true h9) (e ▸ h0))]
                  rfl
                exact k8 _ _ _ _ (by rw [ec]) (by rw [ec]; exact hy')
              · exact k7 (decide_eq_true (fun h9 => h0 (e.trans h9))) 4 0 _ _ (by omega) hy' (fun a' g1 => absurd g1 (Nat.not_lt_zero _))
            | succ dd ihd =>
              intro a x4 ha e
              have k5 : ∀ (e5 b : Nat) (x4' : Int32), b + e5 = a → pmO m c dd (a + 1) (pmI (nI c) (sP (nI c) (nI a)) e5 b x4') = pmO m c 4 0 1 → Tt (fun K t => q_X13_makePermutations_a K t 5 (nI m) (nI (pmC m c)) (nI c) x4' (nI a) (sP (nI c) (nI a)) (nI b) 0 0 0 y') Q := by
                intro e5
                induction e5 with
                | zero =>
                  intro b x4' hb e'
                  refine u_X13_makePermutations_a_5 ?_; unfold qm_X13_makePermutations_5_a
                  rw [nI_1]
                  exact w_leT (by omega) (by omega) (ihd (a + 1) x4' (by omega) e')
                | succ e5 ih5 =>
                  intro b x4' hb e'
                  have e' : pmO m c dd (a + 1) (pmI (nI c) (sP (nI c) (nI a)) e5 (b + 1) (x4' &&& (if sP (nI c) (nI b) = sP (nI c) (nI a) then 0 else 1))) = pmO m c 4 0 1 := e'
                  have k6 : ∀ (t0 : Int32), t0 = (if sP (nI c) (nI b) = sP (nI c) (nI a) then 0 else 1) → Tt (fun K t => q_X13_makePermutations_a K t 6 (nI m) (nI (pmC m c)) (nI c) x4' (nI a) (sP (nI c) (nI a)) (nI b) 0 t0 x4' y') Q := by
                    intro t0 ht
                    subst ht
                    refine u_X13_makePermutations_a_6 ?_; unfold qm_X13_makePermutations_6_a
                    rw [nI_1]
                    exact ih5 (b + 1) _ (by omega) e'
                  refine u_X13_makePermutations_a_5 ?_; unfold qm_X13_makePermutations_5_a
                  refine w_leF (by omega) (by omega) (w_if (fun h9 => k6 _ ?_) (fun h9 => k6 _ ?_))
                  · exact (if_pos h9).symm
                  · exact (if_neg h9).symm
              have e : pmO m c dd (a + 1) (pmI (nI c) (sP (nI c) (nI a)) a 0 (x4 &&& (if nI m ≤ nI a then (if sP (nI c) (nI a) = nI a then 1 else 0) else (if nI m ≤ sP (nI c) (nI a) then 0 else 1)))) = pmO m c 4 0 1 := e
              have k4 : ∀ (t0 : Int32), t0 = (if nI m ≤ nI a then (if sP (nI c) (nI a) = nI a then 1 else 0) else (if nI m ≤ sP (nI c) (nI a) then 0 else 1)) → Tt (fun K t => q_X13_makePermutations_a K t 4 (nI m) (nI (pmC m c)) (nI c) x4 (nI a) (sP (nI c) (nI a)) 0 0 t0 x4 y') Q := by
                intro t0 ht
                subst ht
                refine u_X13_makePermutations_a_4 ?_; unfold qm_X13_makePermutations_4_a
                exact k5 a 0 _ (by omega) e
              refine u_X13_makePermutations_a_3 ?_; unfold qm_X13_makePermutations_3_a
              refine w_leF (a := 4) (by omega) (by omega) (w_if (fun h9 => w_if (fun h8 => k4 _ ?_) (fun h8 => k4 _ ?_)) (fun h9 => w_if (fun h8 => k4 _ ?_) (fun h8 => k4 _ ?_)))
              · exact ((if_pos h9).trans (if_pos h8)).symm
              · exact ((if_pos h9).trans (if_neg h8)).symm
              · exact ((if_neg h9).trans (if_pos h8)).symm
              · exact ((if_neg h9).trans (if_neg h8)).symm
          refine u_X13_makePermutations_a_2 ?_; unfold qm_X13_makePermutations_2_a
          exact w_leF (a := 256) (by omega) (by omega) (k3 4 0 1 (by omega) rfl)
      refine u_X13_makePermutations_a_1 ?_; unfold qm_X13_makePermutations_1_a
      exact w_ltF (a := 4) (by omega) (by omega) (c2 256 0 y (by omega) ⟨hy, fun p a h9 => absurd h9 (Nat.not_lt_zero _), hf⟩)
  refine e_X13_makePermutations_a ?_
  refine u_X13_makePermutations_a_0 ?_; unfold qm_X13_makePermutations_0_a
  exact key 4 1 z (by omega) (by omega) (fun m' a b => by omega) fr_rf
end
section
/-! 99zzzzzzzzzzzzzzj.xmp2 -/
/-! permutations: the class's tables; how its numbers go with the reference's -/
def lpA9 (x2 : Int32) : Int32 := ((((((1 : Int32) <<< (((3 - (x2 &&& 3)) : Int32) &&& 31)) ||| ((1 : Int32) <<< (((3 - (((x2 : Int32) >>> ((2 : Int32) &&& 31)) &&& 3)) : Int32) &&& 31))) ||| ((1 : Int32) <<< (((3 - (((x2 : Int32) >>> ((4 : Int32) &&& 31)) &&& 3)) : Int32) &&& 31))) ||| ((1 : Int32) <<< (((3 - ((x2 : Int32) >>> ((6 : Int32) &&& 31))) : Int32) &&& 31))))
def lpV (x2 : Int32) : Int32 := ((((3 - (x2 &&& 3)) ||| (((3 - (((x2 : Int32) >>> ((2 : Int32) &&& 31)) &&& 3)) : Int32) <<< ((4 : Int32) &&& 31))) ||| (((3 - (((x2 : Int32) >>> ((4 : Int32) &&& 31)) &&& 3)) : Int32) <<< ((8 : Int32) &&& 31))) ||| (((3 - ((x2 : Int32) >>> ((6 : Int32) &&& 31))) : Int32) <<< ((12 : Int32) &&& 31)))
def gPK9 : Nat := 0x12301320213023103120321102310321203123013021320201320312103213023012310301230213102312032013210
def gCJ9 : Nat := 0xbc6ab7a6d0995a3a2a44385c8608c0858b31b6375d52f249543844c438c0ba6af5c647a05449b6c3814cc409c03c834229377d62b1d9b381448619c0834a39d947206545a62fbd4c8638403a824a49b0196d37c52bbd5cc41840859c8a2a3760a447a5a3386ab994c0bc44c24ad0439541b52f384b35d4c0829d4459a77852364a24b88d3596a03b42f1a550a3ac82464cb88ab99aa0bc84464527185af42ad4838cb9d4a03a4237b65720a2ca594883ab3598a03c8cc9b53740ac35c544816afa05c0ba4481da47619b322a2b814347d5c03b4d3649505962445923b89d4786a0828ab245a799a4c1a6c8b882fa3aa0bd843426302154b63653399cfa5420844a45aad7189289c9ac39ab47b8203a8c85a5b063a2f9da54bd4a320440835cc7c5474192ba4ad3bd424194403a4cb42a579d6d4645af83844184a0bcab3a5927599487b62c83823208a0845cf636d7a56534254b3984321420bdab49ca307b9ac5a928398a418820
def gIV9 : Nat := 0xbc6af5a6d0a39489b64c398a320820
def gBJ9 (m : Nat) : Nat := if m = 4 then 0x443214c74254b635cf84653a56d7 else if m = 3 then 0x110c85 else if m = 2 then 0x1 else 0x0
def pk9 (k : Nat) : Int32 := nI (dgN gPK9 16 k)
def cjG (o x : Nat) : Nat := dgN gCJ9 5 (24 * o + x)
def ivC (o : Nat) : Nat := dgN gIV9 5 o
def bjM (m p : Nat) : Nat := dgN (gBJ9 m) 5 p
def lpC : Nat → Nat
  | 0 => 0
  | c + 1 => lpC c + (if lpA9 (nI c) = 15 then 1 else 0)
def lpW : Nat → Nat → Nat → Bool
  | 0, _, k => decide (k = 24)
  | d + 1, c, k => if lpA9 (nI c) = 15 then (decide (pk9 k = lpV (nI c)) && decide (k < 24) && lpW d (c + 1) (k + 1)) else lpW d (c + 1) k
theorem lpW_c : lpW 256 0 0 = true := by decide +kernel
theorem lpW_at : ∀ (d c : Nat), lpW d c (lpC c) = true → (∀ c', c ≤ c' → c' < c + d → lpA9 (nI c') = 15 → pk9 (lpC c') = lpV (nI c') ∧ lpC c' < 24) ∧ lpC (c + d) = 24
  | 0, c, h => ⟨fun c' h1 h3 _ => by omega, of_decide_eq_true h⟩
  | d + 1, c, h => by
    rw [lpW] at h
    have e : lpC (c + 1) = lpC c + (if lpA9 (nI c) = 15 then 1 else 0) := rfl
    have ed : c + 1 + d = c + (d + 1) := by omega
    by_cases q : lpA9 (nI c) = 15
    · rw [if_pos q] at h
      rw [if_pos q] at e
      obtain ⟨a1, a2⟩ := (Bool.and_eq_true _ _).mp h
      obtain ⟨a3, a4⟩ := (Bool.and_eq_true _ _).mp a1
      obtain ⟨i1, i2⟩ := lpW_at d (c + 1) (by rw [e]; exact a2)
      refine ⟨fun c' h1 h3 hA => ?_, by rw [← ed]; exact i2⟩
      by_cases k : c' = c
      · rw [k]
        exact ⟨of_decide_eq_true a3, of_decide_eq_true a4⟩
      · exact i1 c' (by omega) (by omega) hA
    · rw [if_neg q] at h
      rw [if_neg q, Nat.add_zero] at e
      obtain ⟨i1, i2⟩ := lpW_at d (c + 1) (by rw [e]; exact h)
      refine ⟨fun c' h1 h3 hA => ?_, by rw [← ed]; exact i2⟩
      by_cases k : c' = c
      · rw [k] at hA
        exact absurd hA q
      · exact i1 c' (by omega) (by omega) hA
def cjW (o x : Int32) : Nat → Int32
  | 0 => 0
  | j + 1 => cjW o x j ||| (foJ o (foJ x (nI j)) <<< (((4 * foJ o (nI j)) : Int32) &&& 31))
theorem cj_c : ∀ o : Fin 24, ∀ x : Fin 24, cjW (pk9 o.val) (pk9 x.val) 4 = pk9 (cjG o.val x.val) ∧ cjG o.val x.val < 24 := by decide +kernel
theorem iv_c : ∀ o : Fin 24, foV (pk9 o.val) 4 = pk9 (ivC o.val) ∧ ivC o.val < 24 := by decide +kernel
theorem pk_i9 : ∀ o : Fin 24, ∀ x : Fin 24, pk9 o.val = pk9 x.val → o.val = x.val := by decide +kernel
def gBT (m o x : Nat) : Bool := decide (bjM m o < thM m) && decide (cjG (bjM m o) (bjM m x) = bjM m (dnM m o x)) && decide (cjG (ivC (bjM m o)) (bjM m x) = bjM m (bkM m o x)) && (decide (bjM m o = bjM m x) == decide (o = x))
theorem bt_1 : ∀ o : Fin 1, ∀ x : Fin 1, gBT 1 o.val x.val = true := by decide +kernel
theorem bt_2 : ∀ o : Fin 2, ∀ x : Fin 2, gBT 2 o.val x.val = true := by decide +kernel
theorem bt_3 : ∀ o : Fin 6, ∀ x : Fin 6, gBT 3 o.val x.val = true := by decide +kernel
theorem bt_4 : ∀ o : Fin 24, ∀ x : Fin 24, gBT 4 o.val x.val = true := by decide +kernel
theorem bt_n {m o x : Nat} (h1 : 1 ≤ m) (h4 : m ≤ 4) (ho : o < thM m) (hx : x < thM m) : bjM m o < thM m ∧ cjG (bjM m o) (bjM m x) = bjM m (dnM m o x) ∧ cjG (ivC (bjM m o)) (bjM m x) = bjM m (bkM m o x) ∧ (bjM m o = bjM m x ↔ o = x) := by
  have k : gBT m o x = true := by
    have : m = 1 ∨ m = 2 ∨ m = 3 ∨ m = 4 := by omega
    rcases this with rfl | rfl | rfl | rfl
    · exact bt_1 ⟨o, ho⟩ ⟨x, hx⟩
    · exact bt_2 ⟨o, ho⟩ ⟨x, hx⟩
    · exact bt_3 ⟨o, ho⟩ ⟨x, hx⟩
    · exact bt_4 ⟨o, ho⟩ ⟨x, hx⟩
  unfold gBT at k
  simp only [Bool.and_eq_true, beq_iff_eq, decide_eq_true_eq, decide_eq_decide] at k
  exact ⟨k.1.1.1, k.1.1.2, k.1.2, k.2⟩
section XMQ
variable {z : ow_MS}
theorem ti_permE : Te (fun K => ce_X0_listPermutations_b0 K 53001 z) (fun z1 => (∀ k, k < 24 → z1.2.1 53001 k = pk9 k) ∧ fr (fun g => g = 53001) z z1) := by
  let Q : ow_MS → Prop := fun z1 => (∀ k, k < 24 → z1.2.1 53001 k = pk9 k) ∧ fr (fun g => g = 53001) z z1
  obtain ⟨w1, w2⟩ := lpW_at 256 0 lpW_c
  have mono : ∀ d c, lpC c ≤ lpC (c + d) := by
    intro d
    induction d with
    | zero => exact fun c => Nat.le_refl _
    | succ d ih => exact fun c => Nat.le_trans (ih c) (by show _ ≤ lpC (c + d) + _; omega)
  have c1 : ∀ (d m : Nat) (y : ow_MS), m + d = 256 → (∀ k, k < lpC m → y.2.1 53001 k = pk9 k) → fr (fun g => g = 53001) z y → Tt (fun K t => c_X0_listPermutations_b0 K t 1 (nI (lpC m)) (nI m) 0 0 0 0 53001 y) Q := by
    intro d
    induction d with
    | zero =>
      intro m y hm hk hf
      have e : m = 0 + 256 := by omega
      rw [e, w2] at hk
      refine u_X0_listPermutations_b0_1 ?_; unfold cm_X0_listPermutations_1_b0
      exact w_leT (a := 256) (by omega) (by omega) (w_some ⟨hk, hf⟩)
    | succ d ih =>
      intro m y hm hk hf
      have ec : lpC (m + 1) = lpC m + (if lpA9 (nI m) = 15 then 1 else 0) := rfl
      have b24 : lpC m ≤ 24 := by
        have := mono (256 - m) m
        rw [show m + (256 - m) = 0 + 256 by omega, w2] at this
        exact this
      have c2 : ∀ (k : Nat) (a b c e : Int32) (y : ow_MS), k = lpC (m + 1) → (∀ k, k < lpC (m + 1) → y.2.1 53001 k = pk9 k) → fr (fun g => g = 53001) z y → Tt (fun K t => c_X0_listPermutations_b0 K t 2 (nI k) (nI m) a b c e 53001 y) Q := by
        intro k a b c e y hk1 hk hf
        refine u_X0_listPermutations_b0_2 ?_; unfold cm_X0_listPermutations_2_b0
        rw [nI_1, hk1]
        exact ih (m + 1) y (by omega) hk hf
      refine u_X0_listPermutations_b0_1 ?_; unfold cm_X0_listPermutations_1_b0
      rw [show nI (lpC m) + 1 = nI (lpC m + 1) from nI_1 _]
      refine w_leF (a := 256) (by omega) (by omega) (w_le (a := 24) (by omega) (by omega) (fun h24 => w_some ⟨fun k hk1 => hk k (by omega), hf⟩) (fun h24 => w_if (fun e => ?_) (fun e => ?_)))
      · have e : lpA9 (nI m) = 15 := e
        rw [if_pos e] at ec
        obtain ⟨v1, v2⟩ := w1 m (Nat.zero_le _) (by omega) e
        refine w_ctI ch_0r rfl (show lpC m < 24 by omega) (c2 (lpC m + 1) _ _ _ _ _ ec.symm (fun k hk1 => ?_) (fr_I2 hf rfl))
        by_cases ek : k = lpC m
        · rw [ek, po_usI_at]
          exact v1.symm
        · rw [po_usI_ne ek]
          exact hk k (by omega)
      · have e : ¬ lpA9 (nI m) = 15 := e
        rw [if_neg e, Nat.add_zero] at ec
        exact c2 (lpC m) _ _ _ _ _ ec.symm (fun k hk1 => hk k (by omega)) hf
  refine e_X0_listPermutations_b0 ?_
  refine u_X0_listPermutations_b0_0 ?_; unfold cm_X0_listPermutations_0_b0
  exact c1 256 0 z (by omega) (fun k hk => absurd hk (Nat.not_lt_zero _)) fr_rf
theorem ti_indexE {k : Nat} (hk : k < 24) (hz : ∀ k, k < 24 → z.2.1 53001 k = pk9 k) : Te (fun K => ce_X0_indexOf_b0 K 53001 (pk9 k) z) (fun r => r.1 = nI k ∧ r.2 = z) := by
  let Q : Int32 × ow_MS → Prop := fun r => r.1 = nI k ∧ r.2 = z
  have hl : (Int32.ofNat (uw_len cT0 z 53001)) = nI 24 := by
    show nI (cT0.2 53001).2.1 = nI 24
    rw [ch_0r]
  have c1 : ∀ (d m : Nat), m + d = k → Tt (fun K t => c_X0_indexOf_b0 K t 1 (pk9 k) (nI m) 53001 z) Q := by
    intro d
    induction d with
    | zero =>
      intro m hm
      have em : m = k := by omega
      subst em
      refine u_X0_indexOf_b0_1 ?_; unfold cm_X0_indexOf_1_b0
      rw [hl]
      exact w_leF (by omega) (by omega) (w_crI ch_0r rfl (show m < 24 by omega) (hz m hk) (w_ifT rfl (w_some ⟨rfl, rfl⟩)))
    | succ d ih =>
      intro m hm
      refine u_X0_indexOf_b0_1 ?_; unfold cm_X0_indexOf_1_b0
      rw [hl, nI_1]
      refine w_leF (by omega) (by omega) (w_crI ch_0r rfl (show m < 24 by omega) (hz m (by omega)) (w_ifF (fun e => ?_) (ih (m + 1) (by omega))))
      have := pk_i9 ⟨m, by omega⟩ ⟨k, hk⟩ e
      have : m = k := this
      omega
  refine e_X0_indexOf_b0 ?_
  refine u_X0_indexOf_b0_0 ?_; unfold cm_X0_indexOf_0_b0
  exact c1 k 0 (by omega)
theorem ti_imageE {a b : Int32} : Te (fun K => ce_X5_image_b0 K a b z) (fun r => r.1 = foJ a b ∧ r.2 = z) := by
  refine e_X5_image_b0 ?_; unfold cm_X5_image_0_b0
  exact w_some ⟨rfl, rfl⟩
theorem ti_invertE {a : Int32} : Te (fun K => ce_X5_invert_b0 K a 4 z) (fun r => r.1 = foV a 4 ∧ r.2 = z) := by
  have c1 : ∀ (d m : Nat), m + d = 4 → Tt (fun K t => c_X5_invert_b0 K t 1 a 4 (foV a m) (nI m) z) (fun r => r.1 = foV a 4 ∧ r.2 = z) := by
    intro d
    induction d with
    | zero =>
      intro m hm
      have em : m = 4 := by omega
      subst em
      refine u_X5_invert_b0_1 ?_; unfold cm_X5_invert_1_b0
      exact w_leT (a := 4) (by omega) (by omega) (w_some ⟨rfl, rfl⟩)
    | succ d ih =>
      intro m hm
      refine u_X5_invert_b0_1 ?_; unfold cm_X5_invert_1_b0
      refine w_leF (a := 4) (by omega) (by omega) (w_cs1 ti_imageE (fun v y1 ⟨e0, e⟩ => ?_))
      have e : y1 = z := e
      have e0 : v = foJ a (nI m) := e0
      rw [e, e0, nI_1]
      exact ih (m + 1) (by omega)
  refine e_X5_invert_b0 ?_
  refine u_X5_invert_b0_0 ?_; unfold cm_X5_invert_0_b0
  exact c1 4 0 (by omega)
/-- the class's tables -/
def cjT (y : ow_MS) : Prop := (∀ o x, o < 24 → x < 24 → y.2.1 41006 (24 * o + x) = nI (cjG o x)) ∧ ∀ o, o < 24 → y.2.1 41007 o = nI (ivC o)
theorem ti_b0E : Te (fun K => ce_X0i_b0 K 41000 53001 z) cjT := by
  let I : Nat → Nat → ow_MS → Prop := fun m n y => (∀ o x, o < 24 → x < 24 → (o < m ∨ o = m ∧ x < n) → y.2.1 41006 (24 * o + x) = nI (cjG o x)) ∧ (∀ o, o < m → y.2.1 41007 o = nI (ivC o)) ∧ ∀ k, k < 24 → y.2.1 53001 k = pk9 k
  have c1 : ∀ (d m : Nat) (y : ow_MS), m + d = 24 → I m 0 y → Tt (fun K t => c_X0i_b0 K t 1 (nI m) 0 0 0 41000 53001 y) cjT := by
    intro d
    induction d with
    | zero =>
      intro m y hm hI
      have e : m = 24 := by omega
      subst e
      refine u_X0i_b0_1 ?_; unfold cm_X0i_1_b0
      exact w_leT (a := 24) (by omega) (by omega) (w_some ⟨fun o x ho hx => hI.1 o x ho hx (Or.inl ho), fun o ho => hI.2.1 o ho⟩)
    | succ d ih =>
      intro m y hm hI
      have c2 : ∀ (e n : Nat) (y : ow_MS), n + e = 24 → I m n y → Tt (fun K t => c_X0i_b0 K t 2 (nI m) (nI n) 0 0 41000 53001 y) cjT := by
        intro e
        induction e with
        | zero =>
          intro n y hn hI
          have e : n = 24 := by omega
          subst e
          obtain ⟨v1, v2⟩ := iv_c ⟨m, by omega⟩
          refine u_X0i_b0_2 ?_; unfold cm_X0i_2_b0
          refine w_leT (a := 24) (by omega) (by omega) (w_crI ch_0r rfl (show m < 24 by omega) (hI.2.2 m (by omega)) (w_cs1 ti_invertE (fun v y1 ⟨e0, e⟩ => ?_)))
          have e : y1 = y := e
          have e0 : v = foV (pk9 m) 4 := e0
          rw [e, e0, show foV (pk9 m) 4 = pk9 (ivC m) from v1]
          refine w_cs1 (ti_indexE v2 hI.2.2) (fun v y2 ⟨k2, e⟩ => ?_)
          have e : y2 = y := e
          have k2 : v = nI (ivC m) := k2
          rw [e, k2, nI_1]
          refine w_ctB ch_07 rfl (show m < 24 by omega) ?_
          rw [nar_24 ⟨ivC m, v2⟩]
          refine ih (m + 1) _ (by omega) ⟨fun o x ho hx h9 => rd_ot (by omega) (hI.1 o x ho hx (by omega)), fun o ho => ?_, fun k hk => rd_ot (by omega) (hI.2.2 k hk)⟩
          by_cases e9 : o = m
          · rw [e9]
            exact po_usI_at
          · exact rd_ne e9 (hI.2.1 o (by omega))
        | succ e ihe =>
          intro n y hn hI
          have hm24 : m < 24 := by omega
          have hn24 : n < 24 := by omega
          obtain ⟨v1, v2⟩ := cj_c ⟨m, hm24⟩ ⟨n, hn24⟩
          have c3 : ∀ (e5 q : Nat), q + e5 = 4 → Tt (fun K t => c_X0i_b0 K t 3 (nI m) (nI n) (cjW (pk9 m) (pk9 n) q) (nI q) 41000 53001 y) cjT := by
            intro e5
            induction e5 with
            | zero =>
              intro q hq
              have eq : q = 4 := by omega
              subst eq
              refine u_X0i_b0_3 ?_; unfold cm_X0i_3_b0
              rw [show cjW (pk9 m) (pk9 n) 4 = pk9 (cjG m n) from v1]
              refine w_leT (a := 4) (by omega) (by omega) (w_cs1 (ti_indexE v2 hI.2.2) (fun v y2 ⟨k2, e⟩ => ?_))
              have e : y2 = y := e
              have k2 : v = nI (cjG m n) := k2
              rw [e, k2, nI_1, show (24 : Int32) * nI m = nI (24 * m) from pk_mul 24 m, nI_add]
              refine w_ctB ch_06 rfl (show 24 * m + n < 576 by omega) ?_
              rw [nar_24 ⟨cjG m n, v2⟩]
              refine ihe (n + 1) _ (by omega) ⟨fun o x ho hx h9 => ?_, fun o ho => rd_ot (by omega) (hI.2.1 o ho), fun k hk => rd_ot (by omega) (hI.2.2 k hk)⟩
              by_cases e9 : o = m ∧ x = n
              · rw [e9.1, e9.2]
                exact po_usI_at
              · exact rd_ne (by omega) (hI.1 o x ho hx (by omega))
            | succ e5 ih5 =>
              intro q hq
              refine u_X0i_b0_3 ?_; unfold cm_X0i_3_b0
              refine w_leF (a := 4) (by omega) (by omega) (w_crI ch_0r rfl hm24 (hI.2.2 m hm24) (w_cs1 ti_imageE (fun w1 y1 ⟨e0, e⟩ => ?_)))
              have e : y1 = y := e
              have e0 : w1 = foJ (pk9 m) (nI q) := e0
              rw [e, e0]
              refine w_crI ch_0r rfl hm24 (hI.2.2 m hm24) (w_crI ch_0r rfl hn24 (hI.2.2 n hn24) (w_cs1 ti_imageE (fun w2 y2 ⟨e0, e⟩ => ?_)))
              have e : y2 = y := e
              have e0 : w2 = foJ (pk9 n) (nI q) := e0
              rw [e, e0]
              refine w_cs1 ti_imageE (fun w3 y3 ⟨e0, e⟩ => ?_)
              have e : y3 = y := e
              have e0 : w3 = foJ (pk9 m) (foJ (pk9 n) (nI q)) := e0
              rw [e, e0, nI_1]
              exact ih5 (q + 1) (by omega)
          refine u_X0i_b0_2 ?_; unfold cm_X0i_2_b0
          exact w_leF (a := 24) (by omega) (by omega) (c3 4 0 (by omega))
      refine u_X0i_b0_1 ?_; unfold cm_X0i_1_b0
      exact w_leF (a := 24) (by omega) (by omega) (c2 24 0 y (by omega) hI)
  refine e_X0i_b0 ?_
  refine u_X0i_b0_0 ?_; unfold cm_X0i_0_b0
  exact w_cs0 ti_permE (fun y ⟨hp, _⟩ => c1 24 0 y (by omega) ⟨fun o x _ _ h9 => by omega, fun o ho => absurd ho (Nat.not_lt_zero _), hp⟩)
end XMQ
end
section
/-! 99zzzzzzzzzzzzzzk.xmp3 -/
/-! counting: a property that just n things have -/
def cnt9 {α : Type} (Φ : α → Prop) (n : Nat) : Prop := ∃ Ls : List α, Ls.Nodup ∧ (∀ L, L ∈ Ls ↔ Φ L) ∧ Ls.length = n
def sm9 (f : Nat → Nat) : Nat → Nat
  | 0 => 0
  | k + 1 => sm9 f k + f k
section CNT
variable {α β : Type} {Φ Ψ : α → Prop} {n : Nat}
theorem cnt_uni [DecidableEq α] {n' : Nat} (h : cnt9 Φ n) (h' : cnt9 Φ n') : n = n' := by
  obtain ⟨l, a1, a2, a3⟩ := h
  obtain ⟨l', b1, b2, b3⟩ := h'
  have k1 := nodup_le l l' a1 (fun x hx => (b2 x).mpr ((a2 x).mp hx))
  have k2 := nodup_le l' l b1 (fun x hx => (a2 x).mpr ((b2 x).mp hx))
  omega
theorem cnt_cg (e : ∀ L, Φ L ↔ Ψ L) (h : cnt9 Φ n) : cnt9 Ψ n := by
  obtain ⟨l, a1, a2, a3⟩ := h
  exact ⟨l, a1, fun L => (a2 L).trans (e L), a3⟩
theorem cnt_0 (h : ∀ L, ¬ Φ L) : cnt9 Φ 0 := ⟨[], List.nodup_nil, fun L => ⟨fun h9 => absurd h9 List.not_mem_nil, fun h9 => absurd h9 (h L)⟩, rfl⟩
theorem cnt_1 {L0 : α} (h : ∀ L, Φ L ↔ L = L0) : cnt9 Φ 1 := ⟨[L0], List.nodup_cons.mpr ⟨List.not_mem_nil, List.nodup_nil⟩, fun L => by rw [List.mem_singleton]; exact (h L).symm, rfl⟩
theorem cnt_bij {Θ : β → Prop} (f : α → β) (hf : ∀ x, Φ x → Θ (f x)) (hi : ∀ x y, Φ x → Φ y → f x = f y → x = y) (hs : ∀ y, Θ y → ∃ x, Φ x ∧ f x = y) (h : cnt9 Φ n) : cnt9 Θ n := by
  obtain ⟨l, a1, a2, a3⟩ := h
  refine ⟨l.map f, ?_, fun y => ?_, by rw [List.length_map]; exact a3⟩
  · have key : ∀ l : List α, l.Nodup → (∀ x, x ∈ l → Φ x) → (l.map f).Nodup := by
      intro l
      induction l with
      | nil => exact fun _ _ => List.nodup_nil
      | cons a l ih =>
        intro hn hx
        obtain ⟨n1, n2⟩ := List.nodup_cons.mp hn
        refine List.nodup_cons.mpr ⟨fun h9 => ?_, ih n2 (fun x h9 => hx x (List.mem_cons_of_mem _ h9))⟩
        obtain ⟨b, b1, b2⟩ := List.mem_map.mp h9
        have := hi b a (hx b (List.mem_cons_of_mem _ b1)) (hx a List.mem_cons_self) b2
        rw [this] at b1
        exact n1 b1
    exact key l a1 (fun x hx => (a2 x).mp hx)
  · rw [List.mem_map]
    constructor
    · rintro ⟨x, x1, rfl⟩
      exact hf x ((a2 x).mp x1)
    · intro hy
      obtain ⟨x, x1, x2⟩ := hs y hy
      exact ⟨x, (a2 x).mpr x1, x2⟩
theorem cnt_or {n' : Nat} (hd : ∀ L, Φ L → Ψ L → False) (h : cnt9 Φ n) (h' : cnt9 Ψ n') : cnt9 (fun L => Φ L ∨ Ψ L) (n + n') := by
  obtain ⟨l, a1, a2, a3⟩ := h
  obtain ⟨l', b1, b2, b3⟩ := h'
  refine ⟨l ++ l', List.nodup_append.mpr ⟨a1, b1, fun x hx y hy e => ?_⟩, fun L => ?_, by rw [List.length_append, a3, b3]⟩
  · rw [← e] at hy
    exact hd x ((a2 x).mp hx) ((b2 x).mp hy)
  · rw [List.mem_append]
    exact or_congr (a2 L) (b2 L)
theorem cnt_sm {Φ : Nat → α → Prop} {f : Nat → Nat} (hd : ∀ L p q, Φ p L → Φ q L → p = q) : ∀ (k : Nat), (∀ p, p < k → cnt9 (Φ p) (f p)) → cnt9 (fun L => ∃ p, p < k ∧ Φ p L) (sm9 f k)
  | 0, _ => cnt_0 (fun L ⟨p, hp, _⟩ => absurd hp (Nat.not_lt_zero _))
  | k + 1, h => by
    have ih := cnt_sm hd k (fun p hp => h p (by omega))
    refine cnt_cg (fun L => ?_) (cnt_or (fun L ⟨p, p1, p2⟩ q => ?_) ih (h k (by omega)))
    · constructor
      · rintro (⟨p, p1, p2⟩ | h9)
        · exact ⟨p, by omega, p2⟩
        · exact ⟨k, by omega, h9⟩
      · rintro ⟨p, p1, p2⟩
        by_cases e : p = k
        · rw [e] at p2
          exact Or.inr p2
        · exact Or.inl ⟨p, by omega, p2⟩
    · have := hd L p k p2 q
      omega
end CNT
end
section
/-! 99zzzzzzzzzzzzzzl.xmp4 -/
/-! maps: the reference gives and takes back -/
section XM4
variable {z : ow_MS}
theorem xp_give {a m b q : Nat} {T : List Nat} (ha : a ≤ 18) (hI : mgI z a m T) (hb : b < a) (hn : b ∉ T) : Te (fun K => qe_X13_give K (nI b) (nI q) z) (fun z1 => z1.2.1 77 b = nI q ∧ ∀ b', b' ≠ b → z1.2.1 77 b' = z.2.1 77 b') := by
  have hr := mgI_room hI hb hn
  obtain ⟨h1, -⟩ := hI
  refine e_X13_give ?_; unfold qm_X13_give_0
  exact w_wrI ml77 rfl (by omega) (w_rdF (x := nI T.length) h1 (w_wrI ml78 rfl (by omega) (w_rdF (x := nI T.length) h1 (w_wrF (w_some ⟨rd_ot (by omega) po_usI_at, fun b' hb' => rd_ot (by omega) (rd_ne hb' rfl)⟩)))))
theorem xp_takeBack {a m k : Nat} (ha : a ≤ 18) : ∀ {z : ow_MS} {T E : List Nat}, mgI z a m (T ++ E) → T.length = k → Te (fun K => qe_X13_takeBack K (nI k) z) (fun z1 => (mgI z1 a m T ∧ fr gvH z z1) ∧ ∀ b, b ∈ T → z1.2.1 77 b = z.2.1 77 b) := by
  intro z T E hI hk
  have key : ∀ (d : Nat) (E : List Nat) (y : ow_MS), E.length = d → mgI y a m (T ++ E) → fr gvH z y → (∀ b, b ∈ T → y.2.1 77 b = z.2.1 77 b) → Tt (fun K i => q_X13_takeBack K i 0 (nI k) y) (fun z1 => (mgI z1 a m T ∧ fr gvH z z1) ∧ ∀ b, b ∈ T → z1.2.1 77 b = z.2.1 77 b) := by
    intro d
    induction d with
    | zero =>
      intro E y hE hI hf hu
      have hE : E = [] := List.length_eq_zero_iff.mp hE
      subst hE
      rw [List.append_nil] at hI
      have := mgI_len hI
      refine u_X13_takeBack_0 ?_; unfold qm_X13_takeBack_0
      exact w_rdF hI.1 (w_leT (by omega) (by omega) (w_some ⟨⟨hI, hf⟩, hu⟩))
    | succ d ih =>
      intro E y hE hI hf hu
      have hlen := mgI_len hI
      rw [List.length_append] at hlen
      obtain ⟨F, b, rfl⟩ : ∃ F b, E = F ++ [b] := by
        rcases List.eq_nil_or_concat E with h9 | ⟨F, b, h9⟩
        · rw [h9] at hE
          cases hE
        · exact ⟨F, b, by rw [h9, List.concat_eq_append]⟩
      rw [List.length_append] at hE hlen
      have hE : F.length + 1 = d + 1 := hE
      have hlen : T.length + (F.length + 1) ≤ a := hlen
      obtain ⟨h1, h2, h3, h4, h5⟩ := hI
      rw [← List.append_assoc] at h1 h2 h3 h4 h5
      have hb : b < a := h3 b (List.mem_append_right _ (List.mem_singleton.mpr rfl))
      have hL : ((T ++ F) ++ [b]).length = T.length + F.length + 1 := by
        rw [List.length_append, List.length_append]
        rfl
      rw [hL] at h1
      have h78 := h4 (T.length + F.length) b (by rw [List.getElem?_append_right (by rw [List.length_append]; exact Nat.le_refl _), List.length_append, Nat.sub_self]; rfl)
      have hnb : b ∉ T ++ F := fun h9 => (List.nodup_append.mp h2).2.2 b h9 b (List.mem_singleton.mpr rfl) rfl
      have e79 : nI (T.length + F.length + 1) - 1 = nI (T.length + F.length) := pk_sub (b := 1) (by omega)
      refine u_X13_takeBack_0 ?_; unfold qm_X13_takeBack_0
      refine w_rdF h1 (w_leF (by omega) (by omega) (w_rdF h1 (w_wrF (w_rdF (x := nI (T.length + F.length)) (po_usF_at.trans e79) (w_rdI ml78 rfl (by omega) h78 (w_wrI ml77 rfl (by omega) (ih F _ (by omega) ⟨?_, (List.nodup_append.mp h2).1, fun c hc => h3 c (List.mem_append_left _ hc), fun i c hc => ?_, fun c hc => ?_⟩ (fr_I2 (fr_F2 hf (by unfold gvH; omega)) (by unfold gvH; omega)) (fun c hc => rd_ne (fun e => hnb (e ▸ List.mem_append_left _ hc)) (hu c hc)))))))))
      · show (usF y 79 (nI (T.length + F.length + 1) - 1)).1 79 = _
        rw [po_usF_at, e79, List.length_append]
      · show (usI (usF y 79 (nI (T.length + F.length + 1) - 1)) 77 b (-1)).2.1 78 i = nI c
        refine rd_ot (by omega) (h4 i c ?_)
        rw [List.getElem?_append_left (List.getElem?_eq_some_iff.mp hc).1]
        exact hc
      · show (c ∉ T ++ F ∧ (usI (usF y 79 (nI (T.length + F.length + 1) - 1)) 77 b (-1)).2.1 77 c = -1) ∨ (c ∈ T ++ F ∧ ∃ q, q < thM m ∧ (usI (usF y 79 (nI (T.length + F.length + 1) - 1)) 77 b (-1)).2.1 77 c = nI q)
        by_cases hcb : c = b
        · rw [hcb]
          exact Or.inl ⟨hnb, po_usI_at⟩
        · rcases h5 c hc with ⟨k1, k2⟩ | ⟨k1, q, k3, k4⟩
          · exact Or.inl ⟨fun h9 => k1 (List.mem_append_left _ h9), rd_ne hcb k2⟩
          · refine Or.inr ⟨?_, q, k3, rd_ne hcb k4⟩
            rcases List.mem_append.mp k1 with h8 | h8
            · exact h8
            · exact absurd (by simpa using h8) hcb
  refine e_X13_takeBack ?_
  exact key E.length E z rfl hI fr_rf (fun _ _ => rfl)
end XM4
end
section
/-! 99zzzzzzzzzzzzzzm.xmp5 -/
/-! maps: the reference follows what is given -/
def opM (m : Nat) (s : Bool) (o p : Nat) : Nat := if s = true then bkM m o p else dnM m o p
def gIB (m o p : Nat) : Bool := decide (bkM m o (dnM m o p) = p) && decide (dnM m o (bkM m o p) = p)
theorem ib_1 : ∀ o : Fin 1, ∀ p : Fin 1, gIB 1 o.val p.val = true := by decide +kernel
theorem ib_2 : ∀ o : Fin 2, ∀ p : Fin 2, gIB 2 o.val p.val = true := by decide +kernel
theorem ib_3 : ∀ o : Fin 6, ∀ p : Fin 6, gIB 3 o.val p.val = true := by decide +kernel
theorem ib_4 : ∀ o : Fin 24, ∀ p : Fin 24, gIB 4 o.val p.val = true := by decide +kernel
theorem ib_n {m o p : Nat} (h1 : 1 ≤ m) (h4 : m ≤ 4) (ho : o < thM m) (hp : p < thM m) (s : Bool) : opM m (!s) o (opM m s o p) = p ∧ opM m s o p < thM m := by
  have k : gIB m o p = true := by
    have : m = 1 ∨ m = 2 ∨ m = 3 ∨ m = 4 := by omega
    rcases this with rfl | rfl | rfl | rfl
    · exact ib_1 ⟨o, ho⟩ ⟨p, hp⟩
    · exact ib_2 ⟨o, ho⟩ ⟨p, hp⟩
    · exact ib_3 ⟨o, ho⟩ ⟨p, hp⟩
    · exact ib_4 ⟨o, ho⟩ ⟨p, hp⟩
  unfold gIB at k
  simp only [Bool.and_eq_true, decide_eq_true_eq] at k
  have b := (ac_n (m := m) (o := o) (x := p) (w := p) h1 h4 ho hp hp).2.2
  cases s
  · exact ⟨k.1, b.1⟩
  · exact ⟨k.2, b.2⟩
/-- the arcs, the part, the tables -/
def arX (y : ow_MS) (c a : Nat) (ov iv fv : Nat → Nat) : Prop := ∀ x, x < c → (y.2.1 61 x = nI (ov x) ∧ ov x < a) ∧ (y.2.1 62 x = nI (iv x) ∧ iv x < a) ∧ y.2.1 63 x = nI (fv x) ∧ fv x < a
def pY9 (y : ow_MS) (c : Nat) (pt : Nat → Bool) : Prop := ∀ x, x < c → y.2.1 80 x = bI9 (pt x)
def mcX (y : ow_MS) (n m : Nat) (A : rn_L) (sg : Nat → Bool) (c a : Nat) (ov iv fv : Nat → Nat) (pt : Nat → Bool) : Prop := oNet y n A sg ∧ arX y c a ov iv fv ∧ e75 y m (thM m) 0 ∧ pY9 y c pt
def usP (c : Nat) (ov iv fv : Nat → Nat) (pt : Nat → Bool) (b : Nat) : Prop := ∃ x, x < c ∧ pt x = true ∧ (b = ov x ∨ b = iv x ∨ b = fv x)
def slM (m c a : Nat) (sg : Nat → Bool) (ov iv fv : Nat → Nat) (pt : Nat → Bool) (L : List Nat) : Prop := L.length = a ∧ (∀ b q, L[b]? = some q → q < thM m ∧ (¬ usP c ov iv fv pt b → q = 0)) ∧ ∀ x, x < c → pt x = true → ∀ o i j, L[ov x]? = some o → L[iv x]? = some i → L[fv x]? = some j → j = opM m (sg x) o i
def exT (y : ow_MS) (m : Nat) (T L : List Nat) : Prop := ∀ b q, b ∈ T → q < thM m → y.2.1 77 b = nI q → L[b]? = some q
def clX (y : ow_MS) (m : Nat) (sg : Nat → Bool) (ov iv fv : Nat → Nat) (pt : Nat → Bool) (U : List Nat) (x : Nat) : Prop := pt x = true → ov x ∈ U → (iv x ∈ U ↔ fv x ∈ U) ∧ ∀ o i j, o < thM m → i < thM m → j < thM m → iv x ∈ U → y.2.1 77 (ov x) = nI o → y.2.1 77 (iv x) = nI i → y.2.1 77 (fv x) = nI j → j = opM m (sg x) o i
section XM5
variable {z : ow_MS}
theorem mcX_fr {n m c a : Nat} {y y1 : ow_MS} {A : rn_L} {sg : Nat → Bool} {ov iv fv : Nat → Nat} {pt : Nat → Bool} (hn : mw_net n) (hf : fr gvH y y1) (h : mcX y n m A sg c a ov iv fv pt) : mcX y1 n m A sg c a ov iv fv pt := by
  have no : ∀ g, ¬ (77 ≤ g ∧ g ≤ 79) → ¬ gvH g := fun g hg => hg
  refine ⟨oNet_fr hf (fun g hg => by have := net_mod hn; unfold gvH at hg; omega) h.1, fun x hx => ?_, fun o x ho hx hl => ?_, fun x hx => ?_⟩
  · rw [(hf 61 (no _ (by omega))).2.1, (hf 62 (no _ (by omega))).2.1, (hf 63 (no _ (by omega))).2.1]
    exact h.2.1 x hx
  · rw [(hf 75 (no _ (by omega))).2.1, (hf 76 (no _ (by omega))).2.1]
    exact h.2.2.1 o x ho hx hl
  · rw [(hf 80 (no _ (by omega))).2.1]
    exact h.2.2.2 x hx
theorem exT_g {y y1 : ow_MS} {m b q : Nat} {T L : List Nat} (hq : q < thM m) (h1 : y1.2.1 77 b = nI q) (h2 : ∀ b', b' ≠ b → y1.2.1 77 b' = y.2.1 77 b') (hb : L[b]? = some q) (h : exT y m T L) : exT y1 m (T ++ [b]) L := fun b' q' hb' hq' e => by
  have := (thM_le m).2
  by_cases c : b' = b
  · rw [c, h1] at e
    rw [c, ← nI_inj9 (by omega) (by omega) e]
    exact hb
  · rw [h2 b' c] at e
    rcases List.mem_append.mp hb' with h9 | h9
    · exact h b' q' h9 hq' e
    · exact absurd (List.mem_singleton.mp h9) c
end XM5
end
section
/-! 99zzzzzzzzzzzzzzn.xmp6 -/
/-! maps: the reference follows what is given, exactly -/
section XM6
variable {z : ow_MS}
theorem xp_follows {n m c a : Nat} {A : rn_L} {sg : Nat → Bool} {ov iv fv : Nat → Nat} {pt : Nat → Bool} (hn : mw_net n) (hm1 : 1 ≤ m) (hm4 : m ≤ 4) (hV : A.flatten.length = 2 * c) (hc : c ≤ 12) (ha : a ≤ 18) {T : List Nat} (hI : mgI z a m T) (hM : mcX z n m A sg c a ov iv fv pt) : Te (fun K => qe_X13_follows K n (nI m) z) (fun r => ∃ E, mgI r.2 a m (T ++ E) ∧ fr gvH z r.2 ∧ (∀ b, b ∈ T → r.2.2.1 77 b = z.2.1 77 b) ∧ (∀ b, b ∈ E → usP c ov iv fv pt b) ∧ ((r.1 = 0 ∧ ∀ L, slM m c a sg ov iv fv pt L → exT z m T L → False) ∨ (r.1 = 1 ∧ (∀ L, slM m c a sg ov iv fv pt L → exT z m T L → exT r.2 m (T ++ E) L) ∧ ∀ x, x < c → clX r.2 m sg ov iv fv pt (T ++ E) x))) := by
  let J : List Nat → ow_MS → Prop := fun E y => mgI y a m (T ++ E) ∧ fr gvH z y ∧ (∀ b, b ∈ T → y.2.1 77 b = z.2.1 77 b) ∧ (∀ b, b ∈ E → usP c ov iv fv pt b) ∧ ∀ L, slM m c a sg ov iv fv pt L → exT z m T L → exT y m (T ++ E) L
  let Q : Int32 × ow_MS → Prop := fun r => ∃ E, mgI r.2 a m (T ++ E) ∧ fr gvH z r.2 ∧ (∀ b, b ∈ T → r.2.2.1 77 b = z.2.1 77 b) ∧ (∀ b, b ∈ E → usP c ov iv fv pt b) ∧ ((r.1 = 0 ∧ ∀ L, slM m c a sg ov iv fv pt L → exT z m T L → False) ∨ (r.1 = 1 ∧ (∀ L, slM m c a sg ov iv fv pt L → exT z m T L → exT r.2 m (T ++ E) L) ∧ ∀ x, x < c → clX r.2 m sg ov iv fv pt (T ++ E) x))
  have hth := thM_le m
  have mF : ∀ {y : ow_MS}, fr gvH z y → mcX y n m A sg c a ov iv fv pt := fun hf => mcX_fr hn hf hM
  have tab : ∀ {y : ow_MS}, fr gvH z y → ∀ (s : Bool) (r g q : Nat), r = (if s = true then 76 else 75) → g < thM m → q < thM m → y.2.1 r (576 * m + 24 * g + q) = nI (opM m s g q) := by
    intro y hf s r g q er hg hq
    have k := (mF hf).2.2.1 g q hg hq (Or.inl hg)
    rw [er]
    cases s
    · exact k.1
    · exact k.2
  have gv : ∀ {F : List Nat} {y : ow_MS} {b q : Nat}, J F y → b < a → b ∉ T ++ F → q < thM m → usP c ov iv fv pt b → (∀ L, slM m c a sg ov iv fv pt L → exT y m (T ++ F) L → L[b]? = some q) → Te (fun K => qe_X13_give K (nI b) (nI q) y) (fun y1 => J (F ++ [b]) y1) := by
    intro F y b q hJ hb hnb hq hu hv
    refine w_monoE (te_and (tp_give ha hJ.1 hb hnb hq) (xp_give (q := q) ha hJ.1 hb hnb)) (fun y1 ⟨⟨k1, k2⟩, k3, k4⟩ => ⟨?_, fr_tr hJ.2.1 k2, fun b' hb' => (k4 b' (fun e => hnb (e ▸ List.mem_append_left _ hb'))).trans (hJ.2.2.1 b' hb'), fun b' hb' => ?_, fun L hL hx => ?_⟩)
    · rw [← List.append_assoc]
      exact k1
    · rcases List.mem_append.mp hb' with h9 | h9
      · exact hJ.2.2.2.1 b' h9
      · rw [List.mem_singleton.mp h9]
        exact hu
    · rw [← List.append_assoc]
      have k := hJ.2.2.2.2 L hL hx
      exact exT_g hq k3 k4 (hv L hL k) k
  have key : ∀ (k : Nat) (E : List Nat) (y : ow_MS), a - (T ++ E).length ≤ k → J E y → Tt (fun K i => q_X13_follows K i 1 (nI m) 1 0 0 0 0 n 0 0 0 y) Q := by
    intro k
    induction k using Nat.strongRecOn with
    | ind k ih =>
    intro E y hk hJ
    have pass : ∀ (d x : Nat) (F : List Nat) (x3 : Int32) (y : ow_MS), x + d = c → J F y → (x3 = 0 ∧ F = E ∧ (∀ x', x' < x → clX y m sg ov iv fv pt (T ++ E) x') ∨ x3 = 1 ∧ (T ++ E).length < (T ++ F).length) → Tt (fun K i => q_X13_follows K i 2 (nI m) x3 (nI x) 0 0 0 n 0 0 0 y) Q := by
      intro d
      induction d with
      | zero =>
        intro x F x3 y hx hJ h3
        refine u_X13_follows_2 ?_; unfold qm_X13_follows_2
        refine w_rdF (mF hJ.2.1).1.1.V (w_nzI (by decide) ?_)
        rw [hV, half_V (by omega)]
        refine w_leT (by omega) (by omega) ?_
        rcases h3 with ⟨h3, eF, hcl⟩ | ⟨h3, h4⟩
        · rw [h3]
          rw [eF] at hJ
          refine u_X13_follows_1 ?_; unfold qm_X13_follows_1
          exact w_ifT rfl (w_okZ (Or.inr rfl) (w_some ⟨E, hJ.1, hJ.2.1, hJ.2.2.1, hJ.2.2.2.1, Or.inr ⟨rfl, hJ.2.2.2.2, fun x' hx' => hcl x' (by omega)⟩⟩))
        · rw [h3]
          have := mgI_len hJ.1
          exact ih (a - (T ++ F).length) (by omega) F y (Nat.le_refl _) hJ
      | succ d ihp =>
        intro x F x3 y hx hJ h3
        have hMy := mF hJ.2.1
        have hxc : x < c := by omega
        obtain ⟨⟨e61, lo⟩, ⟨e62, li⟩, e63, lf⟩ := hMy.2.1 x hxc
        have e80 := hMy.2.2.2 x hxc
        have st := hJ.1.2.2.2.2
        have hle0 : (T ++ E).length ≤ (T ++ F).length := by
          rcases h3 with ⟨-, eF, -⟩ | ⟨-, h4⟩
          · rw [eF]
            exact Nat.le_refl _
          · exact Nat.le_of_lt h4
        have c7 : ∀ (x5 : Int32), (F = E → clX y m sg ov iv fv pt (T ++ E) x) → Tt (fun K i => q_X13_follows K i 7 (nI m) x3 (nI x) x5 0 0 n 0 0 0 y) Q := by
          intro x5 hcl
          refine u_X13_follows_7 ?_; unfold qm_X13_follows_7
          rw [nI_1]
          refine ihp (x + 1) F x3 y (by omega) hJ (h3.imp (fun ⟨p1, p2, p3⟩ => ⟨p1, p2, fun x' hx' => ?_⟩) id)
          by_cases e : x' = x
          · rw [e]
            exact hcl p2
          · exact p3 x' (by omega)
        have c7g : ∀ (b : Nat) (x5 : Int32) (y1 : ow_MS), J (F ++ [b]) y1 → Tt (fun K i => q_X13_follows K i 7 (nI m) 1 (nI x) x5 0 0 n 0 0 0 y1) Q := by
          intro b x5 y1 hJ1
          refine u_X13_follows_7 ?_; unfold qm_X13_follows_7
          rw [nI_1]
          refine ihp (x + 1) (F ++ [b]) 1 y1 (by omega) hJ1 (Or.inr ⟨rfl, ?_⟩)
          rw [← List.append_assoc, List.length_append (as := T ++ F)]
          show _ < _ + 1
          omega
        refine u_X13_follows_2 ?_; unfold qm_X13_follows_2
        refine w_rdF hMy.1.1.V (w_nzI (by decide) ?_)
        rw [hV, half_V (by omega)]
        refine w_leF (by omega) (by omega) (w_rdI ml61 rfl (by omega) e61 (w_rdI ml77 rfl (by omega) rfl (w_rdI ml80 rfl (by omega) e80 (w_if (fun e0 => c7 _ (fun _ hp => ?_)) (fun e1 => ?_)))))
        · rw [bI_0 e0] at hp
          cases hp
        have hpt := bI_1 e1
        rcases st (ov x) (by omega) with ⟨k1, k2⟩ | ⟨koT, g, hg, eg⟩
        · rw [k2]
          exact w_ifT rfl (c7 _ (fun eF _ h9 => absurd h9 (by rw [← eF]; exact k1)))
        rw [eg]
        refine w_ifF (rn_neg1 (by omega)) ?_
        obtain ⟨c', hok, -⟩ := hMy.1.2.2.1
        have hcc : c' = c := by have := okF_len hok; omega
        rw [hcc] at hok
        obtain ⟨t, t1, t2, -⟩ := ok_u hok hxc 0 (by omega)
        have sx : y.2.1 (n + 6) x = if sg x then -1 else 1 := by
          have := hMy.1.2.1 _ (vAt_mem t1)
          rw [show (vAt A t).1 = x from t2] at this
          exact this
        have c4 : ∀ (r6 r7 : Nat), r6 = (if sg x = true then 76 else 75) → r7 = (if (!sg x) = true then 76 else 75) → Tt (fun K i => q_X13_follows K i 4 (nI m) x3 (nI x) (nI g) 0 0 n r6 0 r7 y) Q := by
          intro r6 r7 hr6 hr7
          have l6 : (mX.2 r6).2.1 = 2880 := tb_len (by rw [hr6]; cases sg x; exact Or.inl rfl; exact Or.inr rfl)
          have l7 : (mX.2 r7).2.1 = 2880 := tb_len (by rw [hr7]; cases sg x; exact Or.inr rfl; exact Or.inl rfl)
          have sol : ∀ L, slM m c a sg ov iv fv pt L → exT y m (T ++ F) L → ∃ i j, L[ov x]? = some g ∧ L[iv x]? = some i ∧ L[fv x]? = some j ∧ i < thM m ∧ j = opM m (sg x) g i := fun L hL hxL => by
            have g1 := hxL (ov x) g koT hg eg
            have g2 : L[iv x]? = some (L[iv x]'(by rw [hL.1]; exact li)) := List.getElem?_eq_getElem (by rw [hL.1]; exact li)
            have g3 : L[fv x]? = some (L[fv x]'(by rw [hL.1]; exact lf)) := List.getElem?_eq_getElem (by rw [hL.1]; exact lf)
            exact ⟨_, _, g1, g2, g3, (hL.2.1 _ _ g2).1, hL.2.2 x hxc hpt _ _ _ g1 g2 g3⟩
          rcases st (iv x) (by omega) with ⟨i1, i2⟩ | ⟨i1, q8, h8, e8⟩
          · rcases st (fv x) (by omega) with ⟨f1, f2⟩ | ⟨f1, q10, h10, e10⟩
            · refine u_X13_follows_4 ?_; unfold qm_X13_follows_4
              refine w_rdI ml62 rfl (by omega) e62 (w_rdI ml77 rfl (by omega) i2 (w_rdI ml63 rfl (by omega) e63 (w_rdI ml77 rfl (by omega) f2 (w_ifT rfl ?_))))
              refine u_X13_follows_5 ?_; unfold qm_X13_follows_5
              refine w_ifT rfl ?_
              refine u_X13_follows_6 ?_; unfold qm_X13_follows_6
              refine w_ifT rfl (w_ifT rfl (c7 _ (fun eF _ _ => ⟨⟨fun h9 => absurd h9 (by rw [← eF]; exact i1), fun h9 => absurd h9 (by rw [← eF]; exact f1)⟩, fun _ _ _ _ _ _ h9 => absurd h9 (by rw [← eF]; exact i1)⟩)))
            · have ib := ib_n hm1 hm4 hg h10 (!sg x)
              refine u_X13_follows_4 ?_; unfold qm_X13_follows_4
              refine w_rdI ml62 rfl (by omega) e62 (w_rdI ml77 rfl (by omega) i2 (w_rdI ml63 rfl (by omega) e63 (w_rdI ml77 rfl (by omega) e10 (w_ifT rfl ?_))))
              refine u_X13_follows_5 ?_; unfold qm_X13_follows_5
              refine w_ifT rfl ?_
              refine u_X13_follows_6 ?_; unfold qm_X13_follows_6
              rw [tb_ix]
              refine w_ifT rfl (w_ifF (rn_neg1 (by omega)) (w_rdI ml62 rfl (by omega) e62 (w_rdI l7 rfl (by omega) (tab hJ.2.1 (!sg x) r7 g q10 hr7 hg h10) (w_cs0 (gv hJ li i1 ib.2 ⟨x, hxc, hpt, Or.inr (Or.inl rfl)⟩ (fun L hL hxL => ?_)) (fun y1 hJ1 => c7g _ _ _ hJ1)))))
              obtain ⟨i, j, s1, s2, s3, s4, s5⟩ := sol L hL hxL
              have s6 := hxL (fv x) q10 f1 h10 e10
              rw [s6] at s3
              have ej : q10 = j := Option.some.inj s3
              rw [s2, ej, s5, (ib_n hm1 hm4 hg s4 (sg x)).1]
          · rcases st (fv x) (by omega) with ⟨f1, f2⟩ | ⟨f1, q10, h10, e10⟩
            · have ib := ib_n hm1 hm4 hg h8 (sg x)
              refine u_X13_follows_4 ?_; unfold qm_X13_follows_4
              refine w_rdI ml62 rfl (by omega) e62 (w_rdI ml77 rfl (by omega) e8 (w_rdI ml63 rfl (by omega) e63 (w_rdI ml77 rfl (by omega) f2 (w_ifF (rn_neg1 (by omega)) (w_ifT rfl ?_)))))
              refine u_X13_follows_5 ?_; unfold qm_X13_follows_5
              rw [tb_ix]
              refine w_ifF (rn_neg1 (by omega)) (w_ifT rfl (w_rdI ml63 rfl (by omega) e63 (w_rdI l6 rfl (by omega) (tab hJ.2.1 (sg x) r6 g q8 hr6 hg h8) (w_cs0 (gv hJ lf f1 ib.2 ⟨x, hxc, hpt, Or.inr (Or.inr rfl)⟩ (fun L hL hxL => ?_)) (fun y1 hJ1 => c7g _ _ _ hJ1)))))
              obtain ⟨i, j, s1, s2, s3, s4, s5⟩ := sol L hL hxL
              have s6 := hxL (iv x) q8 i1 h8 e8
              rw [s6] at s2
              have ei : q8 = i := Option.some.inj s2
              rw [s3, s5, ei]
            · have ib := ib_n hm1 hm4 hg h8 (sg x)
              refine u_X13_follows_4 ?_; unfold qm_X13_follows_4
              refine w_rdI ml62 rfl (by omega) e62 (w_rdI ml77 rfl (by omega) e8 (w_rdI ml63 rfl (by omega) e63 (w_rdI ml77 rfl (by omega) e10 (w_ifF (rn_neg1 (by omega)) (w_ifF (rn_neg1 (by omega)) (w_rdI (i := 576 * m + 24 * g + q8) l6 tb_ix (by omega) (tab hJ.2.1 (sg x) r6 g q8 hr6 hg h8) (w_eqN (by omega) (by omega) (fun eq => ?_) (fun ne => w_okZ (Or.inl rfl) (w_some ⟨F, hJ.1, hJ.2.1, hJ.2.2.1, hJ.2.2.2.1, Or.inl ⟨rfl, fun L hL hx0 => ?_⟩⟩)))))))))
              · refine u_X13_follows_5 ?_; unfold qm_X13_follows_5
                refine w_ifF (rn_neg1 (by omega)) (w_ifF (rn_neg1 (by omega)) ?_)
                refine u_X13_follows_6 ?_; unfold qm_X13_follows_6
                refine w_ifF (rn_neg1 (by omega)) (c7 _ (fun eF _ _ => ⟨⟨fun _ => by rw [← eF]; exact f1, fun _ => by rw [← eF]; exact i1⟩, fun o' i' j' o1 o2 o3 _ o4 o5 o6 => ?_⟩))
                rw [eg] at o4
                rw [e8] at o5
                rw [e10] at o6
                rw [← nI_inj9 (by omega) (by omega) o4, ← nI_inj9 (by omega) (by omega) o5, ← nI_inj9 (by omega) (by omega) o6]
                exact eq.symm
              · obtain ⟨i, j, s1, s2, s3, s4, s5⟩ := sol L hL (hJ.2.2.2.2 L hL hx0)
                have hxL := hJ.2.2.2.2 L hL hx0
                have s6 := hxL (iv x) q8 i1 h8 e8
                have s7 := hxL (fv x) q10 f1 h10 e10
                rw [s6] at s2
                rw [s7] at s3
                have ei : q8 = i := Option.some.inj s2
                have ej : q10 = j := Option.some.inj s3
                exact ne (by rw [ej, ei]; exact s5.symm)
        cases hs : sg x
        · rw [hs] at sx c4
          refine w_rdI (pl6 hn) rfl (by omega) sx (w_ifF (by decide) ?_)
          refine u_X13_follows_3 ?_; unfold qm_X13_follows_3
          exact w_rdI (pl6 hn) rfl (by omega) sx (w_ifF (by decide) (c4 75 76 rfl rfl))
        · rw [hs] at sx c4
          refine w_rdI (pl6 hn) rfl (by omega) sx (w_ifT (by decide) ?_)
          refine u_X13_follows_3 ?_; unfold qm_X13_follows_3
          exact w_rdI (pl6 hn) rfl (by omega) sx (w_ifT (by decide) (c4 76 75 rfl rfl))
    refine u_X13_follows_1 ?_; unfold qm_X13_follows_1
    exact w_ifF (by decide) (pass c 0 E 0 y (by omega) hJ (Or.inl ⟨rfl, rfl, fun x' hx' => absurd hx' (Nat.not_lt_zero _)⟩))
  refine e_X13_follows ?_
  refine u_X13_follows_0 ?_; unfold qm_X13_follows_0
  refine key (a - (T ++ []).length) [] z (Nat.le_refl _) ⟨by rw [List.append_nil]; exact hI, fr_rf, fun _ _ => rfl, fun b hb => absurd hb List.not_mem_nil, fun L _ hx => by rw [List.append_nil]; exact hx⟩
end XM6
end
section
/-! 99zzzzzzzzzzzzzzo.xmp7 -/
/-! maps: the reference counts all that goes on from what is given -/
section XM7
theorem exT_eq {y y1 : ow_MS} {m : Nat} {T L : List Nat} (h : ∀ b, b ∈ T → y1.2.1 77 b = y.2.1 77 b) (hx : exT y m T L) : exT y1 m T L := fun b q hb hq e => hx b q hb hq (by rw [← h b hb]; exact e)
theorem exT_sub {y : ow_MS} {m : Nat} {T E L : List Nat} (hx : exT y m (T ++ E) L) : exT y m T L := fun b q hb hq e => hx b q (List.mem_append_left _ hb) hq e
theorem xp_mapsOf {n m c a : Nat} {A : rn_L} {sg : Nat → Bool} {ov iv fv : Nat → Nat} {pt : Nat → Bool} (hn : mw_net n) (hm1 : 1 ≤ m) (hm4 : m ≤ 4) (hV : A.flatten.length = 2 * c) (hc : c ≤ 12) (ha : a ≤ 18) : ∀ (k dd : Nat) (T : List Nat) (z : ow_MS), a - T.length ≤ k → k < dd → mgI z a m T → mcX z n m A sg c a ov iv fv pt → z.2.1 73 m = nI (thM m) → (∀ b, b ∈ T → usP c ov iv fv pt b) → Te (fun K => qd_X13_mapsOf K dd n (nI m) z) (fun r => (mgI r.2 a m T ∧ fr gvH z r.2) ∧ (∀ b, b ∈ T → r.2.2.1 77 b = z.2.1 77 b) ∧ ∃ N, r.1 = nI N ∧ cnt9 (fun L => slM m c a sg ov iv fv pt L ∧ exT z m T L) N) := by
  intro k
  induction k using Nat.strongRecOn with
  | ind k ih =>
  intro dd T z hk hdd hI hM h73 hTu
  obtain ⟨dd, rfl⟩ : ∃ d', dd = d' + 1 := ⟨dd - 1, by omega⟩
  have hth := thM_le m
  have hT := mgI_len hI
  let Q : Int32 × ow_MS → Prop := fun r => (mgI r.2 a m T ∧ fr gvH z r.2) ∧ (∀ b, b ∈ T → r.2.2.1 77 b = z.2.1 77 b) ∧ ∃ N, r.1 = nI N ∧ cnt9 (fun L => slM m c a sg ov iv fv pt L ∧ exT z m T L) N
  have mF : ∀ {y : ow_MS}, fr gvH z y → mcX y n m A sg c a ov iv fv pt := fun hf => mcX_fr hn hf hM
  have f73 : ∀ {y : ow_MS}, fr gvH z y → y.2.1 73 m = nI (thM m) := fun hf => by
    rw [(hf 73 (by unfold gvH; omega)).2.1]
    exact h73
  have c6 : ∀ (x4 : Int32) (N : Nat) (E : List Nat) (y : ow_MS), x4 = nI N → cnt9 (fun L => slM m c a sg ov iv fv pt L ∧ exT z m T L) N → mgI y a m (T ++ E) → fr gvH z y → (∀ b, b ∈ T → y.2.1 77 b = z.2.1 77 b) → Tt (fun K i => q_X13_mapsOf K (qd_X13_mapsOf K dd) i 6 (nI m) (nI T.length) x4 0 0 0 n 0 y) Q := by
    intro x4 N E y e4 hN hI hf hu
    refine u_X13_mapsOf_6 ?_; unfold qm_X13_mapsOf_6
    exact w_cs0 (xp_takeBack ha hI rfl) (fun y1 ⟨⟨I1, f1⟩, u1⟩ => w_some ⟨⟨I1, fr_tr hf f1⟩, fun b hb => (u1 b hb).trans (hu b hb), N, e4, hN⟩)
  refine w_qdM ?_
  refine u_X13_mapsOf_0 ?_; unfold qm_X13_mapsOf_0
  refine w_rdF hI.1 (w_cs1 (xp_follows hn hm1 hm4 hV hc ha hI hM) (fun v y h9 => ?_))
  obtain ⟨E, IE, fE, uE, eE, hv⟩ := h9
  have IE : mgI y a m (T ++ E) := IE
  have fE : fr gvH z y := fE
  have uE : ∀ b, b ∈ T → y.2.1 77 b = z.2.1 77 b := uE
  rcases hv with ⟨v0, v1⟩ | ⟨v0, v1, v2⟩
  · have v0 : v = 0 := v0
    rw [v0]
    exact w_ifT rfl (c6 0 0 E y rfl (cnt_0 (fun L hL => v1 L hL.1 hL.2)) IE fE uE)
  have v0 : v = 1 := v0
  rw [v0]
  refine w_ifF (by decide) ?_
  have hMy := mF fE
  have hU : ∀ b, b ∈ T ++ E → usP c ov iv fv pt b := fun b hb => (List.mem_append.mp hb).elim (hTu b) (eE b)
  have sq : ∀ L, slM m c a sg ov iv fv pt L → (exT z m T L ↔ exT y m (T ++ E) L) := fun L hL => ⟨v1 L hL, fun hx => exT_eq (fun b hb => (uE b hb).symm) (exT_sub hx)⟩
  have st := IE.2.2.2.2
  have c4 : ∀ (x6 : Int32) (x5 : Int32), (x5 = -1 ∧ (∀ b, usP c ov iv fv pt b → b ∈ T ++ E) ∨ ∃ b, x5 = nI b ∧ b < a ∧ b ∉ T ++ E ∧ usP c ov iv fv pt b) → Tt (fun K i => q_X13_mapsOf K (qd_X13_mapsOf K dd) i 4 (nI m) (nI T.length) 0 x5 x6 0 n 0 y) Q := by
    intro x6 x5 h5
    refine u_X13_mapsOf_4 ?_; unfold qm_X13_mapsOf_4
    rcases h5 with ⟨rfl, hall⟩ | ⟨b, rfl, hb, hbT, hbu⟩
    · refine w_ifT rfl (c6 1 1 E y rfl ?_ IE fE uE)
      obtain ⟨w, hw⟩ : ∃ w : Nat → Nat, ∀ b, b < 40 → (b ∈ T ++ E → w b < thM m ∧ y.2.1 77 b = nI (w b)) ∧ (b ∉ T ++ E → w b = 0) := by
        refine Classical.axiomOfChoice (r := fun b q => b < 40 → (b ∈ T ++ E → q < thM m ∧ y.2.1 77 b = nI q) ∧ (b ∉ T ++ E → q = 0)) (fun b => ?_)
        by_cases hb : b < 40
        · rcases st b hb with ⟨k1, -⟩ | ⟨k1, q, k3, k4⟩
          · exact ⟨0, fun _ => ⟨fun h9 => absurd h9 k1, fun _ => rfl⟩⟩
          · exact ⟨q, fun _ => ⟨fun _ => ⟨k3, k4⟩, fun h9 => absurd k1 h9⟩⟩
        · exact ⟨0, fun h9 => absurd h9 hb⟩
      have g0 : ∀ b q, ((List.range a).map w)[b]? = some q → b < a ∧ q = w b := fun b q e => by
        have l := (List.getElem?_eq_some_iff.mp e).1
        rw [List.length_map, List.length_range] at l
        rw [List.getElem?_map, List.getElem?_range l] at e
        exact ⟨l, (Option.some.inj e).symm⟩
      have g1 : ∀ b, b < a → ((List.range a).map w)[b]? = some (w b) := fun b hb => by
        rw [List.getElem?_map, List.getElem?_range hb]
        rfl
      refine cnt_1 (L0 := (List.range a).map w) (fun L => ⟨fun ⟨hL, hx⟩ => ?_, fun e => ?_⟩)
      · have hxy := (sq L hL).mp hx
        refine List.ext_getElem? (fun b => ?_)
        by_cases hb : b < a
        · rw [g1 b hb]
          by_cases hbU : b ∈ T ++ E
          · obtain ⟨w1, w2⟩ := (hw b (by omega)).1 hbU
            exact hxy b (w b) hbU w1 w2
          · have e1 : L[b]? = some (L[b]'(by rw [hL.1]; exact hb)) := List.getElem?_eq_getElem (by rw [hL.1]; exact hb)
            rw [e1, (hw b (by omega)).2 hbU, (hL.2.1 b _ e1).2 (fun h9 => hbU (hall b h9))]
        · rw [List.getElem?_eq_none (by rw [hL.1]; omega), List.getElem?_eq_none (by rw [List.length_map, List.length_range]; omega)]
      · rw [e]
        have hL : slM m c a sg ov iv fv pt ((List.range a).map w) := by
          refine ⟨by rw [List.length_map, List.length_range], fun b q e1 => ?_, fun x hx hp o i j e1 e2 e3 => ?_⟩
          · obtain ⟨l, rfl⟩ := g0 b q e1
            refine ⟨?_, fun h9 => (hw b (by omega)).2 (fun h8 => h9 (hU b h8))⟩
            by_cases hbU : b ∈ T ++ E
            · exact ((hw b (by omega)).1 hbU).1
            · rw [(hw b (by omega)).2 hbU]
              omega
          · obtain ⟨l1, rfl⟩ := g0 _ _ e1
            obtain ⟨l2, rfl⟩ := g0 _ _ e2
            obtain ⟨l3, rfl⟩ := g0 _ _ e3
            have u1 := hall _ ⟨x, hx, hp, Or.inl rfl⟩
            have u2 := hall _ ⟨x, hx, hp, Or.inr (Or.inl rfl)⟩
            have u3 := hall _ ⟨x, hx, hp, Or.inr (Or.inr rfl)⟩
            obtain ⟨p1, p2⟩ := (hw _ (show ov x < 40 by omega)).1 u1
            obtain ⟨p3, p4⟩ := (hw _ (show iv x < 40 by omega)).1 u2
            obtain ⟨p5, p6⟩ := (hw _ (show fv x < 40 by omega)).1 u3
            exact (v2 x hx hp u1).2 _ _ _ p1 p3 p5 u2 p2 p4 p6
        refine ⟨hL, (sq _ hL).mpr (fun b q hb hq e1 => ?_)⟩
        have lb := IE.2.2.1 b hb
        obtain ⟨p1, p2⟩ := (hw b (by omega)).1 hb
        rw [p2] at e1
        rw [g1 b lb, nI_inj9 (by omega) (by omega) e1]
    · refine w_ifF (rn_neg1 (by omega)) ?_
      have hroom := mgI_room IE hb hbT
      have c5 : ∀ (d p N : Nat) (y' : ow_MS), p + d = thM m → mgI y' a m (T ++ E) → fr gvH z y' → (∀ b', b' ∈ T ++ E → y'.2.1 77 b' = y.2.1 77 b') → cnt9 (fun L => ∃ p', p' < p ∧ (slM m c a sg ov iv fv pt L ∧ exT z m T L) ∧ L[b]? = some p') N → Tt (fun K i => q_X13_mapsOf K (qd_X13_mapsOf K dd) i 5 (nI m) (nI T.length) (nI N) (nI b) (nI (T ++ E).length) (nI p) n 0 y') Q := by
        intro d
        induction d with
        | zero =>
          intro p N y' hp I1 f1 u1 hN
          have ep : p = thM m := by omega
          refine u_X13_mapsOf_5 ?_; unfold qm_X13_mapsOf_5
          refine w_rdI ml73 rfl (by omega) (f73 f1) (w_leT (by omega) (by omega) (c6 _ N E y' rfl (cnt_cg (fun L => ⟨fun ⟨p', _, q2, _⟩ => q2, fun q2 => ?_⟩) hN) I1 f1 (fun b' hb' => (u1 b' (List.mem_append_left _ hb')).trans (uE b' hb'))))
          have e1 : L[b]? = some (L[b]'(by rw [q2.1.1]; exact hb)) := List.getElem?_eq_getElem (by rw [q2.1.1]; exact hb)
          exact ⟨_, by rw [ep]; exact (q2.1.2.1 b _ e1).1, q2, e1⟩
        | succ d ih5 =>
          intro p N y' hp I1 f1 u1 hN
          have hpT : p < thM m := by omega
          refine u_X13_mapsOf_5 ?_; unfold qm_X13_mapsOf_5
          rw [nI_1]
          refine w_rdI ml73 rfl (by omega) (f73 f1) (w_leF (by omega) (by omega) (w_cs0 (te_and (tp_give ha I1 hb hbT hpT) (xp_give (q := p) ha I1 hb hbT)) (fun y2 ⟨⟨I2, f2⟩, g1, g2⟩ => w_cs1 (ih (a - ((T ++ E) ++ [b]).length) ?_ dd _ y2 (Nat.le_refl _) ?_ I2 (mF (fr_tr f1 f2)) (f73 (fr_tr f1 f2)) (fun b' hb' => ?_)) (fun v y3 h9 => ?_))))
          · rw [List.length_append]
            show a - ((T ++ E).length + 1) < k
            rw [List.length_append] at hroom ⊢
            omega
          · rw [List.length_append]
            show a - ((T ++ E).length + 1) < dd
            rw [List.length_append] at hroom ⊢
            omega
          · rcases List.mem_append.mp hb' with h8 | h8
            · exact hU b' h8
            · rw [List.mem_singleton.mp h8]
              exact hbu
          obtain ⟨⟨I3, f3⟩, u3, N1, e1, hN1⟩ := h9
          have e1 : v = nI N1 := e1
          rw [e1]
          refine w_cs0 (xp_takeBack ha I3 rfl) (fun y4 ⟨⟨I4, f4⟩, u4⟩ => ?_)
          rw [nI_add]
          refine ih5 (p + 1) (N + N1) y4 (by omega) I4 (fr_tr f1 (fr_tr f2 (fr_tr f3 f4))) (fun b' hb' => ?_) ?_
          · have ne : b' ≠ b := fun e => hbT (e ▸ hb')
            rw [u4 b' hb']
            exact (u3 b' (List.mem_append_left _ hb')).trans ((g2 b' ne).trans (u1 b' hb'))
          · have eqv : ∀ L, (slM m c a sg ov iv fv pt L ∧ exT y2 m ((T ++ E) ++ [b]) L) ↔ ((slM m c a sg ov iv fv pt L ∧ exT z m T L) ∧ L[b]? = some p) := fun L => by
              constructor
              · rintro ⟨q1, q2⟩
                refine ⟨⟨q1, (sq L q1).mpr (exT_eq (fun b' hb' => ?_) (exT_sub q2))⟩, q2 b p (List.mem_append_right _ (List.mem_singleton.mpr rfl)) hpT g1⟩
                have ne : b' ≠ b := fun e => hbT (e ▸ hb')
                exact (u1 b' hb').symm.trans (g2 b' ne).symm
              · rintro ⟨⟨q1, q2⟩, q3⟩
                exact ⟨q1, exT_g hpT g1 g2 q3 (exT_eq u1 ((sq L q1).mp q2))⟩
            refine cnt_cg (fun L => ?_) (cnt_or (fun L ⟨p', q1, _, q3⟩ q4 => ?_) hN (cnt_cg eqv hN1))
            · constructor
              · rintro (⟨p', q1, q2⟩ | q2)
                · exact ⟨p', by omega, q2⟩
                · exact ⟨p, by omega, q2⟩
              · rintro ⟨p', q1, q2⟩
                by_cases e : p' = p
                · rw [e] at q2
                  exact Or.inr q2
                · exact Or.inl ⟨p', by omega, q2⟩
            · rw [q3] at q4
              have := Option.some.inj q4.2
              omega
      exact w_rdF IE.1 (c5 (thM m) 0 0 y (by omega) IE fE (fun _ _ => rfl) (cnt_0 (fun L ⟨p', q1, _⟩ => absurd q1 (Nat.not_lt_zero _))))
  have c1 : ∀ (d x : Nat) (x5 : Int32), x + d = c → (x5 = -1 ∧ (∀ x', x' < x → pt x' = true → ov x' ∈ T ++ E ∧ iv x' ∈ T ++ E ∧ fv x' ∈ T ++ E) ∨ ∃ b, x5 = nI b ∧ b < a ∧ b ∉ T ++ E ∧ usP c ov iv fv pt b) → Tt (fun K i => q_X13_mapsOf K (qd_X13_mapsOf K dd) i 1 (nI m) (nI T.length) 0 x5 (nI x) 0 n 0 y) Q := by
    intro d
    induction d with
    | zero =>
      intro x x5 hx h5
      refine u_X13_mapsOf_1 ?_; unfold qm_X13_mapsOf_1
      refine w_rdF hMy.1.1.V (w_nzI (by decide) ?_)
      rw [hV, half_V (by omega)]
      refine w_leT (by omega) (by omega) (c4 _ _ (h5.imp (fun ⟨p1, p2⟩ => ⟨p1, fun b ⟨x', q1, q2, q3⟩ => ?_⟩) id))
      obtain ⟨r1, r2, r3⟩ := p2 x' (by omega) q2
      rcases q3 with rfl | rfl | rfl
      · exact r1
      · exact r2
      · exact r3
    | succ d ih1 =>
      intro x x5 hx h5
      have hxc : x < c := by omega
      obtain ⟨⟨e61, lo⟩, ⟨e62, li⟩, e63, lf⟩ := hMy.2.1 x hxc
      have e80 := hMy.2.2.2 x hxc
      have c3 : ∀ (x5 : Int32), (x5 = -1 ∧ (∀ x', x' < x + 1 → pt x' = true → ov x' ∈ T ++ E ∧ iv x' ∈ T ++ E ∧ fv x' ∈ T ++ E) ∨ ∃ b, x5 = nI b ∧ b < a ∧ b ∉ T ++ E ∧ usP c ov iv fv pt b) → Tt (fun K i => q_X13_mapsOf K (qd_X13_mapsOf K dd) i 3 (nI m) (nI T.length) 0 x5 (nI x) 0 n 0 y) Q := by
        intro x5 h5
        refine u_X13_mapsOf_3 ?_; unfold qm_X13_mapsOf_3
        rw [nI_1]
        exact ih1 (x + 1) x5 (by omega) h5
      have c2 : ∀ (x5 t0 : Int32), (t0 = -1 ∧ (∀ x', x' < x + 1 → pt x' = true → ov x' ∈ T ++ E ∧ iv x' ∈ T ++ E ∧ fv x' ∈ T ++ E) ∨ ∃ b, t0 = nI b ∧ b < a ∧ b ∉ T ++ E ∧ usP c ov iv fv pt b) → Tt (fun K i => q_X13_mapsOf K (qd_X13_mapsOf K dd) i 2 (nI m) (nI T.length) 0 x5 (nI x) 0 n t0 y) Q := by
        intro x5 t0 h5
        refine u_X13_mapsOf_2 ?_; unfold qm_X13_mapsOf_2
        exact c3 t0 h5
      refine u_X13_mapsOf_1 ?_; unfold qm_X13_mapsOf_1
      refine w_rdF hMy.1.1.V (w_nzI (by decide) ?_)
      rw [hV, half_V (by omega)]
      refine w_leF (by omega) (by omega) ?_
      rcases h5 with ⟨rfl, hall⟩ | ⟨b, rfl, hb, hbT, hbu⟩
      · refine w_ifT rfl (w_rdI ml80 rfl (by omega) e80 (w_if (fun e0 => c3 _ (Or.inl ⟨rfl, fun x' hx' hp => ?_⟩)) (fun e1 => ?_)))
        · by_cases e : x' = x
          · rw [e, bI_0 e0] at hp
            cases hp
          · exact hall x' (by omega) hp
        have hpt := bI_1 e1
        rcases st (ov x) (by omega) with ⟨k1, k2⟩ | ⟨k1, g, hg, k2⟩
        · exact w_rdI ml61 rfl (by omega) e61 (w_rdI ml77 rfl (by omega) k2 (w_ifT rfl (w_rdI ml61 rfl (by omega) e61 (c2 _ _ (Or.inr ⟨_, rfl, lo, k1, x, hxc, hpt, Or.inl rfl⟩)))))
        refine w_rdI ml61 rfl (by omega) e61 (w_rdI ml77 rfl (by omega) k2 (w_ifF (rn_neg1 (by omega)) ?_))
        rcases st (iv x) (by omega) with ⟨i1, i2⟩ | ⟨i1, q8, h8, i2⟩
        · exact w_rdI ml62 rfl (by omega) e62 (w_rdI ml77 rfl (by omega) i2 (w_ifT rfl (w_rdI ml62 rfl (by omega) e62 (c2 _ _ (Or.inr ⟨_, rfl, li, i1, x, hxc, hpt, Or.inr (Or.inl rfl)⟩)))))
        refine w_rdI ml62 rfl (by omega) e62 (w_rdI ml77 rfl (by omega) i2 (w_ifF (rn_neg1 (by omega)) ?_))
        rcases st (fv x) (by omega) with ⟨f1, f2⟩ | ⟨f1, q10, h10, f2⟩
        · exact w_rdI ml63 rfl (by omega) e63 (w_rdI ml77 rfl (by omega) f2 (w_ifT rfl (w_rdI ml63 rfl (by omega) e63 (c2 _ _ (Or.inr ⟨_, rfl, lf, f1, x, hxc, hpt, Or.inr (Or.inr rfl)⟩)))))
        refine w_rdI ml63 rfl (by omega) e63 (w_rdI ml77 rfl (by omega) f2 (w_ifF (rn_neg1 (by omega)) (c2 _ _ (Or.inl ⟨rfl, fun x' hx' hp => ?_⟩))))
        by_cases e : x' = x
        · rw [e]
          exact ⟨k1, i1, f1⟩
        · exact hall x' (by omega) hp
      · exact w_ifF (rn_neg1 (by omega)) (c4 _ _ (Or.inr ⟨b, rfl, hb, hbT, hbu⟩))
  exact c1 c 0 (-1) (by omega) (Or.inl ⟨rfl, fun x' hx' => absurd hx' (Nat.not_lt_zero _)⟩)
end XM7
end
section
/-! 99zzzzzzzzzzzzzzp.xmp8 -/
/-! permutations as the class numbers them: conjugation goes through itself -/
def gSD9 (h o x : Nat) : Bool := decide (cjG (cjG h o) (cjG h x) = cjG h (cjG o x))
def gCA9 (h o : Nat) : Bool := decide (ivC (cjG h o) = cjG h (ivC o)) && decide (cjG (ivC h) (cjG h o) = o) && decide (cjG h (cjG (ivC h) o) = o) && decide (cjG h o < 24) && decide (ivC o < 24) && (decide (24 ≤ h) || decide (h < 6 ∧ o < 6 → cjG h o < 6 ∧ ivC o < 6) && decide (h < 2 ∧ o < 2 → cjG h o < 2 ∧ ivC o < 2) && decide (h < 1 ∧ o < 1 → cjG h o < 1 ∧ ivC o < 1))
theorem sd9_c : ∀ h : Fin 24, ∀ o : Fin 24, ∀ x : Fin 24, gSD9 h.val o.val x.val = true := by decide +kernel
theorem ca9_c : ∀ h : Fin 24, ∀ o : Fin 24, gCA9 h.val o.val = true := by decide +kernel
theorem sd9 {h o x : Nat} (h1 : h < 24) (h2 : o < 24) (h3 : x < 24) : cjG (cjG h o) (cjG h x) = cjG h (cjG o x) := of_decide_eq_true (sd9_c ⟨h, h1⟩ ⟨o, h2⟩ ⟨x, h3⟩)
theorem ca9 {h o : Nat} (h1 : h < 24) (h2 : o < 24) : ivC (cjG h o) = cjG h (ivC o) ∧ cjG (ivC h) (cjG h o) = o ∧ cjG h (cjG (ivC h) o) = o ∧ cjG h o < 24 ∧ ivC o < 24 := by
  have k := ca9_c ⟨h, h1⟩ ⟨o, h2⟩
  unfold gCA9 at k
  rw [Bool.and_eq_true, Bool.and_eq_true, Bool.and_eq_true, Bool.and_eq_true, Bool.and_eq_true] at k
  obtain ⟨⟨⟨⟨⟨k1, k2⟩, k3⟩, k4⟩, k5⟩, -⟩ := k
  exact ⟨of_decide_eq_true k1, of_decide_eq_true k2, of_decide_eq_true k3, of_decide_eq_true k4, of_decide_eq_true k5⟩
theorem ca9_m {m h o : Nat} (hm1 : 1 ≤ m) (hm4 : m ≤ 4) (h1 : h < thM m) (h2 : o < thM m) : cjG h o < thM m ∧ ivC o < thM m := by
  have b := (thM_le m).2
  have k := ca9_c ⟨h, by omega⟩ ⟨o, by omega⟩
  unfold gCA9 at k
  rw [Bool.and_eq_true, Bool.and_eq_true, Bool.and_eq_true, Bool.and_eq_true, Bool.and_eq_true, Bool.or_eq_true, Bool.and_eq_true, Bool.and_eq_true] at k
  obtain ⟨⟨⟨⟨⟨k1, k2⟩, k3⟩, k4⟩, k5⟩, k6⟩ := k
  have q4 : cjG h o < 24 := of_decide_eq_true k4
  have q5 : ivC o < 24 := of_decide_eq_true k5
  rcases k6 with k6 | ⟨⟨k6, k7⟩, k8⟩
  · have k6 : 24 ≤ h := of_decide_eq_true k6
    omega
  have q6 : h < 6 ∧ o < 6 → cjG h o < 6 ∧ ivC o < 6 := of_decide_eq_true k6
  have q7 : h < 2 ∧ o < 2 → cjG h o < 2 ∧ ivC o < 2 := of_decide_eq_true k7
  have q8 : h < 1 ∧ o < 1 → cjG h o < 1 ∧ ivC o < 1 := of_decide_eq_true k8
  have : m = 1 ∨ m = 2 ∨ m = 3 ∨ m = 4 := by omega
  rcases this with rfl | rfl | rfl | rfl
  · exact q8 ⟨h1, h2⟩
  · exact q7 ⟨h1, h2⟩
  · exact q6 ⟨h1, h2⟩
  · exact ⟨q4, q5⟩
end
section
/-! 99zzzzzzzzzzzzzzq.xmp9 -/
/-! maps: the arcs of the reference, crossing by crossing -/
section XM9
theorem vu_inj {A : rn_L} {c u v : Nat} (h : okF A.flatten c) (hu : u < A.flatten.length) (hv : v < A.flatten.length) (e1 : crs A u = crs A v) (e2 : uns A u = uns A v) : u = v := by
  have k1 := vAt_of hu
  have k2 := vAt_of hv
  have e : vAt A u = vAt A v := Prod.ext e1 e2
  rw [e, ← k2] at k1
  exact (List.getElem?_inj hu h.1).mp k1
theorem xp_arc8 {n c a : Nat} {A : rn_L} {sg : Nat → Bool} {y : ow_MS} {ga gb : Nat → Nat} (hn : mw_net n) (hA : oNet y n A sg) (hok : okF A.flatten c) (hR : ∀ u, u < A.flatten.length → y.2.1 59 u = nI (ga u) ∧ (uns A u ≠ 0 → y.2.1 60 u = nI (gb u))) : Tt (fun K i => q_X13_makeArcs K i 8 (nI 0) 0 0 n 0 y) (fun z1 => (∀ u, u < A.flatten.length → (uns A u = 0 → z1.2.1 61 (crs A u) = nI (ga u)) ∧ (uns A u ≠ 0 → z1.2.1 62 (crs A u) = nI (ga u) ∧ z1.2.1 63 (crs A u) = nI (gb u))) ∧ fr (fun g => 61 ≤ g ∧ g ≤ 63) y z1) := by
  have hl := hA.len
  have hmn := net_mod hn
  have hV := okF_len hok
  have oA : ∀ {z : ow_MS}, fr (fun g => 61 ≤ g ∧ g ≤ 63) y z → oNet z n A sg := fun hf => oNet_fr hf (fun g hg => by omega) hA
  have r1 : ∀ {z : ow_MS}, fr (fun g => 61 ≤ g ∧ g ≤ 63) y z → ∀ u, u < A.flatten.length → z.2.1 59 u = nI (ga u) ∧ (uns A u ≠ 0 → z.2.1 60 u = nI (gb u)) := fun hf u hu => by
    rw [(hf 59 (by omega)).2.1, (hf 60 (by omega)).2.1]
    exact hR u hu
  have c8 : ∀ (d v : Nat) (z : ow_MS), v + d = A.flatten.length → fr (fun g => 61 ≤ g ∧ g ≤ 63) y z → (∀ u, u < v → (uns A u = 0 → z.2.1 61 (crs A u) = nI (ga u)) ∧ (uns A u ≠ 0 → z.2.1 62 (crs A u) = nI (ga u) ∧ z.2.1 63 (crs A u) = nI (gb u))) → Tt (fun K i => q_X13_makeArcs K i 8 (nI v) 0 0 n 0 z) (fun z1 => (∀ u, u < A.flatten.length → (uns A u = 0 → z1.2.1 61 (crs A u) = nI (ga u)) ∧ (uns A u ≠ 0 → z1.2.1 62 (crs A u) = nI (ga u) ∧ z1.2.1 63 (crs A u) = nI (gb u))) ∧ fr (fun g => 61 ≤ g ∧ g ≤ 63) y z1) := by
    intro d
    induction d with
    | zero =>
      intro v z hv hf hD
      refine u_X13_makeArcs_8 ?_; unfold qm_X13_makeArcs_8
      exact w_rdF (oA hf).1.V (w_leT (by omega) (by omega) (w_some ⟨fun u hu => hD u (by omega), hf⟩))
    | succ d ih =>
      intro v z hv hf hD
      have hvl : v < A.flatten.length := by omega
      have hO := oA hf
      obtain ⟨c1, c2, c3⟩ := hO.cx hvl
      obtain ⟨ei, hB⟩ := r1 hf v hvl
      refine u_X13_makeArcs_8 ?_; unfold qm_X13_makeArcs_8
      refine w_rdF hO.1.V (w_leF (by omega) hvl (w_rdI (pl4 hn) rfl (by omega) (lk_cu hO.1 hvl).1 (w_rdI (pl5 hn) rfl (by omega) (lk_cu hO.1 hvl).2 (w_eqN (b := 0) (by omega) (by omega) (fun h0 => w_rdI ml59 rfl (by omega) ei (w_wrI ml61 rfl (by omega) ?_)) (fun h0 => ?_)))))
      · refine u_X13_makeArcs_9 ?_; unfold qm_X13_makeArcs_9
        rw [nI_1]
        refine ih (v + 1) _ (by omega) (fr_I2 hf (by omega)) (fun u hu => ⟨fun h9 => ?_, fun h9 => ?_⟩)
        · by_cases huv : u = v
          · rw [huv]
            exact po_usI_at
          · exact rd_ne (fun e => huv (vu_inj hok (by omega) hvl e (h9.trans h0.symm))) ((hD u (by omega)).1 h9)
        · have huv : u ≠ v := fun e => h9 (by rw [e]; exact h0)
          obtain ⟨k1, k2⟩ := (hD u (by omega)).2 h9
          exact ⟨rd_ot (by omega) k1, rd_ot (by omega) k2⟩
      · refine w_rdI ml59 rfl (by omega) ei (w_wrI ml62 rfl (by omega) (w_rdI ml60 rfl (by omega) (rd_ot (by omega) (hB h0)) (w_wrI ml63 rfl (by omega) ?_)))
        refine u_X13_makeArcs_9 ?_; unfold qm_X13_makeArcs_9
        rw [nI_1]
        refine ih (v + 1) _ (by omega) (fr_I2 (fr_I2 hf (by omega)) (by omega)) (fun u hu => ⟨fun h9 => ?_, fun h9 => ?_⟩)
        · have huv : u ≠ v := fun e => h0 (by rw [← e]; exact h9)
          exact rd_ot (by omega) (rd_ot (by omega) ((hD u (by omega)).1 h9))
        · by_cases huv : u = v
          · rw [huv]
            exact ⟨rd_ot (by omega) po_usI_at, po_usI_at⟩
          · have u2 : uns A u < 2 := ((hok.2 _).mp (vAt_mem (A := A) (v := u) (by omega))).2
            have v2 : uns A v < 2 := ((hok.2 _).mp (vAt_mem hvl)).2
            obtain ⟨k1, k2⟩ := (hD u (by omega)).2 h9
            have ne : crs A u ≠ crs A v := fun e => huv (vu_inj hok (by omega) hvl e (by omega))
            exact ⟨rd_ot (by omega) (rd_ne ne k1), rd_ne ne (rd_ot (by omega) k2)⟩
  exact c8 A.flatten.length 0 y (by omega) fr_rf (fun u hu => absurd hu (Nat.not_lt_zero _))
end XM9
end
section
/-! 99zzzzzzzzzzzzzzr.xst7 -/
/-! what is left of the whole: nine cases -/
section XSC
variable {Pc Pr : ow_MS → Prop}
end XSC
end
section
/-! 99zzzzzzzzzzzzzzs.xst8 -/
/-! the nine cases with what is kept so far, and whatever else is wanted -/
section XSD
variable {Qc Qr : ow_MS → Prop}
theorem enW_fr {P : Nat → Prop} {z z1 : ow_MS} (hf : fr P z z1) (hP : ¬ P 98) (h : enW z) : enW z1 := fun n s j n2 n5 hs hj => by
  rw [(hf 98 hP).2.1]
  exact h n s j n2 n5 hs hj
theorem pc_jn {y y1 : ow_MS} (hf : fr jnP y y1) (hs : ∀ D, cOK D → slC y 25000 0 D → slC y1 25000 0 D) (h : cwK y) : cwK y1 := by
  obtain ⟨C, c1, c2, c3⟩ := h
  exact ⟨C, hs C c2 c1, c2, c3.imp id (fun ⟨A, sg, c, q1, q2, q3⟩ => ⟨A, sg, c, q1, q2, cwC_fr hf (by unfold jnP; omega) q3⟩)⟩
theorem cwK_0 {y : ow_MS} (hY : ∀ g, ¬ spc g → y.1 g = 0 ∧ ∀ i, y.2.1 g i = 0) : cwK y := ⟨(0, []), ⟨(hY 25003 (by unfold spc; omega)).2 0, (hY 25002 (by unfold spc; omega)).2 0, fun i a hi => (by rw [List.getElem?_nil] at hi; cases hi)⟩, ⟨Nat.zero_le _, Nat.zero_le _, fun a ha => absurd ha List.not_mem_nil⟩, Or.inl rfl⟩
theorem cwR_0 {z : ow_MS} (hz : ∀ g i, ¬ (73 ≤ g ∧ g ≤ 76 ∨ 97 ≤ g ∧ g ≤ 107) → z.2.1 g i = 0) : cwR z := fun T1 hT => Or.inl (by
  have e := hT.2.2.1
  rw [hz 43 0 (by omega)] at e
  have l := hT.1
  exact List.eq_nil_of_length_eq_zero (nI_inj9 (a := 0) (b := T1.length) (by omega) (by omega) e).symm)
end XSD
end
section
/-! 99zzzzzzzzzzzzzzt.xmpa -/
/-! maps: the reference's tables at the start, and kept -/
section XMA
def epA (z : ow_MS) : Prop := (∀ m, 1 ≤ m → m ≤ 4 → eP9 z m) ∧ ∀ m, m ≤ 4 → z.2.1 73 m = nI (thM m)
theorem epA_fr {P : Nat → Prop} {z z1 : ow_MS} (hf : fr P z z1) (hP : ∀ g, 73 ≤ g → g ≤ 76 → ¬ P g) (h : epA z) : epA z1 := by
  refine ⟨fun m m1 m4 => ⟨fun p a hp ha => ?_, fun o x ho hx hl => ?_⟩, fun m hm => ?_⟩
  · rw [(hf 74 (hP _ (by omega) (by omega))).2.1]
    exact (h.1 m m1 m4).1 p a hp ha
  · rw [(hf 75 (hP _ (by omega) (by omega))).2.1, (hf 76 (hP _ (by omega) (by omega))).2.1]
    exact (h.1 m m1 m4).2 o x ho hx hl
  · rw [(hf 73 (hP _ (by omega) (by omega))).2.1]
    exact h.2 m hm
theorem ep_init {m1 m2 : ow_MS} {b : Nat} (hb : ∀ K, b ≤ K → qe_X13_makeSimples_a K Z13 = some m1 ∧ qe_X13_makePermutations_a K m1 = some m2) : epA (usZ m2 blM) := by
  have h2 : ∀ g i, g ≠ 73 → Z13.2.1 g i = 0 := fun g i hg => by
    show (if g = 73 then fT13 else fun _ => 0) i = 0
    rw [if_neg hg]
  have h73 : ∀ m, m ≤ 4 → Z13.2.1 73 m = nI (thM m) := by
    intro m hm
    have key : ∀ m : Fin 5, fT13 m.val = nI (thM m.val) := by decide +kernel
    exact key ⟨m, by omega⟩
  obtain ⟨r1, ⟨b1, hb1⟩, ⟨-, hf1⟩⟩ := tp_simE (z := Z13) (fun n _ => h2 100 _ (by omega))
  have er1 : r1 = m1 := Option.some.inj ((hb1 (b + b1) (by omega)).symm.trans (hb (b + b1) (by omega)).1)
  subst er1
  obtain ⟨r2, ⟨b2, hb2⟩, ⟨hE, hf2⟩⟩ := tp_permE (z := r1)
  have er2 : r2 = m2 := Option.some.inj ((hb2 (b + b2) (by omega)).symm.trans (hb (b + b2) (by omega)).2)
  subst er2
  refine ⟨fun m m1 m4 => ⟨fun p a hp ha => ?_, fun o x ho hx hl => ?_⟩, fun m hm => ?_⟩
  · rw [show (usZ r2 blM).2.1 74 = r2.2.1 74 from uz_I (m := r2) (by omega)]
    exact (hE m m1 m4).1 p a hp ha
  · rw [show (usZ r2 blM).2.1 75 = r2.2.1 75 from uz_I (m := r2) (by omega), show (usZ r2 blM).2.1 76 = r2.2.1 76 from uz_I (m := r2) (by omega)]
    exact (hE m m1 m4).2 o x ho hx hl
  · rw [show (usZ r2 blM).2.1 73 = r2.2.1 73 from uz_I (m := r2) (by omega), (hf2 73 (by unfold pmP; omega)).2.1, (hf1 73 (by unfold pA; omega)).2.1]
    exact h73 m hm
theorem epA_keep : keepP rfX epA := fun F z z1 hf hF h => epA_fr hf (fun g g1 g2 h9 => hF g h9 (by unfold rfX; omega)) h
end XMA
end
section
/-! 99zzzzzzzzzzzzzzu.xmpb -/
/-! maps: the arcs of the reference, each by its number -/
def aK9 (A : rn_L) : Nat → Nat
  | 0 => 0
  | k + 1 => aK9 A k + max 1 (uN A (rn_b A (k + 1)) - uN A (rn_b A k))
/-- the number of the arc that ends before place u of ring k -/
def gK9 (A : rn_L) (k u : Nat) : Nat := aK9 A k + ((if uN A u = uN A (rn_b A k) then uN A (rn_b A (k + 1)) - uN A (rn_b A k) else uN A u - uN A (rn_b A k)) - 1)
def gA9 (A : rn_L) (v : Nat) : Nat := gK9 A (rn_c A v) v
def gR9 (A : rn_L) (v : Nat) : Nat := gK9 A (rn_c A v) (v + 1)
section XMB
theorem uN_0 {A : rn_L} {b : Nat} : ∀ e, b ≤ e → (∀ u, b ≤ u → u < e → uns A u = 0) → uN A e = uN A b
  | 0, h, _ => by rw [show b = 0 by omega]
  | e + 1, h, hu => by
    by_cases c : b = e + 1
    · rw [c]
    · have ih := uN_0 e (by omega) (fun u h1 h2 => hu u h1 (by omega))
      show uN A e + (if uns A e = 0 then 0 else 1) = _
      rw [if_pos (hu e (by omega) (by omega)), Nat.add_zero, ih]
theorem uN_s1 {A : rn_L} {v : Nat} (h : uns A v = 0) : uN A (v + 1) = uN A v := by
  show uN A v + (if uns A v = 0 then 0 else 1) = _
  rw [if_pos h]
  rfl
theorem uN_s2 {A : rn_L} {v : Nat} (h : uns A v ≠ 0) : uN A (v + 1) = uN A v + 1 := by
  show uN A v + (if uns A v = 0 then 0 else 1) = _
  rw [if_neg h]
theorem gA9_at {A : rn_L} {k v : Nat} (h1 : rn_b A k ≤ v) (h2 : v < rn_b A (k + 1)) : gA9 A v = gK9 A k v := by
  unfold gA9
  rw [rn_c_of A k v h1 h2]
theorem gR9_at {A : rn_L} {k v : Nat} (h1 : rn_b A k ≤ v) (h2 : v < rn_b A (k + 1)) : gR9 A v = gK9 A k (v + 1) := by
  unfold gR9
  rw [rn_c_of A k v h1 h2]
theorem gK9_lt {A : rn_L} {k u : Nat} (h : u ≤ rn_b A (k + 1)) : aK9 A k ≤ gK9 A k u ∧ gK9 A k u < aK9 A (k + 1) := by
  have := uN_mono (A := A) (rn_b A (k + 1)) h
  unfold gK9
  refine ⟨by omega, ?_⟩
  show _ < aK9 A k + max 1 _
  split <;> omega
theorem aK9_mono {A : rn_L} {a : Nat} : ∀ b, a ≤ b → aK9 A a ≤ aK9 A b
  | 0, h => by rw [show a = 0 by omega]; exact Nat.le_refl _
  | b + 1, h => by
    by_cases e : a = b + 1
    · rw [e]; exact Nat.le_refl _
    · have := aK9_mono (A := A) (a := a) b (by omega)
      show aK9 A a ≤ aK9 A b + _
      omega
theorem aK9_le {A : rn_L} : ∀ k, aK9 A k ≤ uN A (rn_b A k) + k
  | 0 => Nat.zero_le _
  | k + 1 => by
    have ih := aK9_le (A := A) k
    have := uN_mono (A := A) (rn_b A (k + 1)) (rn_b_mono A k)
    show aK9 A k + max 1 _ ≤ _
    omega
/-- the arc before a visit is the arc behind the one before it -/
theorem gA9_nx {A : rn_L} {v : Nat} (hv : v < A.flatten.length) : gA9 A (rn_nx A v) = gR9 A v := by
  obtain ⟨c1, c2, c3⟩ := rn_c_in A v hv
  have e := c_nx hv
  unfold gA9 gR9
  rw [e]
  unfold rn_nx
  by_cases h : v + 1 < rn_b A (rn_c A v + 1)
  · rw [if_pos h]
  · rw [if_neg h]
    have ev : v + 1 = rn_b A (rn_c A v + 1) := by omega
    rw [ev]
    unfold gK9
    rw [if_pos rfl]
    by_cases k : uN A (rn_b A (rn_c A v + 1)) = uN A (rn_b A (rn_c A v))
    · rw [if_pos k]
    · rw [if_neg k]
theorem gR9_ov {A : rn_L} {v : Nat} (h : uns A v = 0) : gR9 A v = gA9 A v := by
  unfold gA9 gR9 gK9
  rw [uN_s1 h]
/-- one number: one arc -/
theorem gR9_cn {A : rn_L} {h : Nat → Nat} (hh : ∀ v, v < A.flatten.length → uns A (rn_nx A v) = 0 → h (rn_nx A v) = h v) {v w : Nat} (hv : v < A.flatten.length) (hw : w < A.flatten.length) (e : gR9 A v = gR9 A w) : h v = h w := by
  have key : ∀ v w, v < A.flatten.length → w < A.flatten.length → v ≤ w → gR9 A v = gR9 A w → h v = h w := by
    intro v w hv hw hvw e
    obtain ⟨c1, c2, c3⟩ := rn_c_in A v hv
    obtain ⟨d1, d2, d3⟩ := rn_c_in A w hw
    have l1 := gK9_lt (A := A) (k := rn_c A v) (u := v + 1) (by omega)
    have l2 := gK9_lt (A := A) (k := rn_c A w) (u := w + 1) (by omega)
    have e' : gK9 A (rn_c A v) (v + 1) = gK9 A (rn_c A w) (w + 1) := e
    have ec : rn_c A v = rn_c A w := by
      rcases Nat.lt_trichotomy (rn_c A v) (rn_c A w) with h9 | h9 | h9
      · have := aK9_mono (A := A) (a := rn_c A v + 1) (rn_c A w) (by omega)
        omega
      · exact h9
      · have := aK9_mono (A := A) (a := rn_c A w + 1) (rn_c A v) (by omega)
        omega
    rw [← ec] at d2 d3 e'
    generalize rn_c A v = k at *
    have nx1 : ∀ u, rn_b A k ≤ u → u + 1 < rn_b A (k + 1) → rn_nx A u = u + 1 := fun u h1 h2 => by
      unfold rn_nx
      rw [rn_c_of A k u h1 (by omega), if_pos h2]
    have hb := rn_b_le A (k + 1)
    have st : ∀ d u, rn_b A k ≤ u → u + d < rn_b A (k + 1) → uN A (u + d + 1) = uN A (u + 1) → h (u + d) = h u := by
      intro d
      induction d with
      | zero => exact fun u _ _ _ => rfl
      | succ d ih =>
        intro u h1 h2 h3
        have m1 := uN_mono (A := A) (a := u + 1) (u + d + 1) (by omega)
        have m2 : uN A (u + d + 1) ≤ uN A (u + d + 1 + 1) := uN_mono (A := A) (u + d + 1 + 1) (by omega)
        have h3 : uN A (u + d + 1 + 1) = uN A (u + 1) := h3
        have u0 : uns A (u + d + 1) = 0 := by
          by_cases c : uns A (u + d + 1) = 0
          · exact c
          · have := uN_s2 c
            omega
        have en := nx1 (u + d) (by omega) (by omega)
        have := hh (u + d) (by omega) (by rw [en]; exact u0)
        rw [en] at this
        show h (u + d + 1) = _
        rw [this]
        exact ih u h1 (by omega) (by omega)
    have mv := uN_mono (A := A) (a := rn_b A k) (v + 1) (by omega)
    have mw := uN_mono (A := A) (a := v + 1) (w + 1) (by omega)
    have me := uN_mono (A := A) (a := w + 1) (rn_b A (k + 1)) (by omega)
    by_cases q : uN A (v + 1) = uN A (w + 1)
    · have := st (w - v) v c2 (by omega) (by rw [show v + (w - v) + 1 = w + 1 by omega]; exact q.symm)
      rw [show v + (w - v) = w by omega] at this
      exact this.symm
    · unfold gK9 at e'
      rw [if_neg (show ¬ uN A (w + 1) = uN A (rn_b A k) by omega)] at e'
      by_cases q2 : uN A (v + 1) = uN A (rn_b A k)
      · rw [if_pos q2] at e'
        have qe : uN A (w + 1) = uN A (rn_b A (k + 1)) := by omega
        have s1 := st (rn_b A (k + 1) - 1 - w) w d2 (by omega) (by rw [show w + (rn_b A (k + 1) - 1 - w) + 1 = rn_b A (k + 1) by omega]; exact qe.symm)
        rw [show w + (rn_b A (k + 1) - 1 - w) = rn_b A (k + 1) - 1 by omega] at s1
        have b1 := uN_mono (A := A) (a := rn_b A k + 1) (v + 1) (by omega)
        have b2 : uN A (rn_b A k) ≤ uN A (rn_b A k + 1) := uN_mono (A := A) (rn_b A k + 1) (by omega)
        have s2 := st (v - rn_b A k) (rn_b A k) (Nat.le_refl _) (by omega) (by rw [show rn_b A k + (v - rn_b A k) + 1 = v + 1 by omega]; omega)
        rw [show rn_b A k + (v - rn_b A k) = v by omega] at s2
        have u0 : uns A (rn_b A k) = 0 := by
          by_cases c : uns A (rn_b A k) = 0
          · exact c
          · have := uN_s2 c
            omega
        have en : rn_nx A (rn_b A (k + 1) - 1) = rn_b A k := by
          unfold rn_nx
          rw [rn_c_of A k _ (by omega) (by omega), if_neg (by omega)]
        have := hh (rn_b A (k + 1) - 1) (by omega) (by rw [en]; exact u0)
        rw [en] at this
        rw [s2, this, s1]
      · rw [if_neg q2] at e'
        omega
  rcases Nat.le_total v w with h9 | h9
  · exact key v w hv hw h9 e
  · exact (key w v hw hv h9 e.symm).symm
end XMB
end
