/-! normal forms of braids: lists of simple ones, what they leave of others; a weighted list is told by that -/
section NF1
variable {n : Nat}
theorem nn_0 : 0 < gNN n := by have := nn_pos (n := n); omega
theorem sz_0 (h2 : 2 ≤ n) (h5 : n ≤ 5) : szG n 0 = 0 := (f_fiv h2 h5 (a := 0) (by omega)).2.2.2.1
theorem mu_r0 (h2 : 2 ≤ n) (h5 : n ≤ 5) {p : Nat} : muG n p 0 = p + 1 := by
  unfold muG ltG
  rw [sz_0 h2 h5]
  rfl
theorem mu_l0 (h2 : 2 ≤ n) (h5 : n ≤ 5) {q : Nat} (hq : q < gNN n) : muG n 0 q = q + 1 := (f_one h2 h5 hq).2.2.2.2.1
theorem mu_lt (h2 : 2 ≤ n) (h5 : n ≤ 5) {p q s : Nat} (hp : p < gNN n) (e : muG n p q = s + 1) : s < gNN n ∧ szG n s = szG n p + szG n q := by
  obtain ⟨a1, a2, -⟩ := ev_len h2 h5 (ltG n q) hp e
  rw [lt_len] at a2
  exact ⟨a1, a2⟩
theorem sz_z (h2 : 2 ≤ n) (h5 : n ≤ 5) {k : Nat} (hk : k < gNN n) (e : szG n k = 0) : k = 0 := (f_one h2 h5 hk).2.2.2.2.2.1 e
theorem dd_lt (h2 : 2 ≤ n) (h5 : n ≤ 5) {p q : Nat} (hp : p < gNN n) (hq : q < gNN n) : ddG n p q < gNN n := (f_fou h2 h5 hp hq).1
theorem ev_mu (h2 : 2 ≤ n) (h5 : n ≤ 5) {p e s : Nat} {w : List Nat} (hp : p < gNN n) (hw : evG n 0 w = e + 1) (hs : evG n p w = s + 1) : muG n p e = s + 1 := by
  obtain ⟨k1, k2⟩ := gv_simple h2 h5 hp w hp hs
  have hpp := (d_pk h2 h5 hp).2.2.2.1
  rw [hpp, gv_0] at k1 k2
  have k1 : 0 = ddG n s p := k1
  have k2 : evG n 0 w = ddG n p s + 1 := k2
  have he : e = ddG n p s := by omega
  have hs' := (ev_len h2 h5 w hp hs).1
  rw [he, (d_pa h2 h5 hp hs').1, ← k1]
  exact mu_r0 h2 h5
/-- what a product leaves -/
theorem rR1 (h2 : 2 ≤ n) (h5 : n ≤ 5) {p q s v : Nat} (hp : p < gNN n) (hq : q < gNN n) (hv : v < gNN n) (e : muG n p q = s + 1) : ddG n s v = ddG n q (ddG n p v) := by
  have a := (gv_simple h2 h5 hv (ltG n q) hp e).1
  have b := (gv_simple0 h2 h5 (dd_lt h2 h5 hp hv) (f_one h2 h5 hq).2.2.2.2.1).1
  exact a.symm.trans b
/-- what is left of a product -/
theorem rR2 (h2 : 2 ≤ n) (h5 : n ≤ 5) {p q s v : Nat} (hp : p < gNN n) (hq : q < gNN n) (hv : v < gNN n) (e : muG n p q = s + 1) : muG n (ddG n v p) (ddG n (ddG n p v) q) = ddG n v s + 1 := by
  have a := (gv_simple h2 h5 hv (ltG n q) hp e).2
  have b := (gv_simple0 h2 h5 (dd_lt h2 h5 hp hv) (f_one h2 h5 hq).2.2.2.2.1).2
  exact ev_mu h2 h5 (dd_lt h2 h5 hv hp) b a
theorem dd_0l (h2 : 2 ≤ n) (h5 : n ≤ 5) {v : Nat} (hv : v < gNN n) : ddG n 0 v = v := (f_one h2 h5 hv).2.2.2.2.2.2.1
theorem dd_0r (h2 : 2 ≤ n) (h5 : n ≤ 5) {v : Nat} (hv : v < gNN n) : ddG n v 0 = 0 := (f_one h2 h5 hv).2.2.2.2.2.2.2
theorem dd_s (h2 : 2 ≤ n) (h5 : n ≤ 5) {v : Nat} (hv : v < gNN n) : ddG n v v = 0 := (d_pk h2 h5 hv).2.2.2.1
theorem cubG (h2 : 2 ≤ n) (h5 : n ≤ 5) {a b m : Nat} (ha : a < gNN n) (hb : b < gNN n) (hm : m < gNN n) : ddG n (ddG n a m) (ddG n a b) = ddG n (ddG n m a) (ddG n m b) := by
  obtain ⟨e1, e2⟩ := d_pa h2 h5 ha hm
  obtain ⟨s, hs⟩ : ∃ s, muG n a (ddG n a m) = s + 1 := ⟨muG n a (ddG n a m) - 1, by omega⟩
  rw [← rR1 h2 h5 ha (dd_lt h2 h5 ha hm) hb hs, ← rR1 h2 h5 hm (dd_lt h2 h5 hm ha) hb (by rw [← e1]; exact hs)]
/-- a product and its first factor -/
theorem mu_dd (h2 : 2 ≤ n) (h5 : n ≤ 5) {p q s : Nat} (hp : p < gNN n) (hq : q < gNN n) (e : muG n p q = s + 1) : ddG n s p = 0 ∧ ddG n p s = q := by
  constructor
  · rw [rR1 h2 h5 hp hq hp e, dd_s h2 h5 hp, dd_0r h2 h5 hq]
  · have := rR2 h2 h5 hp hq hp e
    rw [dd_s h2 h5 hp, dd_0l h2 h5 hq, mu_l0 h2 h5 hq] at this
    omega
theorem dd_mu (h2 : 2 ≤ n) (h5 : n ≤ 5) {p s : Nat} (hp : p < gNN n) (hs : s < gNN n) (e : ddG n s p = 0) : muG n p (ddG n p s) = s + 1 := by
  rw [(d_pa h2 h5 hp hs).1, e]
  exact mu_r0 h2 h5
theorem mu_1 (h2 : 2 ≤ n) (h5 : n ≤ 5) {p q : Nat} (hp : p < gNN n) (hq : q < gNN n) (e : muG n p q = 0 + 1) : p = 0 ∧ q = 0 := by
  have := (mu_lt h2 h5 hp e).2
  rw [sz_0 h2 h5] at this
  exact ⟨sz_z h2 h5 hp (by omega), sz_z h2 h5 hq (by omega)⟩
theorem dv_tr (h2 : 2 ≤ n) (h5 : n ≤ 5) {a b c : Nat} (ha : a < gNN n) (hb : b < gNN n) (hc : c < gNN n) (e1 : ddG n b a = 0) (e2 : ddG n c b = 0) : ddG n c a = 0 := by
  have := rR2 h2 h5 ha (dd_lt h2 h5 ha hb) hc (dd_mu h2 h5 ha hb e1)
  rw [e2] at this
  exact (mu_1 h2 h5 (dd_lt h2 h5 hc ha) (dd_lt h2 h5 (dd_lt h2 h5 ha hc) (dd_lt h2 h5 ha hb)) this).1
theorem dv_as (h2 : 2 ≤ n) (h5 : n ≤ 5) {a b : Nat} (ha : a < gNN n) (hb : b < gNN n) (e1 : ddG n b a = 0) (e2 : ddG n a b = 0) : a = b := by
  have := dd_mu h2 h5 ha hb e1
  rw [e2, mu_r0 h2 h5] at this
  omega
/-- lists of simple ones -/
def okT (n : Nat) (T : List Nat) : Prop := ∀ t, t ∈ T → t < gNN n
theorem okT_c {t : Nat} {T : List Nat} : okT n (t :: T) ↔ t < gNN n ∧ okT n T := ⟨fun h => ⟨h t List.mem_cons_self, fun s hs => h s (List.mem_cons_of_mem _ hs)⟩, fun h s hs => by
  rcases List.mem_cons.mp hs with e | hs
  · rw [e]
    exact h.1
  · exact h.2 s hs⟩
theorem okT_a {S T : List Nat} : okT n (S ++ T) ↔ okT n S ∧ okT n T := ⟨fun h => ⟨fun s hs => h s (List.mem_append_left _ hs), fun s hs => h s (List.mem_append_right _ hs)⟩, fun h s hs => (List.mem_append.mp hs).elim (h.1 s) (h.2 s)⟩
def r1G (n : Nat) : Nat → List Nat → Nat × List Nat
  | v, [] => (v, [])
  | v, t :: T => ((r1G n (ddG n t v) T).1, ddG n v t :: (r1G n (ddG n t v) T).2)
def rsG (n : Nat) : List Nat → List Nat → List Nat
  | [], _ => []
  | v :: V, T => (r1G n v T).1 :: rsG n V (r1G n v T).2
def eqT (n : Nat) (T F : List Nat) : Prop := ∀ V, okT n V → rsG n V T = rsG n V F
theorem r1_ok (h2 : 2 ≤ n) (h5 : n ≤ 5) : ∀ (T : List Nat) {v : Nat}, v < gNN n → okT n T → (r1G n v T).1 < gNN n ∧ okT n (r1G n v T).2 ∧ (r1G n v T).2.length = T.length
  | [], v, hv, _ => ⟨hv, fun t ht => absurd ht List.not_mem_nil, rfl⟩
  | t :: T, v, hv, h => by
    obtain ⟨h1, h3⟩ := okT_c.mp h
    obtain ⟨a1, a2, a3⟩ := r1_ok h2 h5 T (dd_lt h2 h5 h1 hv) h3
    refine ⟨a1, okT_c.mpr ⟨dd_lt h2 h5 hv h1, a2⟩, ?_⟩
    show ((r1G n (ddG n t v) T).2.length + 1 = T.length + 1)
    rw [a3]
theorem r1_app : ∀ (X Y : List Nat) (v : Nat), r1G n v (X ++ Y) = ((r1G n (r1G n v X).1 Y).1, (r1G n v X).2 ++ (r1G n (r1G n v X).1 Y).2)
  | [], Y, v => rfl
  | x :: X, Y, v => by
    show ((r1G n (ddG n x v) (X ++ Y)).1, ddG n v x :: (r1G n (ddG n x v) (X ++ Y)).2) = _
    rw [r1_app X Y]
    rfl
theorem r1_0 (h2 : 2 ≤ n) (h5 : n ≤ 5) : ∀ (T : List Nat), okT n T → r1G n 0 T = (0, T)
  | [], _ => rfl
  | t :: T, h => by
    obtain ⟨h1, h3⟩ := okT_c.mp h
    show ((r1G n (ddG n t 0) T).1, ddG n 0 t :: (r1G n (ddG n t 0) T).2) = _
    rw [dd_0r h2 h5 h1, dd_0l h2 h5 h1, r1_0 h2 h5 T h3]
/-- a product divides as its factors do, one behind the other -/
theorem r1_mul (h2 : 2 ≤ n) (h5 : n ≤ 5) : ∀ (T : List Nat) {p q s : Nat}, p < gNN n → q < gNN n → muG n p q = s + 1 → okT n T → (r1G n s T).2 = (r1G n q (r1G n p T).2).2 ∧ muG n (r1G n p T).1 (r1G n q (r1G n p T).2).1 = (r1G n s T).1 + 1
  | [], p, q, s, hp, hq, e, _ => ⟨rfl, e⟩
  | t :: T, p, q, s, hp, hq, e, h => by
    obtain ⟨h1, h3⟩ := okT_c.mp h
    have e2 := rR2 h2 h5 hp hq h1 e
    have e1 := rR1 h2 h5 hp hq h1 e
    obtain ⟨a1, a2⟩ := r1_mul h2 h5 T (dd_lt h2 h5 h1 hp) (dd_lt h2 h5 (dd_lt h2 h5 hp h1) hq) e2 h3
    refine ⟨?_, a2⟩
    show ddG n s t :: (r1G n (ddG n t s) T).2 = ddG n q (ddG n p t) :: _
    rw [e1, a1]
theorem eqT_rf (T : List Nat) : eqT n T T := fun _ _ => rfl
theorem eqT_tr {T F H : List Nat} (h1 : eqT n T F) (h3 : eqT n F H) : eqT n T H := fun V hV => (h1 V hV).trans (h3 V hV)
theorem eqT_sy {T F : List Nat} (h1 : eqT n T F) : eqT n F T := fun V hV => (h1 V hV).symm
theorem okT_n : okT n [] := fun t ht => absurd ht List.not_mem_nil
theorem eqT_1 {T F : List Nat} (h : eqT n T F) {v : Nat} (hv : v < gNN n) : (r1G n v T).1 = (r1G n v F).1 ∧ eqT n (r1G n v T).2 (r1G n v F).2 := by
  constructor
  · have := h [v] (okT_c.mpr ⟨hv, okT_n⟩)
    exact (List.cons.inj this).1
  · intro V hV
    have := h (v :: V) (okT_c.mpr ⟨hv, hV⟩)
    exact (List.cons.inj this).2
theorem eq_swp (h2 : 2 ≤ n) (h5 : n ≤ 5) : ∀ (V X Y : List Nat) {a x b a' b' : Nat}, okT n V → okT n X → okT n Y → a < gNN n → x < gNN n → b' < gNN n → muG n a x = a' + 1 → muG n x b' = b + 1 → rsG n V (X ++ a :: b :: Y) = rsG n V (X ++ a' :: b' :: Y)
  | [], _, _, _, _, _, _, _, _, _, _, _, _, _, _, _ => rfl
  | v :: V, X, Y, a, x, b, a', b', hV, hX, hY, ha, hx, hb', e1, e2 => by
    obtain ⟨hv, hV⟩ := okT_c.mp hV
    obtain ⟨x1, x2, -⟩ := r1_ok h2 h5 X hv hX
    have hb := (mu_lt h2 h5 hx e2).1
    have hda := dd_lt h2 h5 ha x1
    have q1 := rR1 h2 h5 ha hx x1 e1
    have q2 := rR1 h2 h5 hx hb' hda e2
    have q3 := rR2 h2 h5 ha hx x1 e1
    have q4 := rR2 h2 h5 hx hb' hda e2
    rw [← q1] at q2 q4
    have hw : ddG n b (ddG n a (r1G n v X).1) < gNN n := dd_lt h2 h5 hb hda
    obtain ⟨y1, y2, -⟩ := r1_ok h2 h5 Y hw hY
    show (r1G n v (X ++ a :: b :: Y)).1 :: rsG n V (r1G n v (X ++ a :: b :: Y)).2 = (r1G n v (X ++ a' :: b' :: Y)).1 :: rsG n V (r1G n v (X ++ a' :: b' :: Y)).2
    rw [r1_app, r1_app]
    show (r1G n (ddG n b (ddG n a (r1G n v X).1)) Y).1 :: rsG n V ((r1G n v X).2 ++ ddG n (r1G n v X).1 a :: ddG n (ddG n a (r1G n v X).1) b :: (r1G n (ddG n b (ddG n a (r1G n v X).1)) Y).2) = (r1G n (ddG n b' (ddG n a' (r1G n v X).1)) Y).1 :: rsG n V ((r1G n v X).2 ++ ddG n (r1G n v X).1 a' :: ddG n (ddG n a' (r1G n v X).1) b' :: (r1G n (ddG n b' (ddG n a' (r1G n v X).1)) Y).2)
    rw [← q2]
    have ih := eq_swp h2 h5 V (r1G n v X).2 (r1G n (ddG n b (ddG n a (r1G n v X).1)) Y).2 hV x2 y2 (dd_lt h2 h5 x1 ha) (dd_lt h2 h5 hda hx) (dd_lt h2 h5 (by rw [q1]; exact dd_lt h2 h5 hx hda) hb') q3 q4
    rw [ih]
theorem eq_id (h2 : 2 ≤ n) (h5 : n ≤ 5) : ∀ (V X Y : List Nat), okT n V → okT n X → okT n Y → rsG n V (X ++ 0 :: Y) = rsG n V (X ++ Y)
  | [], _, _, _, _, _ => rfl
  | v :: V, X, Y, hV, hX, hY => by
    obtain ⟨hv, hV⟩ := okT_c.mp hV
    obtain ⟨x1, x2, -⟩ := r1_ok h2 h5 X hv hX
    obtain ⟨y1, y2, -⟩ := r1_ok h2 h5 Y x1 hY
    show (r1G n v (X ++ 0 :: Y)).1 :: rsG n V (r1G n v (X ++ 0 :: Y)).2 = (r1G n v (X ++ Y)).1 :: rsG n V (r1G n v (X ++ Y)).2
    rw [r1_app, r1_app]
    show (r1G n (ddG n 0 (r1G n v X).1) Y).1 :: rsG n V ((r1G n v X).2 ++ ddG n (r1G n v X).1 0 :: (r1G n (ddG n 0 (r1G n v X).1) Y).2) = _
    rw [dd_0l h2 h5 x1, dd_0r h2 h5 x1, eq_id h2 h5 V _ _ hV x2 y2]
theorem eqT_swp (h2 : 2 ≤ n) (h5 : n ≤ 5) {X Y : List Nat} {a x b a' b' : Nat} (hX : okT n X) (hY : okT n Y) (ha : a < gNN n) (hx : x < gNN n) (hb' : b' < gNN n) (e1 : muG n a x = a' + 1) (e2 : muG n x b' = b + 1) : eqT n (X ++ a :: b :: Y) (X ++ a' :: b' :: Y) := fun V hV => eq_swp h2 h5 V X Y hV hX hY ha hx hb' e1 e2
theorem eqT_id (h2 : 2 ≤ n) (h5 : n ≤ 5) {X Y : List Nat} (hX : okT n X) (hY : okT n Y) : eqT n (X ++ 0 :: Y) (X ++ Y) := fun V hV => eq_id h2 h5 V X Y hV hX hY
theorem eqT_app (h2 : 2 ≤ n) (h5 : n ≤ 5) {b : Nat} (hb : b < gNN n) {T F : List Nat} (hT : okT n T) (hF : okT n F) (h : eqT n T F) : eqT n (T ++ [b]) (F ++ [b]) := by
  intro V
  induction V generalizing T F b with
  | nil => exact fun _ => rfl
  | cons v V ih =>
    intro hV
    obtain ⟨hv, hV⟩ := okT_c.mp hV
    obtain ⟨e1, e2⟩ := eqT_1 h hv
    obtain ⟨t1, t2, -⟩ := r1_ok h2 h5 T hv hT
    obtain ⟨f1, f2, -⟩ := r1_ok h2 h5 F hv hF
    show (r1G n v (T ++ [b])).1 :: rsG n V (r1G n v (T ++ [b])).2 = (r1G n v (F ++ [b])).1 :: rsG n V (r1G n v (F ++ [b])).2
    rw [r1_app, r1_app]
    show ddG n b (r1G n v T).1 :: rsG n V ((r1G n v T).2 ++ [ddG n (r1G n v T).1 b]) = ddG n b (r1G n v F).1 :: rsG n V ((r1G n v F).2 ++ [ddG n (r1G n v F).1 b])
    rw [← e1, ih (dd_lt h2 h5 t1 hb) t2 f2 e2 hV]
theorem ov_lt (h2 : 2 ≤ n) (h5 : n ≤ 5) {v : Nat} (hv : v < gNN n) : ovG n v < gNN n := (f_one h2 h5 hv).2.2.1
theorem okT_ov (h2 : 2 ≤ n) (h5 : n ≤ 5) {T : List Nat} (h : okT n T) : okT n (T.map (ovG n)) := fun t ht => by
  obtain ⟨s, hs, e⟩ := List.mem_map.mp ht
  rw [← e]
  exact ov_lt h2 h5 (h s hs)
theorem r1_ov (h2 : 2 ≤ n) (h5 : n ≤ 5) : ∀ (T : List Nat) {v : Nat}, v < gNN n → okT n T → r1G n (ovG n v) (T.map (ovG n)) = (ovG n (r1G n v T).1, (r1G n v T).2.map (ovG n))
  | [], v, hv, _ => rfl
  | t :: T, v, hv, h => by
    obtain ⟨h1, h3⟩ := okT_c.mp h
    show ((r1G n (ddG n (ovG n t) (ovG n v)) (T.map (ovG n))).1, ddG n (ovG n v) (ovG n t) :: (r1G n (ddG n (ovG n t) (ovG n v)) (T.map (ovG n))).2) = _
    rw [(d_pb h2 h5 h1 hv).2.2, (d_pb h2 h5 hv h1).2.2, r1_ov h2 h5 T (dd_lt h2 h5 h1 hv) h3]
    rfl
theorem rs_ov (h2 : 2 ≤ n) (h5 : n ≤ 5) : ∀ (V T : List Nat), okT n V → okT n T → rsG n (V.map (ovG n)) (T.map (ovG n)) = (rsG n V T).map (ovG n)
  | [], _, _, _ => rfl
  | v :: V, T, hV, hT => by
    obtain ⟨hv, hV⟩ := okT_c.mp hV
    show (r1G n (ovG n v) (T.map (ovG n))).1 :: rsG n (V.map (ovG n)) (r1G n (ovG n v) (T.map (ovG n))).2 = _
    rw [r1_ov h2 h5 T hv hT]
    show ovG n (r1G n v T).1 :: rsG n (V.map (ovG n)) ((r1G n v T).2.map (ovG n)) = _
    rw [rs_ov h2 h5 V _ hV (r1_ok h2 h5 T hv hT).2.1]
    rfl
theorem eqT_ov (h2 : 2 ≤ n) (h5 : n ≤ 5) {T F : List Nat} (hT : okT n T) (hF : okT n F) (h : eqT n T F) : eqT n (T.map (ovG n)) (F.map (ovG n)) := by
  intro V hV
  have e : (V.map (ovG n)).map (ovG n) = V := by
    rw [List.map_map]
    conv => rhs; rw [← List.map_id V]
    exact List.map_congr_left (fun v hv => (d_pk h2 h5 (hV v hv)).2.2.1)
  rw [← e, rs_ov h2 h5 _ T (okT_ov h2 h5 hV) hT, rs_ov h2 h5 _ F (okT_ov h2 h5 hV) hF, h _ (okT_ov h2 h5 hV)]
/-- no letter can go from g' to g -/
def lwG (n g g' : Nat) : Prop := ∀ a, a + 1 < n → moG n g a ≠ 0 → ddG n g' (moG n 0 a - 1) ≠ 0
def wtL (n : Nat) (G : List Nat) : Prop := ∀ i g g', G[i]? = some g → G[i + 1]? = some g' → lwG n g g'
theorem wtL_t {g : Nat} {G : List Nat} (h : wtL n (g :: G)) : wtL n G := fun i a b h1 h3 => h (i + 1) a b h1 h3
theorem lett (h2 : 2 ≤ n) (h5 : n ≤ 5) {a : Nat} (ha : a + 1 < n) : moG n 0 a - 1 < gNN n := by
  have h1 := (f_two h2 h5 nn_0 ha).2.2.1
  have h3 := nn_0 (n := n)
  omega
theorem lw_div (h2 : 2 ≤ n) (h5 : n ≤ 5) : ∀ (G : List Nat) {g v : Nat}, okT n (g :: G) → wtL n (g :: G) → v < gNN n → (r1G n v (g :: G)).1 = 0 → ddG n g v = 0
  | [], g, v, _, _, _, e => e
  | g' :: G, g, v, hk, hw, hv, e => by
    obtain ⟨hg, hk'⟩ := okT_c.mp hk
    obtain ⟨hg', -⟩ := okT_c.mp hk'
    have hu := dd_lt h2 h5 hg hv
    have ih := lw_div h2 h5 G hk' (wtL_t hw) hu e
    refine Classical.byContradiction (fun hne => ?_)
    obtain ⟨a, ha, m1, m2⟩ := (f_fou h2 h5 hg hv).2.2 hne
    exact hw 0 g g' rfl rfl a ha m1 (dv_tr h2 h5 (lett h2 h5 ha) hu hg' m2 ih)
/-- the head of a list that goes like a weighted one -/
theorem hd_1 (h2 : 2 ≤ n) (h5 : n ≤ 5) {T G : List Nat} {g : Nat} (hG : okT n (g :: G)) (h : eqT n T (g :: G)) : (r1G n g T).1 = 0 ∧ eqT n (r1G n g T).2 G := by
  obtain ⟨hg, hG'⟩ := okT_c.mp hG
  obtain ⟨e1, e2⟩ := eqT_1 h hg
  have e : r1G n g (g :: G) = (0, 0 :: G) := by
    show ((r1G n (ddG n g g) G).1, ddG n g g :: (r1G n (ddG n g g) G).2) = _
    rw [dd_s h2 h5 hg, r1_0 h2 h5 G hG']
  rw [e] at e1 e2
  exact ⟨e1, eqT_tr e2 (eqT_id (X := []) h2 h5 okT_n hG')⟩
theorem hd_2 (h2 : 2 ≤ n) (h5 : n ≤ 5) {T G : List Nat} {g h : Nat} (hG : okT n (g :: G)) (hw : wtL n (g :: G)) (he : eqT n T (g :: G)) (hh : h < gNN n) (e : (r1G n h T).1 = 0) : ddG n g h = 0 := lw_div h2 h5 G hG hw hh (by rw [← (eqT_1 he hh).1]; exact e)
/-- where no letter goes on, the head is whole -/
theorem hd_3 (h2 : 2 ≤ n) (h5 : n ≤ 5) {T G : List Nat} {g h : Nat} (hT : okT n T) (hG : okT n (g :: G)) (hw : wtL n (g :: G)) (he : eqT n T (g :: G)) (hh : h < gNN n) (e : (r1G n h T).1 = 0) (hno : ∀ a, a + 1 < n → moG n h a ≠ 0 → (r1G n (moG n 0 a - 1) (r1G n h T).2).1 ≠ 0) : h = g := by
  have hg := (okT_c.mp hG).1
  have d1 := hd_2 h2 h5 hG hw he hh e
  refine dv_as h2 h5 hh hg d1 (Classical.byContradiction (fun hne => ?_))
  obtain ⟨a, ha, m1, m2⟩ := (f_fou h2 h5 hh hg).2.2 hne
  have hq := dd_lt h2 h5 hh hg
  have hT1 := (r1_ok h2 h5 T hh hT).2.1
  obtain ⟨-, k2⟩ := r1_mul h2 h5 T hh hq (dd_mu h2 h5 hh hg d1) hT
  rw [(hd_1 h2 h5 hG he).1, e] at k2
  have k3 : (r1G n (ddG n h g) (r1G n h T).2).1 = 0 := (mu_1 h2 h5 nn_0 (r1_ok h2 h5 _ hq hT1).1 k2).2
  have hl := lett h2 h5 ha
  obtain ⟨-, k4⟩ := r1_mul h2 h5 (r1G n h T).2 hl (dd_lt h2 h5 hl hq) (dd_mu h2 h5 hl hq m2) hT1
  rw [k3] at k4
  obtain ⟨l1, l2, -⟩ := r1_ok h2 h5 (r1G n h T).2 hl hT1
  exact hno a ha m1 (mu_1 h2 h5 l1 (r1_ok h2 h5 _ (dd_lt h2 h5 hl hq) l2).1 k4).1
end NF1
