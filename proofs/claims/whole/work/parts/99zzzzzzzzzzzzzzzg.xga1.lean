/-! braids: lists of simple ones as a monoid with common multiples and divisors -/
section XG1
variable {n : Nat}
theorem eqT_pr (h2 : 2 ≤ n) (h5 : n ≤ 5) {P X Y : List Nat} (hP : okT n P) (h : eqT n X Y) : eqT n (P ++ X) (P ++ Y) := fun V hV => eqT_pre h2 h5 V P X Y hV hP h
theorem eqT_ap (h2 : 2 ≤ n) (h5 : n ≤ 5) : ∀ (B : List Nat) {T F : List Nat}, okT n B → okT n T → okT n F → eqT n T F → eqT n (T ++ B) (F ++ B)
  | [], T, F, _, _, _, h => by rw [List.append_nil, List.append_nil]; exact h
  | b :: B, T, F, hB, hT, hF, h => by
    obtain ⟨hb, hB⟩ := okT_c.mp hB
    have hb1 : okT n [b] := okT_c.mpr ⟨hb, okT_n⟩
    have := eqT_ap h2 h5 B hB (okT_a.mpr ⟨hT, hb1⟩) (okT_a.mpr ⟨hF, hb1⟩) (eqT_app h2 h5 hb hT hF h)
    rw [List.append_assoc, List.append_assoc] at this
    exact this
theorem eqT_2 (h2 : 2 ≤ n) (h5 : n ≤ 5) {X Y : List Nat} {v t : Nat} (hX : okT n X) (hY : okT n Y) (hv : v < gNN n) (ht : t < gNN n) : eqT n (X ++ v :: ddG n v t :: Y) (X ++ t :: ddG n t v :: Y) := by
  obtain ⟨e1, e2⟩ := d_pa h2 h5 hv ht
  obtain ⟨s, es⟩ : ∃ s, muG n v (ddG n v t) = s + 1 := ⟨muG n v (ddG n v t) - 1, by omega⟩
  have k1 := eqT_swp h2 h5 (b := ddG n v t) (b' := 0) hX hY hv (dd_lt h2 h5 hv ht) nn_0 es (mu_r0 h2 h5)
  have k2 := eqT_swp h2 h5 (b := ddG n t v) (b' := 0) hX hY ht (dd_lt h2 h5 ht hv) nn_0 (e1.symm.trans es) (mu_r0 h2 h5)
  exact eqT_tr k1 (eqT_sy k2)
/-- one simple one and a list: their common multiple -/
theorem r1_eq (h2 : 2 ≤ n) (h5 : n ≤ 5) : ∀ (T : List Nat) {v : Nat}, v < gNN n → okT n T → eqT n (v :: (r1G n v T).2) (T ++ [(r1G n v T).1])
  | [], v, _, _ => eqT_rf _
  | t :: T, v, hv, h => by
    obtain ⟨ht, hT⟩ := okT_c.mp h
    have hd := dd_lt h2 h5 ht hv
    have ih := r1_eq h2 h5 T hd hT
    obtain ⟨a1, a2, -⟩ := r1_ok h2 h5 T hd hT
    show eqT n (v :: ddG n v t :: (r1G n (ddG n t v) T).2) (t :: T ++ [(r1G n (ddG n t v) T).1])
    exact eqT_tr (eqT_2 (X := []) h2 h5 okT_n a2 hv ht) (eqT_pr (P := [t]) h2 h5 (okT_c.mpr ⟨ht, okT_n⟩) ih)
theorem eqT_c1 (h2 : 2 ≤ n) (h5 : n ≤ 5) {T F : List Nat} {v : Nat} (hv : v < gNN n) (hT : okT n T) (hF : okT n F) (h : eqT n (v :: T) (v :: F)) : eqT n T F := by
  have e := (eqT_1 h hv).2
  have k : ∀ T, okT n T → (r1G n v (v :: T)).2 = 0 :: T := fun T hT => by
    show ddG n v v :: (r1G n (ddG n v v) T).2 = _
    rw [dd_s h2 h5 hv, r1_0 h2 h5 T hT]
  rw [k T hT, k F hF] at e
  exact eqT_tr (eqT_sy (eqT_id (X := []) h2 h5 okT_n hT)) (eqT_tr e (eqT_id (X := []) h2 h5 okT_n hF))
theorem eqT_cl (h2 : 2 ≤ n) (h5 : n ≤ 5) : ∀ (V : List Nat) {T F : List Nat}, okT n V → okT n T → okT n F → eqT n (V ++ T) (V ++ F) → eqT n T F
  | [], _, _, _, _, _, h => h
  | v :: V, T, F, hV, hT, hF, h => by
    obtain ⟨hv, hV⟩ := okT_c.mp hV
    exact eqT_cl h2 h5 V hV hT hF (eqT_c1 h2 h5 hv (okT_a.mpr ⟨hV, hT⟩) (okT_a.mpr ⟨hV, hF⟩) h)
def szT (n : Nat) : List Nat → Nat
  | [] => 0
  | t :: T => szG n t + szT n T
theorem szT_a : ∀ (X Y : List Nat), szT n (X ++ Y) = szT n X + szT n Y
  | [], Y => (Nat.zero_add _).symm
  | x :: X, Y => by
    show szG n x + szT n (X ++ Y) = szG n x + szT n X + szT n Y
    rw [szT_a X Y, Nat.add_assoc]
theorem szT_r1 (h2 : 2 ≤ n) (h5 : n ≤ 5) : ∀ (T : List Nat) {v : Nat}, v < gNN n → okT n T → szT n T + szG n (r1G n v T).1 = szG n v + szT n (r1G n v T).2
  | [], v, _, _ => by
    show 0 + szG n v = szG n v + 0
    omega
  | t :: T, v, hv, h => by
    obtain ⟨ht, hT⟩ := okT_c.mp h
    have ih := szT_r1 h2 h5 T (dd_lt h2 h5 ht hv) hT
    have e := (f_fou h2 h5 hv ht).2.1
    show szG n t + szT n T + szG n (r1G n (ddG n t v) T).1 = szG n v + (szG n (ddG n v t) + szT n (r1G n (ddG n t v) T).2)
    omega
theorem szT_z (h2 : 2 ≤ n) (h5 : n ≤ 5) : ∀ (T : List Nat), (∀ t, t ∈ T → t = 0) → szT n T = 0
  | [], _ => rfl
  | t :: T, h => by
    show szG n t + szT n T = 0
    rw [h t List.mem_cons_self, sz_0 h2 h5, szT_z h2 h5 T (fun s hs => h s (List.mem_cons_of_mem _ hs))]
theorem z_szT (h2 : 2 ≤ n) (h5 : n ≤ 5) : ∀ (T : List Nat), okT n T → szT n T = 0 → eqT n T []
  | [], _, _ => eqT_rf _
  | t :: T, h, e => by
    obtain ⟨ht, hT⟩ := okT_c.mp h
    have e : szG n t + szT n T = 0 := e
    rw [sz_z h2 h5 ht (by omega)]
    exact eqT_tr (eqT_id (X := []) h2 h5 okT_n hT) (z_szT h2 h5 T hT (by omega))
theorem szT_eq (h2 : 2 ≤ n) (h5 : n ≤ 5) : ∀ (F : List Nat) {T : List Nat}, okT n F → okT n T → eqT n T F → szT n T = szT n F
  | [], T, _, hT, h => by
    have := eq_nil h2 h5 T hT (fun v hv => (eqT_1 h hv).1)
    exact szT_z h2 h5 T this
  | f :: F, T, hF, hT, h => by
    obtain ⟨k1, k2⟩ := hd_1 h2 h5 hF h
    obtain ⟨hf, hF'⟩ := okT_c.mp hF
    obtain ⟨-, a2, -⟩ := r1_ok h2 h5 T hf hT
    have e := szT_r1 h2 h5 T hf hT
    rw [k1, sz_0 h2 h5, szT_eq h2 h5 F hF' a2 k2] at e
    exact e
/-- left divisors -/
def dvT (n : Nat) (A B : List Nat) : Prop := ∃ C, okT n C ∧ eqT n B (A ++ C)
theorem dvT_rf (A : List Nat) : dvT n A A := ⟨[], okT_n, by rw [List.append_nil]; exact eqT_rf _⟩
theorem dvT_tr (h2 : 2 ≤ n) (h5 : n ≤ 5) {A B E : List Nat} (hA : okT n A) (hB : okT n B) (h : dvT n A B) (h' : dvT n B E) : dvT n A E := by
  obtain ⟨C, c1, c2⟩ := h
  obtain ⟨C', d1, d2⟩ := h'
  refine ⟨C ++ C', okT_a.mpr ⟨c1, d1⟩, eqT_tr d2 ?_⟩
  rw [← List.append_assoc]
  exact eqT_ap h2 h5 C' d1 hB (okT_a.mpr ⟨hA, c1⟩) c2
theorem dvT_eq {A B B' : List Nat} (h : dvT n A B) (e : eqT n B' B) : dvT n A B' := by
  obtain ⟨C, c1, c2⟩ := h
  exact ⟨C, c1, eqT_tr e c2⟩
theorem dvT_el (h2 : 2 ≤ n) (h5 : n ≤ 5) {A A' B : List Nat} (hA : okT n A) (hA' : okT n A') (h : dvT n A B) (e : eqT n A' A) : dvT n A' B := by
  obtain ⟨C, c1, c2⟩ := h
  exact ⟨C, c1, eqT_tr c2 (eqT_sy (eqT_ap h2 h5 C c1 hA' hA e))⟩
/-- a simple one divides where nothing is left of it -/
theorem dv_r1 (h2 : 2 ≤ n) (h5 : n ≤ 5) {v : Nat} {T : List Nat} (hv : v < gNN n) (hT : okT n T) : dvT n [v] T ↔ (r1G n v T).1 = 0 := by
  constructor
  · rintro ⟨C, c1, c2⟩
    exact (hd_1 h2 h5 (okT_c.mpr ⟨hv, c1⟩) c2).1
  · intro e
    have k := r1_eq h2 h5 T hv hT
    rw [e] at k
    obtain ⟨-, a2, -⟩ := r1_ok h2 h5 T hv hT
    have k2 : eqT n (T ++ [0]) T := by
      have := eqT_id (X := T) (Y := []) h2 h5 hT okT_n
      rw [List.append_nil] at this
      exact this
    exact ⟨_, a2, eqT_sy (eqT_tr k k2)⟩
/-- least common multiples -/
theorem lcm_ex (h2 : 2 ≤ n) (h5 : n ≤ 5) : ∀ (V T : List Nat), okT n V → okT n T → ∃ U, okT n U ∧ dvT n V U ∧ dvT n T U ∧ ∀ A, okT n A → dvT n V A → dvT n T A → dvT n U A
  | [], T, _, hT => ⟨T, hT, ⟨T, hT, eqT_rf _⟩, dvT_rf T, fun A _ _ h => h⟩
  | v :: V, T, hV, hT => by
    obtain ⟨hv, hV⟩ := okT_c.mp hV
    obtain ⟨a1, a2, -⟩ := r1_ok h2 h5 T hv hT
    have ke := r1_eq h2 h5 T hv hT
    obtain ⟨U, u1, ⟨C, c1, c2⟩, u3, u4⟩ := lcm_ex h2 h5 V (r1G n v T).2 hV a2
    have hv1 : okT n [v] := okT_c.mpr ⟨hv, okT_n⟩
    have ha1 : okT n [(r1G n v T).1] := okT_c.mpr ⟨a1, okT_n⟩
    refine ⟨v :: U, okT_c.mpr ⟨hv, u1⟩, ⟨C, c1, eqT_pr (P := [v]) h2 h5 hv1 c2⟩, ?_, fun A hA ⟨C1, p1, p2⟩ ⟨C2, q1, q2⟩ => ?_⟩
    · obtain ⟨B, b1, b2⟩ := u3
      refine ⟨[(r1G n v T).1] ++ B, okT_a.mpr ⟨ha1, b1⟩, eqT_tr (eqT_pr (P := [v]) h2 h5 hv1 b2) ?_⟩
      have k := eqT_ap h2 h5 B b1 (okT_c.mpr ⟨hv, a2⟩) (okT_a.mpr ⟨hT, ha1⟩) ke
      rw [List.append_assoc T] at k
      exact k
    · have p2 : eqT n A (v :: (V ++ C1)) := p2
      obtain ⟨k1, -⟩ := hd_1 h2 h5 (okT_c.mpr ⟨hv, okT_a.mpr ⟨hV, p1⟩⟩) p2
      have k1' : (r1G n v (T ++ C2)).1 = 0 := by
        rw [← (eqT_1 q2 hv).1]
        exact k1
      rw [r1_app] at k1'
      obtain ⟨C3, w1, w2⟩ := (dv_r1 h2 h5 a1 q1).mpr k1'
      have e1 : eqT n A (v :: ((r1G n v T).2 ++ C3)) := by
        refine eqT_tr q2 (eqT_tr (eqT_pr h2 h5 hT w2) ?_)
        rw [← List.append_assoc]
        exact eqT_sy (eqT_ap h2 h5 C3 w1 (okT_c.mpr ⟨hv, a2⟩) (okT_a.mpr ⟨hT, ha1⟩) ke)
      have e2 : eqT n (V ++ C1) ((r1G n v T).2 ++ C3) := eqT_c1 h2 h5 hv (okT_a.mpr ⟨hV, p1⟩) (okT_a.mpr ⟨a2, w1⟩) (eqT_tr (eqT_sy p2) e1)
      obtain ⟨C4, x1, x2⟩ := u4 (V ++ C1) (okT_a.mpr ⟨hV, p1⟩) ⟨C1, p1, eqT_rf _⟩ ⟨C3, w1, e2⟩
      exact ⟨C4, x1, eqT_tr p2 (eqT_pr (P := [v]) h2 h5 hv1 x2)⟩
theorem szT_dv (h2 : 2 ≤ n) (h5 : n ≤ 5) {A B : List Nat} (hA : okT n A) (hB : okT n B) (h : dvT n A B) : szT n A ≤ szT n B ∧ (szT n B ≤ szT n A → eqT n B A) := by
  obtain ⟨C, c1, c2⟩ := h
  have e := szT_eq h2 h5 (A ++ C) (okT_a.mpr ⟨hA, c1⟩) hB c2
  rw [szT_a] at e
  refine ⟨by omega, fun h9 => ?_⟩
  have := eqT_pr h2 h5 hA (z_szT h2 h5 C c1 (by omega))
  rw [List.append_nil] at this
  exact eqT_tr c2 this
/-- greatest common divisors -/
theorem gcd_ex (h2 : 2 ≤ n) (h5 : n ≤ 5) {A B : List Nat} (hA : okT n A) (hB : okT n B) : ∃ C, okT n C ∧ dvT n C A ∧ dvT n C B ∧ ∀ E, okT n E → dvT n E A → dvT n E B → dvT n E C := by
  have key : ∀ (d : Nat) (C : List Nat), okT n C → dvT n C A → dvT n C B → szT n A ≤ szT n C + d → ∃ C, okT n C ∧ dvT n C A ∧ dvT n C B ∧ ∀ E, okT n E → dvT n E A → dvT n E B → dvT n E C := by
    intro d
    induction d with
    | zero =>
      intro C c1 c2 c3 hd
      refine ⟨C, c1, c2, c3, fun E e1 e2 _ => dvT_eq e2 ?_⟩
      exact eqT_sy ((szT_dv h2 h5 c1 hA c2).2 (by omega))
    | succ d ih =>
      intro C c1 c2 c3 hd
      by_cases g : ∀ E, okT n E → dvT n E A → dvT n E B → dvT n E C
      · exact ⟨C, c1, c2, c3, g⟩
      · obtain ⟨E, hE⟩ : ∃ E, ¬ (okT n E → dvT n E A → dvT n E B → dvT n E C) := Classical.byContradiction (fun h9 => g (fun E => Classical.byContradiction (fun h8 => h9 ⟨E, h8⟩)))
        have e1 : okT n E := Classical.byContradiction (fun h9 => hE (fun h8 => absurd h8 h9))
        have e2 : dvT n E A := Classical.byContradiction (fun h9 => hE (fun _ h8 => absurd h8 h9))
        have e3 : dvT n E B := Classical.byContradiction (fun h9 => hE (fun _ _ h8 => absurd h8 h9))
        have e4 : ¬ dvT n E C := fun h9 => hE (fun _ _ _ => h9)
        obtain ⟨U, u1, u2, u3, u4⟩ := lcm_ex h2 h5 C E c1 e1
        refine ih U u1 (u4 A hA c2 e2) (u4 B hB c3 e3) ?_
        obtain ⟨s1, s2⟩ := szT_dv h2 h5 c1 u1 u2
        by_cases q : szT n U ≤ szT n C
        · exact absurd (dvT_eq u3 (eqT_sy (s2 q))) e4
        · omega
  exact key (szT n A) [] okT_n ⟨A, hA, eqT_rf _⟩ ⟨B, hB, eqT_rf _⟩ (by omega)
def gTA (n a : Nat) : Bool := decide (ddG n (ddG n a (gNN n - 1)) (gNN n - 1) = ovG n a) && decide (muG n (ahG n a) a = gNN n - 1 + 1)
theorem ta_2 : ∀ k : Fin 2, gTA 2 k.val = true := by decide +kernel
theorem ta_3 : ∀ k : Fin 6, gTA 3 k.val = true := by decide +kernel
theorem ta_4 : ∀ k : Fin 24, gTA 4 k.val = true := by decide +kernel
theorem ta_5 : ∀ k : Fin 120, gTA 5 k.val = true := by decide +kernel
theorem ta_n (h2 : 2 ≤ n) (h5 : n ≤ 5) {a : Nat} (ha : a < gNN n) : ddG n (ddG n a (gNN n - 1)) (gNN n - 1) = ovG n a ∧ muG n (ahG n a) a = gNN n - 1 + 1 := by
  have k : gTA n a = true := by
    have : n = 2 ∨ n = 3 ∨ n = 4 ∨ n = 5 := by omega
    rcases this with rfl | rfl | rfl | rfl
    · exact ta_2 ⟨a, ha⟩
    · exact ta_3 ⟨a, ha⟩
    · exact ta_4 ⟨a, ha⟩
    · exact ta_5 ⟨a, ha⟩
  unfold gTA at k
  rw [Bool.and_eq_true] at k
  exact ⟨of_decide_eq_true k.1, of_decide_eq_true k.2⟩
/-- a delta goes through -/
theorem D_1 (h2 : 2 ≤ n) (h5 : n ≤ 5) {X Y : List Nat} {a : Nat} (hX : okT n X) (hY : okT n Y) (ha : a < gNN n) : eqT n (X ++ a :: (gNN n - 1) :: Y) (X ++ (gNN n - 1) :: ovG n a :: Y) := by
  have hx := dd_lt h2 h5 ha (dl_lt (n := n))
  have e1 := dd_mu h2 h5 ha dl_lt (d_pk h2 h5 ha).2.2.2.2
  have e2 := dd_mu h2 h5 hx dl_lt (d_pk h2 h5 hx).2.2.2.2
  rw [(ta_n h2 h5 ha).1] at e2
  exact eqT_swp h2 h5 hX hY ha hx (ov_lt h2 h5 ha) e1 e2
theorem D_thr (h2 : 2 ≤ n) (h5 : n ≤ 5) : ∀ (T : List Nat), okT n T → eqT n (T ++ [gNN n - 1]) ((gNN n - 1) :: T.map (ovG n))
  | [], _ => eqT_rf _
  | t :: T, h => by
    obtain ⟨ht, hT⟩ := okT_c.mp h
    have k1 := eqT_pr (P := [t]) h2 h5 (okT_c.mpr ⟨ht, okT_n⟩) (D_thr h2 h5 T hT)
    exact eqT_tr k1 (D_1 (X := []) h2 h5 okT_n (okT_ov h2 h5 hT) ht)
end XG1
