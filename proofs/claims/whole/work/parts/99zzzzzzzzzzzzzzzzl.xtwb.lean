/-! two: three letters: orders on both sides -/
def t3z (x y w : Nat) (p : tk9) : tk9 := if p.2 = 1 then (if p.1 = x then (y, 1) else if p.1 = y then (x, 1) else if p.1 = w then (x, 0) else p) else if p.2 = 0 then (if p.1 = x then (w, 1) else if p.1 = w then (y, 0) else if p.1 = y then (w, 0) else p) else p
section XTWB
variable {n g x y w : Nat} {W W' A B : wd9} {L L' P Q : List (List tk9)}
theorem t3_m {t : Nat} : t3z x y w (t, 2) = (t, 2) := rfl
theorem t3_x1 : t3z x y w (x, 1) = (y, 1) := by simp [t3z]
theorem t3_y1 (h : x ≠ y) : t3z x y w (y, 1) = (x, 1) := by simp [t3z, Ne.symm h]
theorem t3_w1 (h1 : x ≠ w) (h2 : y ≠ w) : t3z x y w (w, 1) = (x, 0) := by simp [t3z, Ne.symm h1, Ne.symm h2]
theorem t3_x0 : t3z x y w (x, 0) = (w, 1) := by simp [t3z]
theorem t3_w0 (h1 : x ≠ w) : t3z x y w (w, 0) = (y, 0) := by simp [t3z, Ne.symm h1]
theorem t3_y0 (h : x ≠ y) (h2 : y ≠ w) : t3z x y w (y, 0) = (w, 0) := by simp [t3z, Ne.symm h, h2]
theorem t3_o {p : tk9} (h1 : p.1 ≠ x) (h2 : p.1 ≠ y) (h3 : p.1 ≠ w) : t3z x y w p = p := by simp [t3z, h1, h2, h3]
theorem t3_2 {p : tk9} (h : p.2 = 2) : t3z x y w p = p := by simp [t3z, h]
/-- who is one of the six -/
theorem t3_cs (p : tk9) : p = (x, 1) ∨ p = (x, 0) ∨ p = (y, 1) ∨ p = (y, 0) ∨ p = (w, 1) ∨ p = (w, 0) ∨ (nov x p ∧ nov y p ∧ nov w p) := by
  by_cases a1 : p = (x, 1)
  · exact Or.inl a1
  by_cases a2 : p = (x, 0)
  · exact Or.inr (Or.inl a2)
  by_cases a3 : p = (y, 1)
  · exact Or.inr (Or.inr (Or.inl a3))
  by_cases a4 : p = (y, 0)
  · exact Or.inr (Or.inr (Or.inr (Or.inl a4)))
  by_cases a5 : p = (w, 1)
  · exact Or.inr (Or.inr (Or.inr (Or.inr (Or.inl a5))))
  by_cases a6 : p = (w, 0)
  · exact Or.inr (Or.inr (Or.inr (Or.inr (Or.inr (Or.inl a6)))))
  exact Or.inr (Or.inr (Or.inr (Or.inr (Or.inr (Or.inr ⟨⟨a1, a2⟩, ⟨a3, a4⟩, a5, a6⟩)))))
theorem t3_n {p : tk9} (h1 : nov x p) (h2 : nov y p) (h3 : nov w p) : t3z x y w p = p := by
  obtain ⟨a, i⟩ := p
  by_cases i1 : i = 1
  · subst i1
    exact t3_o (fun h9 => h1.1 (by rw [show a = x from h9])) (fun h9 => h2.1 (by rw [show a = y from h9])) (fun h9 => h3.1 (by rw [show a = w from h9]))
  · by_cases i0 : i = 0
    · subst i0
      exact t3_o (fun h9 => h1.2 (by rw [show a = x from h9])) (fun h9 => h2.2 (by rw [show a = y from h9])) (fun h9 => h3.2 (by rw [show a = w from h9]))
    · simp [t3z, i1, i0]
theorem t3_i (hxy : x ≠ y) (hxw : x ≠ w) (hyw : y ≠ w) (p : tk9) : t3z x y w (t3z x y w p) = p := by
  rcases t3_cs (x := x) (y := y) (w := w) p with h | h | h | h | h | h | ⟨h1, h2, h3⟩
  · rw [h, t3_x1, t3_y1 hxy]
  · rw [h, t3_x0, t3_w1 hxw hyw]
  · rw [h, t3_y1 hxy, t3_x1]
  · rw [h, t3_y0 hxy hyw, t3_w0 hxw]
  · rw [h, t3_w1 hxw hyw, t3_x0]
  · rw [h, t3_w0 hxw, t3_y0 hxy hyw]
  · rw [t3_n h1 h2 h3, t3_n h1 h2 h3]
theorem t3_b (hxy : x ≠ y) (hxw : x ≠ w) (hyw : y ≠ w) {p : tk9} (h : p.2 ≠ 2) : (t3z x y w p).2 ≠ 2 := by
  rcases t3_cs (x := x) (y := y) (w := w) p with h9 | h9 | h9 | h9 | h9 | h9 | ⟨h1, h2, h3⟩
  · rw [h9, t3_x1]
    exact (by decide : (1 : Nat) ≠ 2)
  · rw [h9, t3_x0]
    exact (by decide : (1 : Nat) ≠ 2)
  · rw [h9, t3_y1 hxy]
    exact (by decide : (1 : Nat) ≠ 2)
  · rw [h9, t3_y0 hxy hyw]
    exact (by decide : (0 : Nat) ≠ 2)
  · rw [h9, t3_w1 hxw hyw]
    exact (by decide : (0 : Nat) ≠ 2)
  · rw [h9, t3_w0 hxw]
    exact (by decide : (0 : Nat) ≠ 2)
  · rw [t3_n h1 h2 h3]
    exact h
theorem mk_ne {a b i j : Nat} (h : a ≠ b) : ((a, i) : tk9) ≠ (b, j) := fun h9 => h (Prod.mk.inj h9).1
theorem mk_n2 {a b i j : Nat} (h : i ≠ j) : ((a, i) : tk9) ≠ (b, j) := fun h9 => h (Prod.mk.inj h9).2
theorem t3_sg (hxy : x ≠ y) (hxw : x ≠ w) (hyw : y ≠ w) (hxA : x ∉ nmz A) (hyA : y ∉ nmz A) (hwA : w ∉ nmz A) : ∀ {B : wd9}, x ∉ nmz B → y ∉ nmz B → w ∉ nmz B → ∀ p, sgm (B ++ (g, w) :: (g + 1, y) :: (g, x) :: A) (t3z x y w p) = t3z x y w (sgm (B ++ (g + 1, x) :: (g, y) :: (g + 1, w) :: A) p)
  | [], _, _, _, p => by
    show sgm ((g, w) :: (g + 1, y) :: (g, x) :: A) (t3z x y w p) = t3z x y w (sgm ((g + 1, x) :: (g, y) :: (g + 1, w) :: A) p)
    have w1 : sgm ((g, w) :: (g + 1, y) :: (g, x) :: A) (w, 1) = (g + 1, 2) := sgm_1 (l := (g, w))
    have w0 : sgm ((g, w) :: (g + 1, y) :: (g, x) :: A) (w, 0) = (g, 2) := sgm_0 (l := (g, w))
    have n2 : ((g + 2, 2) : tk9) ≠ (g, 2) := mk_ne (by omega)
    have n3 : ((g + 2, 2) : tk9) ≠ (g + 1, 2) := mk_ne (by omega)
    have n4 : ((g, 2) : tk9) ≠ (g + 1, 2) := mk_ne (by omega)
    have n5 : ((g, 2) : tk9) ≠ (g + 1 + 1, 2) := mk_ne (by omega)
    have n6 : ((g + 1, 2) : tk9) ≠ (g, 2) := mk_ne (by omega)
    have y1 : sgm ((g, w) :: (g + 1, y) :: (g, x) :: A) (y, 1) = (g + 2, 2) := by
      rw [sgm_o (mk_ne hyw) (mk_ne hyw), show sgm ((g + 1, y) :: (g, x) :: A) (y, 1) = (g + 2, 2) from sgm_1 (l := (g + 1, y))]
      exact thz_o n2 n3
    have y0 : sgm ((g, w) :: (g + 1, y) :: (g, x) :: A) (y, 0) = (w, 0) := by
      rw [sgm_o (mk_ne hyw) (mk_ne hyw), show sgm ((g + 1, y) :: (g, x) :: A) (y, 0) = (g + 1, 2) from sgm_0 (l := (g + 1, y))]
      exact thz_0 g w
    have x1 : sgm ((g, w) :: (g + 1, y) :: (g, x) :: A) (x, 1) = (y, 1) := by
      rw [sgm_o (mk_ne hxw) (mk_ne hxw), sgm_o (mk_ne hxy) (mk_ne hxy), show sgm ((g, x) :: A) (x, 1) = (g + 1, 2) from sgm_1 (l := (g, x)), thz_1 (g + 1) y]
      exact thz_v (show (1 : Nat) ≠ 2 by decide)
    have x0 : sgm ((g, w) :: (g + 1, y) :: (g, x) :: A) (x, 0) = (w, 1) := by
      rw [sgm_o (mk_ne hxw) (mk_ne hxw), sgm_o (mk_ne hxy) (mk_ne hxy), show sgm ((g, x) :: A) (x, 0) = (g, 2) from sgm_0 (l := (g, x)), thz_o n4 n5]
      exact thz_1 g w
    have X1 : sgm ((g + 1, x) :: (g, y) :: (g + 1, w) :: A) (x, 1) = (g + 2, 2) := sgm_1 (l := (g + 1, x))
    have X0 : sgm ((g + 1, x) :: (g, y) :: (g + 1, w) :: A) (x, 0) = (g + 1, 2) := sgm_0 (l := (g + 1, x))
    have Y1 : sgm ((g + 1, x) :: (g, y) :: (g + 1, w) :: A) (y, 1) = (x, 1) := by
      rw [sgm_o (mk_ne (Ne.symm hxy)) (mk_ne (Ne.symm hxy)), show sgm ((g, y) :: (g + 1, w) :: A) (y, 1) = (g + 1, 2) from sgm_1 (l := (g, y))]
      exact thz_1 (g + 1) x
    have Y0 : sgm ((g + 1, x) :: (g, y) :: (g + 1, w) :: A) (y, 0) = (g, 2) := by
      rw [sgm_o (mk_ne (Ne.symm hxy)) (mk_ne (Ne.symm hxy)), show sgm ((g, y) :: (g + 1, w) :: A) (y, 0) = (g, 2) from sgm_0 (l := (g, y))]
      exact thz_o n4 n5
    have W1 : sgm ((g + 1, x) :: (g, y) :: (g + 1, w) :: A) (w, 1) = (x, 0) := by
      rw [sgm_o (mk_ne (Ne.symm hxw)) (mk_ne (Ne.symm hxw)), sgm_o (mk_ne (Ne.symm hyw)) (mk_ne (Ne.symm hyw)), show sgm ((g + 1, w) :: A) (w, 1) = (g + 2, 2) from sgm_1 (l := (g + 1, w)), thz_o n2 n3]
      exact thz_0 (g + 1) x
    have W0 : sgm ((g + 1, x) :: (g, y) :: (g + 1, w) :: A) (w, 0) = (y, 0) := by
      rw [sgm_o (mk_ne (Ne.symm hxw)) (mk_ne (Ne.symm hxw)), sgm_o (mk_ne (Ne.symm hyw)) (mk_ne (Ne.symm hyw)), show sgm ((g + 1, w) :: A) (w, 0) = (g + 1, 2) from sgm_0 (l := (g + 1, w)), thz_0 g y]
      exact thz_v (show (0 : Nat) ≠ 2 by decide)
    rcases t3_cs (x := x) (y := y) (w := w) p with h | h | h | h | h | h | ⟨h1, h2, h3⟩
    · rw [h, t3_x1, y1, X1, t3_m]
    · rw [h, t3_x0, w1, X0, t3_m]
    · rw [h, t3_y1 hxy, x1, Y1, t3_x1]
    · rw [h, t3_y0 hxy hyw, w0, Y0, t3_m]
    · rw [h, t3_w1 hxw hyw, x0, W1, t3_x0]
    · rw [h, t3_w0 hxw, y0, W0, t3_y0 hxy hyw]
    · rw [t3_n h1 h2 h3, sgm_o h3.1 h3.2, sgm_o h2.1 h2.2, sgm_o h1.1 h1.2, sgm_o h1.1 h1.2, sgm_o h2.1 h2.2, sgm_o h3.1 h3.2]
      have q1 := sgm_n hxA h1
      have q2 := sgm_n hyA h2
      have q3 := sgm_n hwA h3
      generalize sgm A p = q at q1 q2 q3
      show thz g w (thz (g + 1) y (thz g x q)) = t3z x y w (thz (g + 1) x (thz g y (thz (g + 1) w q)))
      by_cases c0 : q = (g, 2)
      · rw [c0, thz_1, thz_v (p := (x, 1)) (by decide : (1 : Nat) ≠ 2), thz_v (p := (x, 1)) (by decide : (1 : Nat) ≠ 2), thz_o n4 n5, thz_1, thz_v (p := (y, 1)) (by decide : (1 : Nat) ≠ 2), t3_y1 hxy]
      · by_cases c1 : q = (g + 1, 2)
        · rw [c1, thz_0, thz_v (p := (x, 0)) (by decide : (0 : Nat) ≠ 2), thz_v (p := (x, 0)) (by decide : (0 : Nat) ≠ 2), thz_1, thz_v (p := (w, 1)) (by decide : (1 : Nat) ≠ 2), thz_v (p := (w, 1)) (by decide : (1 : Nat) ≠ 2), t3_w1 hxw hyw]
        · by_cases c2 : q = (g + 1 + 1, 2)
          · rw [c2, thz_o (show ((g + 1 + 1, 2) : tk9) ≠ (g, 2) from n2) (show ((g + 1 + 1, 2) : tk9) ≠ (g + 1, 2) from n3), thz_0, thz_v (p := (y, 0)) (by decide : (0 : Nat) ≠ 2), thz_0, thz_v (p := (w, 0)) (by decide : (0 : Nat) ≠ 2), thz_v (p := (w, 0)) (by decide : (0 : Nat) ≠ 2), t3_w0 hxw]
          · rw [thz_o c0 c1, thz_o c1 c2, thz_o c0 c1, thz_o c1 c2, thz_o c0 c1, thz_o c1 c2, t3_n q1 q2 q3]
  | l :: B, hx, hy, hw, p => by
    have lx : l.2 ≠ x := fun h9 => hx (by rw [← h9]; exact List.mem_cons_self)
    have ly : l.2 ≠ y := fun h9 => hy (by rw [← h9]; exact List.mem_cons_self)
    have lw : l.2 ≠ w := fun h9 => hw (by rw [← h9]; exact List.mem_cons_self)
    have ih := t3_sg hxy hxw hyw hxA hyA hwA (fun h9 => hx (List.mem_cons_of_mem _ h9)) (fun h9 => hy (List.mem_cons_of_mem _ h9)) (fun h9 => hw (List.mem_cons_of_mem _ h9)) p
    show sgm (l :: (B ++ (g, w) :: (g + 1, y) :: (g, x) :: A)) (t3z x y w p) = t3z x y w (sgm (l :: (B ++ (g + 1, x) :: (g, y) :: (g + 1, w) :: A)) p)
    by_cases h1 : p = (l.2, 1)
    · rw [h1, t3_o (p := (l.2, 1)) lx ly lw, sgm_1, sgm_1, t3_m]
    · by_cases h0 : p = (l.2, 0)
      · rw [h0, t3_o (p := (l.2, 0)) lx ly lw, sgm_0, sgm_0, t3_m]
      · have k1 : t3z x y w p ≠ (l.2, 1) := fun h9 => h1 (by rw [← t3_i hxy hxw hyw p, h9, t3_o (p := (l.2, 1)) lx ly lw])
        have k0 : t3z x y w p ≠ (l.2, 0) := fun h9 => h0 (by rw [← t3_i hxy hxw hyw p, h9, t3_o (p := (l.2, 0)) lx ly lw])
        rw [sgm_o k1 k0, sgm_o h1 h0, ih]
        generalize sgm (B ++ (g + 1, x) :: (g, y) :: (g + 1, w) :: A) p = q
        by_cases q2 : q.2 = 2
        · rw [t3_2 q2]
          by_cases c0 : q = (l.1, 2)
          · rw [c0, thz_1, t3_o (p := (l.2, 1)) lx ly lw]
          · by_cases c1 : q = (l.1 + 1, 2)
            · rw [c1, thz_0, t3_o (p := (l.2, 0)) lx ly lw]
            · rw [thz_o c0 c1, t3_2 q2]
        · rw [thz_v q2, thz_v (t3_b hxy hxw hyw q2)]
theorem cj_pt {τ : tk9 → tk9} (hs : ∀ p, sgm W' (τ p) = τ (sgm W p)) : ∀ {r : List tk9} {p q : tk9}, pth (sgm W) p r q → pth (sgm W') (τ p) (r.map τ) (τ q)
  | [], p, q, h => by
    have h : sgm W p = q := h
    show sgm W' (τ p) = τ q
    rw [hs, h]
  | a :: r, p, q, h => ⟨by rw [hs, h.1], cj_pt hs h.2⟩
theorem cj_fl {τ : tk9 → tk9} : ∀ (L : List (List tk9)), (L.map (List.map τ)).flatten = L.flatten.map τ
  | [] => rfl
  | c :: L => by
    rw [List.map_cons, List.flatten_cons, List.flatten_cons, List.map_append, cj_fl]
theorem cj_or {τ : tk9 → tk9} (hi : ∀ p, τ (τ p) = p) (hs : ∀ p, sgm W' (τ p) = τ (sgm W p)) (ht : ∀ p, tkz n W' p ↔ tkz n W (τ p)) (h : orz n W L) : orz n W' (L.map (List.map τ)) := by
  refine ⟨fun c hc => ?_, ?_, fun p => ?_⟩
  · obtain ⟨c0, h1, rfl⟩ := List.mem_map.mp hc
    obtain ⟨p, r, rfl, hp⟩ := h.1 c0 h1
    exact ⟨τ p, r.map τ, rfl, cj_pt hs hp⟩
  · rw [cj_fl]
    exact List.Pairwise.map τ (fun a b hab h9 => hab (by rw [← hi a, h9, hi])) h.2.1
  · rw [cj_fl, ht, ← h.2.2]
    constructor
    · intro h9
      obtain ⟨q, h1, h2⟩ := List.mem_map.mp h9
      rw [← h2, hi]
      exact h1
    · intro h9
      exact List.mem_map.mpr ⟨_, h9, hi p⟩
/-- side by side within a component -/
def adz (L : List (List tk9)) (p q : tk9) : Prop := ∃ c, c ∈ L ∧ ∃ u v, c = u ++ p :: q :: v
theorem adz_k {p q : tk9} (h : adz L' p q) : ∃ k, L'.flatten[k]? = some p ∧ L'.flatten[k + 1]? = some q := by
  obtain ⟨c, hc, u, v, rfl⟩ := h
  obtain ⟨P, Q, rfl⟩ := spl_m hc
  refine ⟨P.flatten.length + u.length, ?_, ?_⟩
  · rw [List.flatten_append, List.flatten_cons, List.append_assoc, List.getElem?_append_right (by omega), List.getElem?_append_right (by omega)]
    simp
  · rw [List.flatten_append, List.flatten_cons, List.append_assoc, List.getElem?_append_right (by omega), List.getElem?_append_right (by omega), show P.flatten.length + u.length + 1 - P.flatten.length - u.length = 1 by omega]
    rfl
theorem rotA {u : tk9} (ho : okw n W) (hP : ∀ z, z ∈ nmz W → PhZ n (dlz z W)) (hL : orz n W L) (hu : u ∈ L.flatten) (hne : sgm W u ≠ u) : ∃ L', orz n W L' ∧ (∀ ov, vlz (Gz n W) L ov = vlz (Gz n W) L' ov) ∧ L'.length = L.length ∧ adz L' u (sgm W u) ∧ ∀ p q, q ≠ u → adz L p q → adz L' p q := by
  obtain ⟨c, hc, hu2⟩ := List.mem_flatten.mp hu
  obtain ⟨P, Q, rfl⟩ := spl_m hc
  obtain ⟨a, b, rfl⟩ := spl_m hu2
  have h1 := orz_t hL
  obtain ⟨p, r, e, hp⟩ := h1.1 _ (List.mem_append_right P List.mem_cons_self)
  rw [List.cons_append] at e
  obtain ⟨rfl, e2⟩ := List.cons.inj e
  cases b with
  | nil =>
    rw [List.nil_append] at e2
    refine ⟨P ++ ([u] ++ a) :: Q, h1, bs_r ho (sk_W ho hL) hP a [u] hL, by simp only [List.length_append, List.length_cons], ?_, fun p q hq ⟨c, hc, s, t, ec⟩ => ?_⟩
    · cases r with
      | nil => exact absurd hp hne
      | cons v r =>
        refine ⟨[u] ++ a, List.mem_append_right _ List.mem_cons_self, [], r, ?_⟩
        rw [e2, hp.1]
        rfl
    · rcases List.mem_append.mp hc with h9 | h9
      · exact ⟨c, List.mem_append_left _ h9, s, t, ec⟩
      · rcases List.mem_cons.mp h9 with h8 | h8
        · rw [h8] at ec
          rcases List.eq_nil_or_concat t with ht | ⟨t', b9, ht⟩
          · exfalso
            rw [ht] at ec
            have e5 : a ++ [u] = (s ++ [p]) ++ [q] := by rw [ec, List.append_assoc]; rfl
            have := List.append_inj' e5 rfl
            exact hq (List.cons.inj this.2).1.symm
          · rw [ht] at ec
            have e5 : a ++ [u] = (s ++ p :: q :: t') ++ [b9] := by rw [ec, List.concat_eq_append, List.append_assoc]; rfl
            have := List.append_inj' e5 rfl
            refine ⟨[u] ++ a, List.mem_append_right _ List.mem_cons_self, u :: s, t', ?_⟩
            rw [this.1]
            rfl
        · exact ⟨c, List.mem_append_right _ (List.mem_cons_of_mem _ h8), s, t, ec⟩
  | cons v b =>
    refine ⟨_, hL, fun _ => rfl, rfl, ⟨_, List.mem_append_right _ List.mem_cons_self, a, b, ?_⟩, fun p q _ h9 => h9⟩
    rw [← e2] at hp
    rw [show sgm W u = v from hp.1]
end XTWB
