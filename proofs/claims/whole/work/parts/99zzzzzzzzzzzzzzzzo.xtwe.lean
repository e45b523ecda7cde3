/-! two: three letters: R3, the values -/
section XTWE
variable {n g x y w : Nat} {W W1 W2 V A B : wd9} {L M : List (List tk9)}
theorem sg_vB {V : wd9} {p q : tk9} (h : sgm V p = q) (hq : q.2 ≠ 2) : ∀ {B : wd9}, p.1 ∉ nmz B → sgm (B ++ V) p = q
  | [], _ => h
  | l :: B, hp => by
    have hl : p.1 ≠ l.2 := fun h9 => hp (by rw [h9]; exact List.mem_cons_self)
    show sgm (l :: (B ++ V)) p = q
    rw [sgm_o (fun h9 => hl (by rw [h9])) (fun h9 => hl (by rw [h9])), sg_vB h hq (fun h9 => hp (List.mem_cons_of_mem _ h9))]
    exact thz_v hq
theorem r3_gd {ov : Nat → Bool} {a b c : Nat} (hxy : x ≠ y) (hxw : x ≠ w) (hyw : y ≠ w) (hM : orz n W M) (hM1 : orz n W1 (M.map (List.map (t3z x y w)))) (a1 : M.flatten[a]? = some (y, 1)) (a2 : M.flatten[a + 1]? = some (x, 1)) (b1 : M.flatten[b]? = some (w, 1)) (b2 : M.flatten[b + 1]? = some (x, 0)) (c1 : M.flatten[c]? = some (w, 0)) (c2 : M.flatten[c + 1]? = some (y, 0)) (hg : gdz M ov) : gdz (M.map (List.map (t3z x y w))) ov ∧ lay (ov x) (ov y) (ov w) := by
  have ox : ov x = decide (a + 1 < b + 1) := gd_p1 hM hg a2 b2
  have oy : ov y = decide (a < c + 1) := gd_p1 hM hg a1 c2
  have ow : ov w = decide (b < c) := gd_p1 hM hg b1 c1
  have ne : ∀ (i j : Nat) (p q : tk9), M.flatten[i]? = some p → M.flatten[j]? = some q → p ≠ q → i ≠ j := fun i j p q h1 h2 h3 h4 => h3 (by
    rw [h4, h2] at h1
    exact (Option.some.inj h1).symm)
  have n1 : a ≠ c := ne a c _ _ a1 c1 (mk_ne hyw)
  have n2 : a + 1 ≠ c := ne _ _ _ _ a2 c1 (mk_ne hxw)
  have mp : ∀ (i : Nat) (p : tk9), M.flatten[i]? = some p → (M.map (List.map (t3z x y w))).flatten[i]? = some (t3z x y w p) := fun i p h => by
    rw [cj_fl, List.getElem?_map, h]
    rfl
  have pm : ∀ (i : Nat) (p : tk9), (M.map (List.map (t3z x y w))).flatten[i]? = some p → M.flatten[i]? = some (t3z x y w p) := fun i p h => by
    rw [cj_fl, List.getElem?_map] at h
    cases hi : M.flatten[i]? with
    | none =>
      rw [hi] at h
      cases h
    | some q =>
      rw [hi] at h
      have h : some (t3z x y w q) = some p := h
      rw [← Option.some.inj h, t3_i hxy hxw hyw]
  constructor
  · refine gd_p2 hM1 (fun z i1 i0 h1 h0 => ?_)
    have h1 := pm _ _ h1
    have h0 := pm _ _ h0
    by_cases zx : z = x
    · rw [zx] at h1 h0 ⊢
      rw [t3_x1] at h1
      rw [t3_x0] at h0
      have e1 := nd_pos hM.2.1 h1 a1
      have e0 := nd_pos hM.2.1 h0 b1
      rw [ox, e1, e0]
      exact decide_eq_decide.mpr (by omega)
    · by_cases zy : z = y
      · rw [zy] at h1 h0 ⊢
        rw [t3_y1 hxy] at h1
        rw [t3_y0 hxy hyw] at h0
        have e1 := nd_pos hM.2.1 h1 a2
        have e0 := nd_pos hM.2.1 h0 c1
        rw [oy, e1, e0]
        exact decide_eq_decide.mpr (by omega)
      · by_cases zw : z = w
        · rw [zw] at h1 h0 ⊢
          rw [t3_w1 hxw hyw] at h1
          rw [t3_w0 hxw] at h0
          have e1 := nd_pos hM.2.1 h1 b2
          have e0 := nd_pos hM.2.1 h0 c2
          rw [ow, e1, e0]
          exact decide_eq_decide.mpr (by omega)
        · rw [t3_o (p := (z, 1)) zx zy zw] at h1
          rw [t3_o (p := (z, 0)) zx zy zw] at h0
          exact gd_p1 hM hg h1 h0
  · intro h
    rw [ox, ow] at h
    have h := decide_eq_decide.mp h
    rw [ox, oy]
    exact decide_eq_decide.mpr (by omega)
theorem lay_x : ∀ a b c : Bool, (a = c → b = a) → ((!a) = c → b = !a) → b = c := by
  intro a b c
  cases a <;> cases b <;> cases c <;> simp
theorem lay_w : ∀ a b c : Bool, (a = c → b = a) → (a = (!c) → b = a) → a = b := by
  intro a b c
  cases a <;> cases b <;> cases c <;> simp
theorem lay_y : ∀ a b c : Bool, (a = c → b = a) → (a = c → (!b) = a) → a ≠ c := by
  intro a b c
  cases a <;> cases b <;> cases c <;> simp
theorem u01 : ∀ p q : Bool, (if p = q then 0 else 1 : Nat) ≤ 1 := by
  intro p q
  cases p <;> cases q <;> decide
theorem r3_core (hxy : x ≠ y) (hxw : x ≠ w) (hyw : y ≠ w) (ho2 : okw n W2) (ho1 : okw n W1) (m2 : ∀ z, z ∈ nmz W2 ↔ z = x ∨ z = y ∨ z = w ∨ z ∈ nmz V) (m1 : ∀ z, z ∈ nmz W1 ↔ z = w ∨ z = y ∨ z = x ∨ z ∈ nmz V) (vx : x ∉ nmz V) (vy : y ∉ nmz V) (vw : w ∉ nmz V) (ts : ∀ p, sgm W1 (t3z x y w p) = t3z x y w (sgm W2 p)) (tt : ∀ p, tkz n W1 p ↔ tkz n W2 (t3z x y w p)) (s1 : sgm W2 (y, 1) = (x, 1)) (s2 : sgm W2 (w, 1) = (x, 0)) (s3 : sgm W2 (w, 0) = (y, 0)) (hP : ∀ z, z ∈ nmz W2 → PhZ n (dlz z W2)) (hL : orz n W2 L) (gx : ∀ o : Nat → Bool, o y = o w → Fz n (dlz x W2) o = Fz n (dlz x W1) o) (gw : ∀ o : Nat → Bool, o x = o y → Fz n (dlz w W2) o = Fz n (dlz w W1) o) (gy : ∀ o : Nat → Bool, o x ≠ o w → Fz n (dlz y W2) o = Fz n (dlz y W1) o) (gz : ∀ (z : Nat) (o : Nat → Bool), z ∈ nmz V → lay (o x) (o y) (o w) → Fz n (dlz z W2) o = Fz n (dlz z W1) o) : ∃ L1, orz n W1 L1 ∧ ∀ ov : Nat → Bool, lay (ov x) (ov y) (ov w) → vlz (Gz n W2) L ov = vlz (Gz n W1) L1 ov := by
  have n2 : ∀ z, (z = x ∨ z = y ∨ z = w) → z ∈ nmz W2 := fun z hz => (m2 z).mpr (by
    rcases hz with h | h | h
    · exact Or.inl h
    · exact Or.inr (Or.inl h)
    · exact Or.inr (Or.inr (Or.inl h)))
  have n1 : ∀ z, (z = x ∨ z = y ∨ z = w) → z ∈ nmz W1 := fun z hz => (m1 z).mpr (by
    rcases hz with h | h | h
    · exact Or.inr (Or.inr (Or.inl h))
    · exact Or.inr (Or.inl h)
    · exact Or.inl h)
  have tok : ∀ (z i : Nat), (z = x ∨ z = y ∨ z = w) → i < 2 → ∀ L, orz n W2 L → ((z, i) : tk9) ∈ L.flatten := fun z i hz hi L hL => (hL.2.2 _).mpr (Or.inr ⟨hi, n2 z hz⟩)
  obtain ⟨La, ha1, ha2, ha3, ha4, -⟩ := rotA (u := (y, 1)) ho2 hP hL (tok y 1 (Or.inr (Or.inl rfl)) (by omega) L hL) (by rw [s1]; exact mk_ne hxy)
  rw [s1] at ha4
  obtain ⟨Lb, hb1, hb2, hb3, hb4, hb5⟩ := rotA (u := (w, 1)) ho2 hP ha1 (tok w 1 (Or.inr (Or.inr rfl)) (by omega) La ha1) (by rw [s2]; exact mk_ne hxw)
  rw [s2] at hb4
  obtain ⟨M, hc1, hc2, hc3, hc4, hc5⟩ := rotA (u := (w, 0)) ho2 hP hb1 (tok w 0 (Or.inr (Or.inr rfl)) (by omega) Lb hb1) (by rw [s3]; exact mk_ne hyw)
  rw [s3] at hc4
  obtain ⟨a, a1, a2⟩ := adz_k (hc5 _ _ (mk_ne hxw) (hb5 _ _ (mk_ne hxw) ha4))
  obtain ⟨b, b1, b2⟩ := adz_k (hc5 _ _ (mk_ne hxw) hb4)
  obtain ⟨c, c1, c2⟩ := adz_k hc4
  have hM1 : orz n W1 (M.map (List.map (t3z x y w))) := cj_or (t3_i hxy hxw hyw) ts tt hc1
  refine ⟨_, hM1, fun ov hov => ?_⟩
  rw [ha2 ov, hb2 ov, hc2 ov]
  have sk2 := vlz_sk (sk_W ho2 hc1) hc1
  have sk1 := vlz_sk (sk_W ho1 hM1) hM1
  obtain ⟨ov0, g0, e0⟩ := gd_ex hc1 ov
  obtain ⟨g9, l0⟩ := r3_gd hxy hxw hyw hc1 hM1 a1 a2 b1 b2 c1 c2 g0
  have d0 : vlz (Gz n W2) M ov0 = vlz (Gz n W1) (M.map (List.map (t3z x y w))) ov0 := by
    rw [vlz_g g0, vlz_g g9, List.length_map]
  obtain ⟨ov1, k1, k2⟩ : ∃ ov1 : Nat → Bool, (∀ z, (z = x ∨ z = y ∨ z = w) → ov1 z = ov z) ∧ ∀ z, ¬ (z = x ∨ z = y ∨ z = w) → ov1 z = ov0 z := ⟨fun z => if z = x ∨ z = y ∨ z = w then ov z else ov0 z, fun z h => if_pos h, fun z h => if_neg h⟩
  have l1 : lay (ov1 x) (ov1 y) (ov1 w) := by
    rw [k1 x (Or.inl rfl), k1 y (Or.inr (Or.inl rfl)), k1 w (Or.inr (Or.inr rfl))]
    exact hov
  have d1 : vlz (Gz n W2) M ov1 = vlz (Gz n W1) (M.map (List.map (t3z x y w))) ov1 := by
    refine lay_go (D := fun ov => vlz (Gz n W2) M ov = vlz (Gz n W1) (M.map (List.map (t3z x y w))) ov) hxy hxw hyw (fun o z hz h1 h2 h3 => ?_) ov1 l1 3 ov0 (Nat.add_le_add (Nat.add_le_add (u01 _ _) (u01 _ _)) (u01 _ _)) l0 d0 (fun z zx zy zw => (k2 z (fun h9 => h9.elim zx (fun h8 => h8.elim zy zw))).symm)
    have h3 : vlz (Gz n W2) M o = vlz (Gz n W1) (M.map (List.map (t3z x y w))) o := h3
    show vlz (Gz n W2) M (flz o z) = vlz (Gz n W1) (M.map (List.map (t3z x y w))) (flz o z)
    have q2 := sk2 (flz o z) z (n2 z hz)
    have q1 := sk1 (flz o z) z (n1 z hz)
    rw [flz_2] at q2 q1
    rw [q2, q1, h3]
    refine congrArg _ ?_
    show Fz n (dlz z W2) (flz o z) = Fz n (dlz z W1) (flz o z)
    have h1 : o x = o w → o y = o x := h1
    have h2 : flz o z x = flz o z w → flz o z y = flz o z x := h2
    rcases hz with h | h | h
    · rw [h] at h2 ⊢
      rw [flz_at, flz_ot (Ne.symm hxy), flz_ot (Ne.symm hxw)] at h2
      exact gx _ (by rw [flz_ot (Ne.symm hxy), flz_ot (Ne.symm hxw)]; exact lay_x _ _ _ h1 h2)
    · rw [h] at h2 ⊢
      rw [flz_at, flz_ot hxy, flz_ot (Ne.symm hyw)] at h2
      exact gy _ (by rw [flz_ot hxy, flz_ot (Ne.symm hyw)]; exact lay_y _ _ _ h1 h2)
    · rw [h] at h2 ⊢
      rw [flz_at, flz_ot hxw, flz_ot hyw] at h2
      exact gw _ (by rw [flz_ot hxw, flz_ot hyw]; exact lay_w _ _ _ h1 h2)
  refine skR_eq (R := fun o => lay (o x) (o y) (o w)) (G := Gz n W2) (nmz V) (fun o z hR hz => ?_) (fun o z hR hz => sk2 o z ((m2 z).mpr (Or.inr (Or.inr (Or.inr hz))))) (fun o z hR hz => ?_) ov ov1 l1 (fun z hz => ?_) d1
  · show lay (flz o z x) (flz o z y) (flz o z w)
    rw [flz_ot (fun h9 => vx (by rw [h9]; exact hz)), flz_ot (fun h9 => vy (by rw [h9]; exact hz)), flz_ot (fun h9 => vw (by rw [h9]; exact hz))]
    exact hR
  · have q1 := sk1 o z ((m1 z).mpr (Or.inr (Or.inr (Or.inr hz))))
    exact q1.trans (congrArg (skz (o z) _) (gz z o hz hR).symm)
  · by_cases h : z = x ∨ z = y ∨ z = w
    · exact (k1 z h).symm
    · rw [k2 z h]
      refine e0 z (fun h9 => ?_)
      rcases (m2 z).mp h9 with h8 | h8 | h8 | h8
      · exact h (Or.inl h8)
      · exact h (Or.inr (Or.inl h8))
      · exact h (Or.inr (Or.inr h8))
      · exact hz h8
theorem r3_V : ∀ (k : Nat) (B A : wd9) (L : List (List tk9)), (B ++ (g + 1, x) :: (g, y) :: (g + 1, w) :: A).length = k → okw n (B ++ (g + 1, x) :: (g, y) :: (g + 1, w) :: A) → orz n (B ++ (g + 1, x) :: (g, y) :: (g + 1, w) :: A) L → (∀ V, V.length < k → okw n V → PhZ n V) → ∃ L1, orz n (B ++ (g, w) :: (g + 1, y) :: (g, x) :: A) L1 ∧ ∀ ov : Nat → Bool, lay (ov x) (ov y) (ov w) → vlz (Gz n (B ++ (g + 1, x) :: (g, y) :: (g + 1, w) :: A)) L ov = vlz (Gz n (B ++ (g, w) :: (g + 1, y) :: (g, x) :: A)) L1 ov
  | 0, B, A, L, hk, _, _, _ => by
    rw [List.length_append] at hk
    simp at hk
  | k + 1, B, A, L, hk, ho, hL, hP => by
    obtain ⟨⟨hwy, hwx, hyx⟩, ⟨hxA, hxB⟩, ⟨hyA, hyB⟩, ⟨hwA, hwB⟩, hoB⟩ := ok3 ho
    have hwy : w ≠ y := hwy
    have hwx : w ≠ x := hwx
    have hyx : y ≠ x := hyx
    have hxA : x ∉ nmz A := hxA
    have hxB : x ∉ nmz B := hxB
    have hyA : y ∉ nmz A := hyA
    have hyB : y ∉ nmz B := hyB
    have hwA : w ∉ nmz A := hwA
    have hwB : w ∉ nmz B := hwB
    have hxy : x ≠ y := Ne.symm hyx
    have hxw : x ≠ w := Ne.symm hwx
    have hyw : y ≠ w := Ne.symm hwy
    have ho1 := r3_ok ho
    have hts := fun p => t3_sg (g := g) hxy hxw hyw hxA hyA hwA hxB hyB hwB p
    have hti := t3_i hxy hxw hyw
    have htk := fun p => r3_tk (n := n) (g := g) (A := A) (B := B) hxy hxw hyw p
    have hL1 := cj_or hti hts htk hL
    have m2 : ∀ z, z ∈ nmz (B ++ (g + 1, x) :: (g, y) :: (g + 1, w) :: A) ↔ z = x ∨ z = y ∨ z = w ∨ z ∈ nmz (B ++ A) := fun z => nm3
    have m1 : ∀ z, z ∈ nmz (B ++ (g, w) :: (g + 1, y) :: (g, x) :: A) ↔ z = w ∨ z = y ∨ z = x ∨ z ∈ nmz (B ++ A) := fun z => nm3
    have vn : ∀ z, z ∉ nmz A → z ∉ nmz B → z ∉ nmz (B ++ A) := fun z h1 h2 h9 => by
      rw [nm_a] at h9
      exact (List.mem_append.mp h9).elim h2 h1
    have el : (B ++ A).length + 3 = k + 1 := by
      rw [← hk, List.length_append, List.length_append, List.length_cons, List.length_cons, List.length_cons]
      omega
    have l2 : ∀ a b : Nat × Nat, (B ++ a :: b :: A).length = k := fun a b => by
      rw [List.length_append] at el ⊢
      rw [List.length_cons, List.length_cons]
      omega
    have hPd : ∀ z, z ∈ nmz (B ++ (g + 1, x) :: (g, y) :: (g + 1, w) :: A) → PhZ n (dlz z (B ++ (g + 1, x) :: (g, y) :: (g + 1, w) :: A)) := fun z hz => hP _ (by rw [← hk]; exact dlz_lt hz) (ok_dl ho)
    have cc : ∀ (z : Nat) (l : Nat × Nat) (V : wd9), l.2 ≠ z → dlz z (l :: V) = l :: dlz z V := fun z l V h => dlz_c h
    have dx2 : dlz x (B ++ (g + 1, x) :: (g, y) :: (g + 1, w) :: A) = B ++ (g, y) :: (g + 1, w) :: A := by
      rw [dlz_a, dlz_x, cc x (g, y) _ hyx, cc x (g + 1, w) _ hwx, dlz_n hxA, dlz_n hxB]
    have dx1 : dlz x (B ++ (g, w) :: (g + 1, y) :: (g, x) :: A) = B ++ (g, w) :: (g + 1, y) :: A := by
      rw [dlz_a, cc x (g, w) _ hwx, cc x (g + 1, y) _ hyx, dlz_x, dlz_n hxA, dlz_n hxB]
    have dy2 : dlz y (B ++ (g + 1, x) :: (g, y) :: (g + 1, w) :: A) = B ++ (g + 1, x) :: (g + 1, w) :: A := by
      rw [dlz_a, cc y (g + 1, x) _ hxy, dlz_x, cc y (g + 1, w) _ hwy, dlz_n hyA, dlz_n hyB]
    have dy1 : dlz y (B ++ (g, w) :: (g + 1, y) :: (g, x) :: A) = B ++ (g, w) :: (g, x) :: A := by
      rw [dlz_a, cc y (g, w) _ hwy, dlz_x, cc y (g, x) _ hxy, dlz_n hyA, dlz_n hyB]
    have dw2 : dlz w (B ++ (g + 1, x) :: (g, y) :: (g + 1, w) :: A) = B ++ (g + 1, x) :: (g, y) :: A := by
      rw [dlz_a, cc w (g + 1, x) _ hxw, cc w (g, y) _ hyw, dlz_x, dlz_n hwA, dlz_n hwB]
    have dw1 : dlz w (B ++ (g, w) :: (g + 1, y) :: (g, x) :: A) = B ++ (g + 1, y) :: (g, x) :: A := by
      rw [dlz_a, dlz_x, cc w (g + 1, y) _ hyw, cc w (g, x) _ hxw, dlz_n hwA, dlz_n hwB]
    have Y1 : sgm ((g + 1, x) :: (g, y) :: (g + 1, w) :: A) (y, 1) = (x, 1) := by
      rw [sgm_o (mk_ne hyx) (mk_ne hyx), show sgm ((g, y) :: (g + 1, w) :: A) (y, 1) = (g + 1, 2) from sgm_1 (l := (g, y))]
      exact thz_1 (g + 1) x
    have W1 : sgm ((g + 1, x) :: (g, y) :: (g + 1, w) :: A) (w, 1) = (x, 0) := by
      rw [sgm_o (mk_ne hwx) (mk_ne hwx), sgm_o (mk_ne hwy) (mk_ne hwy), show sgm ((g + 1, w) :: A) (w, 1) = (g + 2, 2) from sgm_1 (l := (g + 1, w)), thz_o (g := g) (x := y) (p := (g + 2, 2)) (mk_ne (by omega)) (mk_ne (by omega))]
      exact thz_0 (g + 1) x
    have W0 : sgm ((g + 1, x) :: (g, y) :: (g + 1, w) :: A) (w, 0) = (y, 0) := by
      rw [sgm_o (mk_ne hwx) (mk_ne hwx), sgm_o (mk_ne hwy) (mk_ne hwy), show sgm ((g + 1, w) :: A) (w, 0) = (g + 1, 2) from sgm_0 (l := (g + 1, w)), thz_0 g y]
      exact thz_v (show (0 : Nat) ≠ 2 by decide)
    -- a renaming of two
    have ren : ∀ (a b g1 g2 : Nat) (o : Nat → Bool), a ≠ b → a ∉ nmz A → a ∉ nmz B → b ∉ nmz A → b ∉ nmz B → o a = o b → okw n (B ++ (g1, a) :: (g2, b) :: A) → (∃ L, orz n (B ++ (g1, a) :: (g2, b) :: A) L) → Fz n (B ++ (g1, a) :: (g2, b) :: A) o = Fz n (B ++ (g1, b) :: (g2, a) :: A) o := fun a b g1 g2 o hab aA aB bA bB hoo hok hex => by
      have er : rnW (swz a b) (B ++ (g1, a) :: (g2, b) :: A) = B ++ (g1, b) :: (g2, a) :: A := by
        have e1 : rnW (swz a b) (B ++ (g1, a) :: (g2, b) :: A) = rnW (swz a b) B ++ (g1, swz a b a) :: (g2, swz a b b) :: rnW (swz a b) A := List.map_append
        rw [e1, rnW_n aB bB, rnW_n aA bA, swz_1, swz_2]
      rw [← er]
      refine (rz_F (swz_i a b) k (B ++ (g1, a) :: (g2, b) :: A) o o (l2 _ _) hok hex (fun V hV => hP V (by omega)) (fun z hz9 => ?_)).symm
      by_cases za : z = a
      · rw [za, swz_1, hoo]
      · by_cases zb : z = b
        · rw [zb, swz_2, hoo]
        · rw [swz_o za zb]
    refine r3_core hxy hxw hyw ho ho1 m2 m1 (vn x hxA hxB) (vn y hyA hyB) (vn w hwA hwB) hts htk (sg_vB Y1 (show (1 : Nat) ≠ 2 by decide) hyB) (sg_vB W1 (show (0 : Nat) ≠ 2 by decide) hwB) (sg_vB W0 (show (0 : Nat) ≠ 2 by decide) hwB) hPd hL (fun o hoo => ?_) (fun o hoo => ?_) (fun o hoo => ?_) (fun z o hz9 hoo => ?_)
    · have q1 := ok_dl (x := x) ho
      have q2 := orz_dl ho hL ((m2 x).mpr (Or.inl rfl))
      rw [dx2] at q1 q2
      rw [dx2, dx1]
      exact ren y w g (g + 1) o hyw hyA hyB hwA hwB hoo q1 q2
    · have q1 := ok_dl (x := w) ho
      have q2 := orz_dl ho hL ((m2 w).mpr (Or.inr (Or.inr (Or.inl rfl))))
      rw [dw2] at q1 q2
      rw [dw2, dw1]
      exact ren x y (g + 1) g o hxy hxA hxB hyA hyB hoo q1 q2
    · have q1 := ok_dl (x := y) ho
      obtain ⟨Ly, q2⟩ := orz_dl ho hL ((m2 y).mpr (Or.inr (Or.inl rfl)))
      rw [dy2] at q1 q2
      have q3 := ok_dl (x := y) ho1
      obtain ⟨Lz, q4⟩ := orz_dl ho1 hL1 ((m1 y).mpr (Or.inr (Or.inl rfl)))
      rw [dy1] at q3 q4
      have hP2 : ∀ V, V.length < k → okw n V → PhZ n V := fun V hV => hP V (by omega)
      rw [dy2, dy1, ← hP _ (by rw [l2]; omega) q1 Ly o q2, ← hP _ (by rw [l2]; omega) q3 Lz o q4, r2_V k B A Ly (l2 _ _) q1 q2 hP2 o (Ne.symm hoo), r2_V k B A Lz (l2 _ _) q3 q4 hP2 o hoo]
    · have zx : x ≠ z := fun h9 => vn x hxA hxB (by rw [h9]; exact hz9)
      have zy : y ≠ z := fun h9 => vn y hyA hyB (by rw [h9]; exact hz9)
      have zw : w ≠ z := fun h9 => vn w hwA hwB (by rw [h9]; exact hz9)
      have z2 := (m2 z).mpr (Or.inr (Or.inr (Or.inr hz9)))
      obtain ⟨Lz, hLz⟩ := orz_dl ho hL z2
      have hl := len_dl ho z2
      have hoz := ok_dl (x := z) ho
      have e2 : dlz z (B ++ (g + 1, x) :: (g, y) :: (g + 1, w) :: A) = dlz z B ++ (g + 1, x) :: (g, y) :: (g + 1, w) :: dlz z A := by
        rw [dlz_a, cc z (g + 1, x) _ zx, cc z (g, y) _ zy, cc z (g + 1, w) _ zw]
      have e1 : dlz z (B ++ (g, w) :: (g + 1, y) :: (g, x) :: A) = dlz z B ++ (g, w) :: (g + 1, y) :: (g, x) :: dlz z A := by
        rw [dlz_a, cc z (g, w) _ zw, cc z (g + 1, y) _ zy, cc z (g, x) _ zx]
      have ho1z := ok_dl (x := z) ho1
      have hl1 := len_dl ho1 ((m1 z).mpr (Or.inr (Or.inr (Or.inr hz9))))
      have hl3 : (B ++ (g, w) :: (g + 1, y) :: (g, x) :: A).length = k + 1 := by
        rw [← hk, List.length_append, List.length_append]
        rfl
      rw [e2] at hLz hl hoz
      rw [e1] at ho1z hl1
      rw [e2, e1]
      obtain ⟨L1, j1, j2⟩ := r3_V k (dlz z B) (dlz z A) Lz (by omega) hoz hLz (fun V hV => hP V (by omega))
      rw [← hP _ (by omega) hoz Lz o hLz, ← hP _ (by omega) ho1z L1 o j1]
      exact j2 o hoo
/-- PhZ goes over -/
theorem r3_P (ho : okw n (B ++ (g + 1, x) :: (g, y) :: (g + 1, w) :: A)) (hP : ∀ V, V.length < (B ++ (g + 1, x) :: (g, y) :: (g + 1, w) :: A).length → okw n V → PhZ n V) (h : PhZ n (B ++ (g, w) :: (g + 1, y) :: (g, x) :: A)) : PhZ n (B ++ (g + 1, x) :: (g, y) :: (g + 1, w) :: A) := fun L ov hL => by
  rw [Fz_e ho hL]
  have hO := orc_o hL
  obtain ⟨L1, a1, a2⟩ := r3_V _ B A L rfl ho hL hP
  obtain ⟨L2, b1, b2⟩ := r3_V _ B A _ rfl ho hO hP
  have hG := sk_W ho hL
  have l9 : lay ((fun z => if z = y then ov x else ov z) x) ((fun z => if z = y then ov x else ov z) y) ((fun z => if z = y then ov x else ov z) w) := fun _ => by
    show (if y = y then ov x else ov y) = (if x = y then ov x else ov x)
    rw [if_pos rfl]
    split
    · rfl
    · rfl
  refine skA_eq _ (vlz_sk hG hL) (vlz_sk hG hO) ov (fun z => if z = y then ov x else ov z) (fun z hz => ?_) ?_
  · have zy : z ≠ y := fun h9 => hz (by
      rw [h9]
      exact nm3.mpr (Or.inr (Or.inl rfl)))
    exact (if_neg zy).symm
  · rw [a2 _ l9, b2 _ l9, h L1 _ a1, h L2 _ b1]
theorem r2_P (ho : okw n (B ++ (g, y) :: (g, x) :: A)) (hP : ∀ V, V.length < (B ++ (g, y) :: (g, x) :: A).length → okw n V → PhZ n V) : PhZ n (B ++ (g, y) :: (g, x) :: A) := fun L ov hL => by
  rw [Fz_e ho hL]
  have hO := orc_o hL
  have hG := sk_W ho hL
  obtain ⟨hxy, -⟩ := s2_adj ho
  have l9 : (fun z => if z = y then !ov x else ov z) x ≠ (fun z => if z = y then !ov x else ov z) y := by
    show (if x = y then !ov x else ov x) ≠ (if y = y then !ov x else ov y)
    rw [if_pos rfl, if_neg hxy]
    cases ov x <;> decide
  refine skA_eq _ (vlz_sk hG hL) (vlz_sk hG hO) ov (fun z => if z = y then !ov x else ov z) (fun z hz => ?_) ?_
  · have zy : z ≠ y := fun h9 => hz (by
      rw [h9, nm_a]
      exact List.mem_append_right _ List.mem_cons_self)
    exact (if_neg zy).symm
  · rw [r2_V _ B A L rfl ho hL hP _ l9, r2_V _ B A _ rfl ho hO hP _ l9]
theorem cr_P (h1n : 1 ≤ n) (ho : okw n W) (ho1 : okw (n + 1) W) (h1 : ∀ V, V.length < W.length → okw (n + 1) V → PhZ (n + 1) V) (h2 : ∀ V, V.length ≤ W.length → okw n V → PhZ n V) : PhZ (n + 1) W := fun L ov hL => by
  rw [Fz_e ho1 hL, cr_V h1n _ W L ov rfl ho ho1 hL h1 h2, cr_V h1n _ W _ ov rfl ho ho1 (orc_o hL) h1 h2]
theorem r1_P (hob : okw (g + 1) (B ++ A)) (ho : okw (g + 2) (B ++ (g, x) :: A)) (h1 : ∀ V, V.length < (B ++ (g, x) :: A).length → okw (g + 2) V → PhZ (g + 2) V) (h2 : ∀ V, V.length ≤ (B ++ (g, x) :: A).length → okw (g + 1) V → PhZ (g + 1) V) : PhZ (g + 2) (B ++ (g, x) :: A) := fun L ov hL => by
  rw [Fz_e ho hL, r1_V _ B A L rfl hob ho hL h1 h2, r1_V _ B A _ rfl hob ho (orc_o hL) h1 h2]
end XTWE
