/-! normal forms of braids: a simple one comes behind a weighted list -/
section NF2
variable {n : Nat}
theorem as1 (h2 : 2 ≤ n) (h5 : n ≤ 5) {p q s t w : Nat} (hp : p < gNN n) (hq : q < gNN n) (ht : t < gNN n) (e1 : muG n p q = s + 1) (e2 : muG n s t = w + 1) : ∃ r, r < gNN n ∧ muG n q t = r + 1 ∧ muG n p r = w + 1 := by
  have hs := (mu_lt h2 h5 hp e1).1
  have hw := (mu_lt h2 h5 hs e2).1
  obtain ⟨a1, a2⟩ := mu_dd h2 h5 hp hq e1
  obtain ⟨b1, b2⟩ := mu_dd h2 h5 hs ht e2
  have d := dv_tr h2 h5 hp hs hw a1 b1
  have k := rR2 h2 h5 hs ht hp e2
  rw [a2, a1, dd_0l h2 h5 ht] at k
  exact ⟨_, dd_lt h2 h5 hp hw, k, dd_mu h2 h5 hp hw d⟩
theorem as2 (h2 : 2 ≤ n) (h5 : n ≤ 5) {p q s t r w : Nat} (hp : p < gNN n) (hq : q < gNN n) (ht : t < gNN n) (e1 : muG n p q = s + 1) (e2 : muG n q t = r + 1) (e3 : muG n p r = w + 1) : muG n s t = w + 1 := by
  have hs := (mu_lt h2 h5 hp e1).1
  have hr := (mu_lt h2 h5 hq e2).1
  have hw := (mu_lt h2 h5 hp e3).1
  obtain ⟨a1, a2⟩ := mu_dd h2 h5 hp hr e3
  obtain ⟨b1, b2⟩ := mu_dd h2 h5 hq ht e2
  have k := rR2 h2 h5 hp hq hw e1
  rw [a1, a2, b1, mu_l0 h2 h5 nn_0] at k
  have d : ddG n w s = 0 := by omega
  have k2 := dd_mu h2 h5 hs hw d
  rw [rR1 h2 h5 hp hq hw e1, a2, b2] at k2
  exact k2
theorem rvT_0 (h2 : 2 ≤ n) (h5 : n ≤ 5) : rvT n 0 = 0 := by
  have h0 := nn_0 (n := n)
  have hr := (d_pk h2 h5 h0).1
  have e := mu_l0 h2 h5 h0
  have k := (d_pb h2 h5 h0 h0).2.1 (by rw [e]; omega)
  rw [e] at k
  have := (mu_lt h2 h5 hr k).2
  exact sz_z h2 h5 hr (by rw [show 0 + 1 - 1 = 0 from rfl] at this; omega)
/-- two simple ones without a common beginning, and what may come behind both rests -/
theorem domD (h2 : 2 ≤ n) (h5 : n ≤ 5) {s c r U : Nat} (hs : s < gNN n) (hc : c < gNN n) (hr : r < gNN n) (cop : ∀ v, v < gNN n → ddG n s v = 0 → ddG n c v = 0 → v = 0) (hU : muG n s (ddG n s c) = U + 1) (m1 : muG n (ddG n s c) r ≠ 0) (m2 : muG n (ddG n c s) r ≠ 0) : muG n U r ≠ 0 := by
  have hc1 := dd_lt h2 h5 hs hc
  have hs1 := dd_lt h2 h5 hc hs
  have hUl := (mu_lt h2 h5 hs hU).1
  have hU2 : muG n c (ddG n c s) = U + 1 := by rw [← (d_pa h2 h5 hs hc).1]; exact hU
  obtain ⟨A, hA⟩ : ∃ A, A = rvT n (ddG n s c) := ⟨_, rfl⟩
  obtain ⟨B, hB⟩ : ∃ B, B = rvT n (ddG n c s) := ⟨_, rfl⟩
  obtain ⟨S, hS⟩ : ∃ S, S = rvT n s := ⟨_, rfl⟩
  obtain ⟨C, hC⟩ : ∃ C, C = rvT n c := ⟨_, rfl⟩
  obtain ⟨R, hR⟩ : ∃ R, R = rvT n r := ⟨_, rfl⟩
  obtain ⟨V, hV⟩ : ∃ V, V = rvT n U := ⟨_, rfl⟩
  have lA : A < gNN n := by rw [hA]; exact (d_pk h2 h5 hc1).1
  have lB : B < gNN n := by rw [hB]; exact (d_pk h2 h5 hs1).1
  have lS : S < gNN n := by rw [hS]; exact (d_pk h2 h5 hs).1
  have lC : C < gNN n := by rw [hC]; exact (d_pk h2 h5 hc).1
  have lR : R < gNN n := by rw [hR]; exact (d_pk h2 h5 hr).1
  have lV : V < gNN n := by rw [hV]; exact (d_pk h2 h5 hUl).1
  have eA : muG n A S = V + 1 := by
    have := (d_pb h2 h5 hs hc1).2.1 (by rw [hU]; omega)
    rw [hU, Nat.add_sub_cancel, ← hA, ← hS, ← hV] at this
    exact this
  have eB : muG n B C = V + 1 := by
    have := (d_pb h2 h5 hc hs1).2.1 (by rw [hU2]; omega)
    rw [hU2, Nat.add_sub_cancel, ← hB, ← hC, ← hV] at this
    exact this
  have rA : muG n R A ≠ 0 := by
    have := (d_pb h2 h5 hc1 hr).2.1 m1
    rw [← hA, ← hR] at this
    rw [this]
    omega
  have rB : muG n R B ≠ 0 := by
    have := (d_pb h2 h5 hs1 hr).2.1 m2
    rw [← hB, ← hR] at this
    rw [this]
    omega
  have hD : gNN n - 1 < gNN n := by have := nn_0 (n := n); omega
  obtain ⟨M, hM⟩ : ∃ M, M = ddG n R (gNN n - 1) := ⟨_, rfl⟩
  have lM : M < gNN n := by rw [hM]; exact dd_lt h2 h5 lR hD
  have dA : ddG n M A = 0 := by rw [hM]; exact (d_pb h2 h5 lR lA).1.mp rA
  have dB : ddG n M B = 0 := by rw [hM]; exact (d_pb h2 h5 lR lB).1.mp rB
  have lq := dd_lt h2 h5 lA lB
  have lq' := dd_lt h2 h5 lB lA
  obtain ⟨j1, j2⟩ := d_pa h2 h5 lA lB
  obtain ⟨L, hL⟩ : ∃ L, muG n A (ddG n A B) = L + 1 := ⟨muG n A (ddG n A B) - 1, by omega⟩
  have hL' : muG n B (ddG n B A) = L + 1 := by rw [← j1]; exact hL
  have dL : ddG n M L = 0 := by
    have k := rR2 h2 h5 lA lq lM hL
    rw [cubG h2 h5 lA lB lM, dA, dB, dd_0l h2 h5 nn_0, mu_l0 h2 h5 nn_0] at k
    omega
  obtain ⟨u1, u2⟩ := mu_dd h2 h5 lA lS eA
  obtain ⟨w1, w2⟩ := mu_dd h2 h5 lB lC eB
  have q1 : ddG n S (ddG n A B) = 0 := by rw [← rR1 h2 h5 lA lS lB eA]; exact w1
  have q2 : ddG n C (ddG n B A) = 0 := by rw [← rR1 h2 h5 lB lC lA eB]; exact u1
  have e1 := dd_mu h2 h5 lq lS q1
  have e2 := dd_mu h2 h5 lq' lC q2
  have ee : ddG n (ddG n A B) S = ddG n (ddG n B A) C := by
    have a := rR1 h2 h5 lA lq lV hL
    have b := rR1 h2 h5 lB lq' lV hL'
    rw [u2] at a
    rw [w2] at b
    exact a.symm.trans b
  have le := dd_lt h2 h5 lq lS
  have v1 : ddG n s (rvT n (ddG n (ddG n A B) S)) = 0 := by
    have k := (d_pb h2 h5 lq le).2.1 (by rw [e1]; omega)
    rw [e1, Nat.add_sub_cancel] at k
    have k2 := (mu_dd h2 h5 (d_pk h2 h5 le).1 (d_pk h2 h5 lq).1 k).1
    rw [hS, (d_pk h2 h5 hs).2.1] at k2
    rw [hS]
    exact k2
  have v2 : ddG n c (rvT n (ddG n (ddG n A B) S)) = 0 := by
    rw [ee]
    have le' := dd_lt h2 h5 lq' lC
    have k := (d_pb h2 h5 lq' le').2.1 (by rw [e2]; omega)
    rw [e2, Nat.add_sub_cancel] at k
    have k2 := (mu_dd h2 h5 (d_pk h2 h5 le').1 (d_pk h2 h5 lq').1 k).1
    rw [hC, (d_pk h2 h5 hc).2.1] at k2
    rw [hC]
    exact k2
  have e0 : ddG n (ddG n A B) S = 0 := by
    have k := cop _ (d_pk h2 h5 le).1 v1 v2
    have k2 := (d_pk h2 h5 le).2.1
    rw [k, rvT_0 h2 h5] at k2
    exact k2.symm
  rw [e0, mu_r0 h2 h5] at e1
  have eq : ddG n A B = S := by omega
  rw [eq, eA] at hL
  have eL : L = V := by omega
  rw [eL] at dL
  have fin : muG n R V ≠ 0 := (d_pb h2 h5 lR lV).1.mpr (by rw [← hM]; exact dL)
  have k := (d_pb h2 h5 lR lV).2.1 fin
  rw [hV, hR, (d_pk h2 h5 hUl).2.1, (d_pk h2 h5 hr).2.1] at k
  rw [k]
  omega
theorem mu_let (h2 : 2 ≤ n) (h5 : n ≤ 5) {p a : Nat} (ha : a + 1 < n) : muG n p (moG n 0 a - 1) = moG n p a := by
  unfold muG
  rw [ltG_1 h2 h5 ha]
  show (if a + 1 < n then (if moG n p a = 0 then 0 else (moG n p a - 1) + 1) else 0) = _
  rw [if_pos ha]
  by_cases e : moG n p a = 0
  · rw [if_pos e, e]
  · rw [if_neg e]
    omega
theorem mu_sub (h2 : 2 ≤ n) (h5 : n ≤ 5) {p q r : Nat} (hp : p < gNN n) (hq : q < gNN n) (hr : r < gNN n) (m : muG n p q ≠ 0) (d : ddG n q r = 0) : muG n p r ≠ 0 := by
  have hD : gNN n - 1 < gNN n := by have := nn_0 (n := n); omega
  exact (d_pb h2 h5 hp hr).1.mpr (dv_tr h2 h5 hr hq (dd_lt h2 h5 hp hD) d ((d_pb h2 h5 hp hq).1.mp m))
/-- letters that went on to the left leave a weighted pair on the right -/
theorem dom2 (h2 : 2 ≤ n) (h5 : n ≤ 5) {p s x u y t a : Nat} (hp : p < gNN n) (hs : s < gNN n) (hx : x < gNN n) (hy : y < gNN n) (ht : t < gNN n) (hw : lwG n p s) (e1 : muG n s x = u + 1) (m : muG n p y ≠ 0) (e2 : muG n y t = u + 1) (ha : a + 1 < n) (m1 : muG n x (moG n 0 a - 1) ≠ 0) (m2 : muG n t (moG n 0 a - 1) ≠ 0) : muG n u (moG n 0 a - 1) ≠ 0 := by
  have hl := lett h2 h5 ha
  have hu := (mu_lt h2 h5 hs e1).1
  obtain ⟨s1, s2⟩ := mu_dd h2 h5 hs hx e1
  obtain ⟨y1, y2⟩ := mu_dd h2 h5 hy ht e2
  have cop : ∀ v, v < gNN n → ddG n s v = 0 → ddG n y v = 0 → v = 0 := fun v hv d1 d2 => by
    refine Classical.byContradiction (fun hne => ?_)
    have h0 := dd_0l h2 h5 hv
    obtain ⟨b, hb, m1, m2⟩ := (f_fou h2 h5 nn_0 hv).2.2 (by rw [h0]; exact hne)
    rw [h0] at m2
    have hlb := lett h2 h5 hb
    have k := mu_sub h2 h5 hp hv hlb (mu_sub h2 h5 hp hy hv m d2) m2
    rw [mu_let h2 h5 hb] at k
    exact hw b hb k (dv_tr h2 h5 hlb hv hs m2 d1)
  have hc1 := dd_lt h2 h5 hs hy
  have hs1 := dd_lt h2 h5 hy hs
  obtain ⟨j1, j2⟩ := d_pa h2 h5 hs hy
  obtain ⟨U, hU⟩ : ∃ U, muG n s (ddG n s y) = U + 1 := ⟨muG n s (ddG n s y) - 1, by omega⟩
  have hU2 : muG n y (ddG n y s) = U + 1 := by rw [← j1]; exact hU
  have lU := (mu_lt h2 h5 hs hU).1
  have dU : ddG n u U = 0 := by
    have k := rR2 h2 h5 hs hc1 hu hU
    rw [cubG h2 h5 hs hy hu, s1, y1, dd_0l h2 h5 nn_0, mu_l0 h2 h5 nn_0] at k
    omega
  have lz := dd_lt h2 h5 lU hu
  have ez := dd_mu h2 h5 lU hu dU
  have x1 : muG n (ddG n s y) (ddG n U u) = x + 1 := by
    have k := rR2 h2 h5 lU lz hs ez
    obtain ⟨k1, k2⟩ := mu_dd h2 h5 hs hc1 hU
    rw [k2, k1, dd_0l h2 h5 lz, s2] at k
    exact k
  have t1 : muG n (ddG n y s) (ddG n U u) = t + 1 := by
    have k := rR2 h2 h5 lU lz hy ez
    obtain ⟨k1, k2⟩ := mu_dd h2 h5 hy hs1 hU2
    rw [k2, k1, dd_0l h2 h5 lz, y2] at k
    exact k
  obtain ⟨w, hw1⟩ : ∃ w, muG n x (moG n 0 a - 1) = w + 1 := ⟨muG n x (moG n 0 a - 1) - 1, by omega⟩
  obtain ⟨w', hw2⟩ : ∃ w', muG n t (moG n 0 a - 1) = w' + 1 := ⟨muG n t (moG n 0 a - 1) - 1, by omega⟩
  obtain ⟨r, r1, r2, r3⟩ := as1 h2 h5 hc1 lz hl x1 hw1
  obtain ⟨r', r1', r2', r3'⟩ := as1 h2 h5 hs1 lz hl t1 hw2
  have er : r' = r := by rw [r2] at r2'; omega
  rw [er] at r3'
  have fin := domD h2 h5 hs hy r1 cop hU (by rw [r3]; omega) (by rw [r3']; omega)
  obtain ⟨W, hW⟩ : ∃ W, muG n U r = W + 1 := ⟨muG n U r - 1, by omega⟩
  rw [as2 h2 h5 lU lz hl ez r2 hW]
  omega
/-- while letters go to the left: L is what F with one more behind it has become, weighted from i + 1 on -/
def wzI (n : Nat) (F : List Nat) (T L : List Nat) (i : Nat) : Prop := okT n L ∧ L.length = F.length + 1 ∧ eqT n T L ∧ (∀ j, j < i → L[j]? = F[j]?) ∧ (∀ j g g', i ≤ j → L[j]? = some g → L[j + 1]? = some g' → lwG n g g') ∧ (i < F.length → ∃ s x u, F[i]? = some s ∧ L[i]? = some u ∧ x < gNN n ∧ muG n s x = u + 1 ∧ ∀ t a, L[i + 1]? = some t → a + 1 < n → ddG n t (moG n 0 a - 1) = 0 → muG n x (moG n 0 a - 1) ≠ 0)
theorem wz_0 (h2 : 2 ≤ n) (h5 : n ≤ 5) {F T : List Nat} {b : Nat} (hF : okT n F) (hb : b < gNN n) (he : eqT n T (F ++ [b])) : wzI n F T (F ++ [b]) F.length := by
  refine ⟨okT_a.mpr ⟨hF, okT_c.mpr ⟨hb, okT_n⟩⟩, by rw [List.length_append]; rfl, he, fun j hj => List.getElem?_append_left hj, fun j g g' hj _ h9 => ?_, fun h9 => absurd h9 (Nat.lt_irrefl _)⟩
  have := (List.getElem?_eq_some_iff.mp h9).1
  rw [List.length_append] at this
  have : j + 1 < F.length + 1 := this
  omega
/-- the end: weighted -/
theorem wz_end {F T L : List Nat} (hw : wtL n F) (h : wzI n F T L 0) : wtL n L := fun j g g' h1 h3 => h.2.2.2.2.1 j g g' (Nat.zero_le _) h1 h3
theorem wz_stop {F T L : List Nat} {i a b : Nat} (hw : wtL n F) (h : wzI n F T L (i + 1)) (ea : L[i]? = some a) (eb : L[i + 1]? = some b) (hl : lwG n a b) : wtL n L := by
  obtain ⟨h1, h3, h4, h6, h7, h8⟩ := h
  intro j g g' k1 k2
  by_cases c1 : i + 1 ≤ j
  · exact h7 j g g' c1 k1 k2
  · by_cases c2 : j = i
    · subst c2
      rw [ea] at k1
      rw [eb] at k2
      cases k1
      cases k2
      exact hl
    · rw [h6 j (by omega)] at k1
      rw [h6 (j + 1) (by omega)] at k2
      exact hw j g g' k1 k2
/-- one pair is weighed -/
theorem wz_step (h2 : 2 ≤ n) (h5 : n ≤ 5) {F T L : List Nat} {i a b x a' b' : Nat} (hF : okT n F) (hw : wtL n F) (h : wzI n F T L (i + 1)) (ea : L[i]? = some a) (eb : L[i + 1]? = some b) (hx : x < gNN n) (hb' : b' < gNN n) (e1 : muG n a x = a' + 1) (e2 : muG n x b' = b + 1) (hl : lwG n a' b') : wzI n F T ((L.set i a').set (i + 1) b') i := by
  obtain ⟨h1, h3, h4, h6, h7, h8⟩ := h
  have li := (List.getElem?_eq_some_iff.mp ea).1
  have li1 := (List.getElem?_eq_some_iff.mp eb).1
  have ha := h1 a (List.mem_of_getElem? ea)
  have hb := h1 b (List.mem_of_getElem? eb)
  have ha' := (mu_lt h2 h5 ha e1).1
  have eF : F[i]? = some a := by rw [← h6 i (by omega)]; exact ea
  have sp : L = L.take i ++ a :: b :: L.drop (i + 2) := by
    conv => lhs; rw [← List.take_append_drop i L]
    congr 1
    rw [List.drop_eq_getElem_cons li, List.drop_eq_getElem_cons li1, Option.some.inj ((List.getElem?_eq_getElem li).symm.trans ea), Option.some.inj ((List.getElem?_eq_getElem li1).symm.trans eb)]
  have lt : (L.take i).length = i := by rw [List.length_take]; omega
  have sp2 : (L.set i a').set (i + 1) b' = L.take i ++ a' :: b' :: L.drop (i + 2) := by
    conv => lhs; rw [sp]
    rw [List.set_append_right _ _ (by omega), lt, Nat.sub_self, List.set_cons_zero, List.set_append_right _ _ (by omega), lt, show i + 1 - i = 1 by omega, List.set_cons_succ, List.set_cons_zero]
  have okX : okT n (L.take i) := fun t ht => h1 t (List.mem_of_mem_take ht)
  have okY : okT n (L.drop (i + 2)) := fun t ht => h1 t (List.mem_of_mem_drop ht)
  have g0 : ((L.set i a').set (i + 1) b')[i]? = some a' := by
    rw [sp2, List.getElem?_append_right (by omega), lt, Nat.sub_self]
    rfl
  have g1 : ((L.set i a').set (i + 1) b')[i + 1]? = some b' := by
    rw [sp2, List.getElem?_append_right (by omega), lt, show i + 1 - i = 1 by omega]
    rfl
  have go : ∀ j, j ≠ i → j ≠ i + 1 → ((L.set i a').set (i + 1) b')[j]? = L[j]? := fun j c1 c2 => by
    rw [List.getElem?_set_ne (Ne.symm c2), List.getElem?_set_ne (Ne.symm c1)]
  refine ⟨?_, by rw [List.length_set, List.length_set]; exact h3, ?_, fun j hj => by rw [go j (by omega) (by omega)]; exact h6 j (by omega), fun j g g' hj k1 k2 => ?_, fun hi => ?_⟩
  · rw [sp2]
    exact okT_a.mpr ⟨okX, okT_c.mpr ⟨ha', okT_c.mpr ⟨hb', okY⟩⟩⟩
  · rw [sp2]
    refine eqT_tr h4 ?_
    have := eqT_swp h2 h5 okX okY ha hx hb' e1 e2
    rw [← sp] at this
    exact this
  · by_cases c1 : j = i
    · subst c1
      rw [g0] at k1
      rw [g1] at k2
      cases k1
      cases k2
      exact hl
    · by_cases c2 : j = i + 1
      · subst c2
        rw [g1] at k1
        rw [go (i + 1 + 1) (by omega) (by omega)] at k2
        cases k1
        have l2 := (List.getElem?_eq_some_iff.mp k2).1
        obtain ⟨s, x0, u, s1, s2, s3, s4, s5⟩ := h8 (by omega)
        rw [eb] at s2
        cases s2
        have hs : s < gNN n := hF s (List.mem_of_getElem? s1)
        intro c hc m1 d1
        have k := dom2 h2 h5 ha hs s3 hx hb' (hw i a s eF s1) s4 (by rw [e1]; omega) e2 hc (s5 g' c k2 hc d1) (by rw [mu_let h2 h5 hc]; exact m1)
        rw [mu_let h2 h5 hc] at k
        exact h7 (i + 1) b g' (Nat.le_refl _) eb k2 c hc k d1
      · rw [go j c1 c2] at k1
        rw [go (j + 1) (by omega) (by omega)] at k2
        exact h7 j g g' (by omega) k1 k2
  · refine ⟨a, x, a', eF, g0, hx, e1, fun t c k1 hc d1 => ?_⟩
    rw [g1] at k1
    cases k1
    exact mu_sub h2 h5 hx hb' (lett h2 h5 hc) (by rw [e2]; omega) d1
/-- in a weighted list deltas stand in front, and nothing else than 1 behind 1 -/
theorem dl_lt : gNN n - 1 < gNN n := by have := nn_0 (n := n); omega
theorem lw_D (h2 : 2 ≤ n) (h5 : n ≤ 5) {g : Nat} (hg : g < gNN n) (h : lwG n g (gNN n - 1)) : g = gNN n - 1 := by
  refine dv_as h2 h5 hg dl_lt (d_pk h2 h5 hg).2.2.2.2 (Classical.byContradiction (fun hne => ?_))
  obtain ⟨a, ha, m1, m2⟩ := (f_fou h2 h5 hg dl_lt).2.2 hne
  exact h a ha m1 (d_pk h2 h5 (lett h2 h5 ha)).2.2.2.2
theorem lw_0 (h2 : 2 ≤ n) (h5 : n ≤ 5) {g : Nat} (hg : g < gNN n) (h : lwG n 0 g) : g = 0 := by
  refine Classical.byContradiction (fun hne => ?_)
  obtain ⟨a, ha, m1, m2⟩ := (f_fou h2 h5 nn_0 hg).2.2 (by rw [dd_0l h2 h5 hg]; exact hne)
  rw [dd_0l h2 h5 hg] at m2
  exact h a ha m1 m2
theorem let_ne (h2 : 2 ≤ n) (h5 : n ≤ 5) {a : Nat} (ha : a + 1 < n) : moG n 0 a - 1 ≠ 0 := fun e => by
  have h1 := ((f_two h2 h5 nn_0 ha).2.2.2 (f_fiv h2 h5 ha).1).1
  rw [e] at h1
  omega
theorem lw_Dl (h2 : 2 ≤ n) (h5 : n ≤ 5) {g : Nat} : lwG n (gNN n - 1) g := fun a ha m1 => by
  exfalso
  have hl := lett h2 h5 ha
  rw [← mu_let h2 h5 ha] at m1
  have := (d_pb h2 h5 dl_lt hl).1.mp m1
  rw [dd_s h2 h5 dl_lt, dd_0l h2 h5 hl] at this
  exact let_ne h2 h5 ha this
/-- what a form may be: weighted, without delta and without 1 -/
def nfL (n : Nat) (F : List Nat) : Prop := okT n F ∧ wtL n F ∧ ∀ g, g ∈ F → g ≠ 0 ∧ g ≠ gNN n - 1
theorem wtL_d {L : List Nat} (h : wtL n L) (d : Nat) : wtL n (L.drop d) := fun i g g' h1 h3 => by
  rw [List.getElem?_drop] at h1 h3
  exact h (d + i) g g' h1 h3
theorem wtL_k {L : List Nat} (h : wtL n L) (d : Nat) : wtL n (L.take d) := fun i g g' h1 h3 => by
  have l := (List.getElem?_eq_some_iff.mp h3).1
  rw [List.length_take] at l
  rw [List.getElem?_take_of_lt (by omega)] at h1 h3
  exact h i g g' h1 h3
theorem no_D (h2 : 2 ≤ n) (h5 : n ≤ 5) {L : List Nat} (hk : okT n L) (hw : wtL n L) (h0 : ∀ g, L[0]? = some g → g ≠ gNN n - 1) : ∀ (i g : Nat), L[i]? = some g → g ≠ gNN n - 1
  | 0, g, e => h0 g e
  | i + 1, g, e => fun e9 => by
    have l := (List.getElem?_eq_some_iff.mp e).1
    have e1 : L[i]? = some L[i] := List.getElem?_eq_getElem (by omega)
    have k := hw i _ _ e1 e
    rw [e9] at k
    exact no_D h2 h5 hk hw h0 i _ e1 (lw_D h2 h5 (hk _ (List.mem_of_getElem? e1)) k)
theorem al_0 (h2 : 2 ≤ n) (h5 : n ≤ 5) {L : List Nat} (hk : okT n L) (hw : wtL n L) {i : Nat} (e : L[i]? = some 0) : ∀ (d g : Nat), L[i + d]? = some g → g = 0
  | 0, g, e1 => by
    rw [Nat.add_zero, e] at e1
    exact (Option.some.inj e1).symm
  | d + 1, g, e1 => by
    have l := (List.getElem?_eq_some_iff.mp e1).1
    have e2 : L[i + d]? = some L[i + d] := List.getElem?_eq_getElem (by omega)
    have k := hw (i + d) _ _ e2 e1
    rw [al_0 h2 h5 hk hw e d _ e2] at k
    exact lw_0 h2 h5 (hk _ (List.mem_of_getElem? e1)) k
/-- deltas in front and 1 behind taken away -/
theorem nf_strip (h2 : 2 ≤ n) (h5 : n ≤ 5) {L : List Nat} (hk : okT n L) (hw : wtL n L) {d e : Nat} (hde : d + e ≤ L.length) (h1 : ∀ i g, i < d → L[i]? = some g → g = gNN n - 1) (h3 : d < L.length → ∀ g, L[d]? = some g → g ≠ gNN n - 1) (h4 : ∀ i g, d + e ≤ i → L[i]? = some g → g = 0) (h6 : 0 < e → ∀ g, L[d + e - 1]? = some g → g ≠ 0) : nfL n ((L.drop d).take e) ∧ eqT n L (List.replicate d (gNN n - 1) ++ (L.drop d).take e) := by
  have hkd : okT n (L.drop d) := fun t ht => hk t (List.mem_of_mem_drop ht)
  have hwd := wtL_d hw d
  have nd := no_D h2 h5 hkd hwd (fun g hg => by
    have l := (List.getElem?_eq_some_iff.mp hg).1
    rw [List.length_drop] at l
    rw [List.getElem?_drop, Nat.add_zero] at hg
    exact h3 (by omega) g hg)
  have ge : ∀ i g, ((L.drop d).take e)[i]? = some g → i < e ∧ L[d + i]? = some g := fun i g hg => by
    have l := (List.getElem?_eq_some_iff.mp hg).1
    rw [List.length_take] at l
    rw [List.getElem?_take_of_lt (by omega), List.getElem?_drop] at hg
    exact ⟨by omega, hg⟩
  refine ⟨⟨fun t ht => hkd t (List.mem_of_mem_take ht), wtL_k hwd e, fun g hg => ?_⟩, ?_⟩
  · obtain ⟨i, hi⟩ := List.getElem?_of_mem hg
    obtain ⟨i1, i2⟩ := ge i g hi
    refine ⟨fun e0 => ?_, nd i g (by rw [List.getElem?_drop]; exact i2)⟩
    rw [e0] at i2
    have l : d + e - 1 < L.length := by omega
    have e3 : L[d + e - 1]? = some L[d + e - 1] := List.getElem?_eq_getElem l
    have := al_0 h2 h5 hk hw i2 (e - 1 - i) L[d + e - 1] (by rw [show d + i + (e - 1 - i) = d + e - 1 by omega]; exact e3)
    exact h6 (by omega) _ e3 this
  · have sp : L = List.replicate d (gNN n - 1) ++ ((L.drop d).take e ++ (L.drop (d + e))) := by
      conv => lhs; rw [← List.take_append_drop d L, ← List.take_append_drop e (L.drop d), List.drop_drop]
      congr 1
      refine List.ext_getElem? (fun i => ?_)
      by_cases hi : i < d
      · rw [List.getElem?_take_of_lt hi, List.getElem?_replicate, if_pos hi, List.getElem?_eq_getElem (by omega)]
        exact congrArg some (h1 i _ hi (List.getElem?_eq_getElem (by omega)))
      · rw [List.getElem?_eq_none (by rw [List.length_take]; omega), List.getElem?_eq_none (by rw [List.length_replicate]; omega)]
    have z : L.drop (d + e) = List.replicate (L.length - (d + e)) 0 := by
      refine List.ext_getElem? (fun i => ?_)
      rw [List.getElem?_drop, List.getElem?_replicate]
      by_cases hi : i < L.length - (d + e)
      · rw [if_pos hi, List.getElem?_eq_getElem (by omega)]
        exact congrArg some (h4 (d + e + i) _ (by omega) (List.getElem?_eq_getElem (by omega)))
      · rw [if_neg hi, List.getElem?_eq_none (by omega)]
    have drop0 : ∀ (m : Nat) (X : List Nat), okT n X → eqT n (X ++ List.replicate m 0) X := by
      intro m
      induction m with
      | zero =>
        intro X _
        rw [List.replicate_zero, List.append_nil]
        exact eqT_rf X
      | succ m ih =>
        intro X hX
        rw [List.replicate_succ]
        exact eqT_tr (eqT_id h2 h5 hX (fun t ht => by rw [(List.mem_replicate.mp ht).2]; exact nn_0)) (ih X hX)
    conv => lhs; rw [sp, z]
    rw [← List.append_assoc]
    exact drop0 _ _ (okT_a.mpr ⟨fun t ht => by rw [(List.mem_replicate.mp ht).2]; exact dl_lt, fun t ht => hkd t (List.mem_of_mem_take ht)⟩)
end NF2
