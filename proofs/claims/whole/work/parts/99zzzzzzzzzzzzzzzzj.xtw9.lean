/-! two: two letters that undo each other, all orders -/
section XTW9
variable {n g x y : Nat} {W A B : wd9} {L L' P Q M : List (List tk9)}
theorem dlz_a (x : Nat) (B A : wd9) : dlz x (B ++ A) = dlz x B ++ dlz x A := List.filter_append _ _
theorem dlz_c {l : Nat × Nat} (h : l.2 ≠ x) : dlz x (l :: A) = l :: dlz x A := List.filter_cons_of_pos (by simp [h])
theorem dlz_x : dlz x ((g, x) :: A) = dlz x A := List.filter_cons_of_neg (by simp)
/-- turned so that x comes first -/
theorem hd_x {i : Nat} {a b : List tk9} (hi : i < 2) (ho : okw n (B ++ (g, y) :: (g, x) :: A)) (hP : ∀ z, z ∈ nmz (B ++ (g, y) :: (g, x) :: A) → PhZ n (dlz z (B ++ (g, y) :: (g, x) :: A))) (hL : orz n (B ++ (g, y) :: (g, x) :: A) (P ++ (a ++ (x, i) :: b) :: Q)) : ∃ c, orz n (B ++ (g, y) :: (g, x) :: A) (P ++ ((x, i) :: (y, 1 - i) :: c) :: Q) ∧ ∀ ov, vlz (Gz n (B ++ (g, y) :: (g, x) :: A)) (P ++ (a ++ (x, i) :: b) :: Q) ov = vlz (Gz n (B ++ (g, y) :: (g, x) :: A)) (P ++ ((x, i) :: (y, 1 - i) :: c) :: Q) ov := by
  obtain ⟨hxy, -, -, hB, -⟩ := s2_adj ho
  have h1 := orz_t hL
  have h2 := bs_r ho (sk_W ho hL) hP a ((x, i) :: b) hL
  have h3 := h1.1 _ (List.mem_append_right P List.mem_cons_self)
  have es : sgm (B ++ (g, y) :: (g, x) :: A) (x, i) = (y, 1 - i) := s2_st hi hxy hB
  rw [List.cons_append] at h1 h2 h3
  generalize b ++ a = c at h1 h2 h3
  obtain ⟨p, r, e, hp⟩ := h3
  obtain ⟨rfl, rfl⟩ := List.cons.inj e
  cases c with
  | nil =>
    have h9 : sgm (B ++ (g, y) :: (g, x) :: A) (x, i) = (x, i) := hp
    rw [es] at h9
    exact absurd (Prod.mk.inj h9).1.symm hxy
  | cons t c =>
    have h9 : sgm (B ++ (g, y) :: (g, x) :: A) (x, i) = t := hp.1
    rw [es] at h9
    subst h9
    exact ⟨c, h1, h2⟩
theorem r2_V : ∀ (k : Nat) (B A : wd9) (L : List (List tk9)), (B ++ (g, y) :: (g, x) :: A).length = k → okw n (B ++ (g, y) :: (g, x) :: A) → orz n (B ++ (g, y) :: (g, x) :: A) L → (∀ V, V.length < k → okw n V → PhZ n V) → ∀ ov : Nat → Bool, ov x ≠ ov y → vlz (Gz n (B ++ (g, y) :: (g, x) :: A)) L ov = Fz n (B ++ A) ov
  | 0, B, A, L, hk, _, _, _, _, _ => by
    rw [List.length_append] at hk
    simp at hk
  | k + 1, B, A, L, hk, ho, hL, hP, ov, hov => by
    obtain ⟨hxy, hxA, hyA, hxB, hyB⟩ := s2_adj ho
    have hyx := Ne.symm hxy
    have el : (B ++ A).length + 2 = k + 1 := by
      rw [← hk, List.length_append, List.length_append, List.length_cons, List.length_cons]
      omega
    have dx : dlz x (B ++ (g, y) :: (g, x) :: A) = B ++ (g, y) :: A := by
      rw [dlz_a, dlz_c (show (g, y).2 ≠ x from hyx), dlz_x, dlz_n hxA, dlz_n hxB]
    have dy : dlz y (B ++ (g, y) :: (g, x) :: A) = B ++ (g, x) :: A := by
      rw [dlz_a, dlz_x, dlz_c (show (g, x).2 ≠ y from hxy), dlz_n hyA, dlz_n hyB]
    have mx : x ∈ nmz (B ++ (g, y) :: (g, x) :: A) := by
      rw [nm_a]
      exact List.mem_append_right _ (List.mem_cons_of_mem _ List.mem_cons_self)
    have my : y ∈ nmz (B ++ (g, y) :: (g, x) :: A) := by
      rw [nm_a]
      exact List.mem_append_right _ List.mem_cons_self
    have hx' : x ∉ nmz (B ++ A) := fun h9 => by
      rw [nm_a] at h9
      exact (List.mem_append.mp h9).elim hxB hxA
    have hy' : y ∉ nmz (B ++ A) := fun h9 => by
      rw [nm_a] at h9
      exact (List.mem_append.mp h9).elim hyB hyA
    have hS : ∀ z, z ∈ nmz (B ++ A) → z ∈ nmz (B ++ (g, y) :: (g, x) :: A) := fun z hz => by
      rw [nm_a] at hz ⊢
      rcases List.mem_append.mp hz with h9 | h9
      · exact List.mem_append_left _ h9
      · exact List.mem_append_right _ (List.mem_cons_of_mem _ (List.mem_cons_of_mem _ h9))
    have hoB : okw n (B ++ A) := by
      have h9 := ok_dl (x := x) (ok_dl (x := y) ho)
      rw [dy, dlz_a, dlz_x, dlz_n hxA, dlz_n hxB] at h9
      exact h9
    have hPd : ∀ z, z ∈ nmz (B ++ (g, y) :: (g, x) :: A) → PhZ n (dlz z (B ++ (g, y) :: (g, x) :: A)) := fun z hz => hP _ (by rw [← hk]; exact dlz_lt hz) (ok_dl ho)
    have hz : ∀ z, z ∈ nmz (B ++ A) → ∀ ov : Nat → Bool, ov x ≠ ov y → Fz n (dlz z (B ++ (g, y) :: (g, x) :: A)) ov = Fz n (dlz z (B ++ A)) ov := fun z hz9 o hoo => by
      have zx : x ≠ z := fun h9 => hx' (by rw [h9]; exact hz9)
      have zy : y ≠ z := fun h9 => hy' (by rw [h9]; exact hz9)
      obtain ⟨Lz, hLz⟩ := orz_dl ho hL (hS z hz9)
      have hl := len_dl ho (hS z hz9)
      have hoz := ok_dl (x := z) ho
      rw [← hPd z (hS z hz9) Lz o hLz]
      have ed : dlz z (B ++ (g, y) :: (g, x) :: A) = dlz z B ++ (g, y) :: (g, x) :: dlz z A := by
        rw [dlz_a, dlz_c (show (g, y).2 ≠ z from zy), dlz_c (show (g, x).2 ≠ z from zx)]
      rw [ed] at hLz hl hoz ⊢
      rw [r2_V k (dlz z B) (dlz z A) Lz (by omega) hoz hLz (fun V hV => hP V (by omega)) o hoo, ← dlz_a]
    have hr : ∀ ov : Nat → Bool, ov x ≠ ov y → Fz n (dlz x (B ++ (g, y) :: (g, x) :: A)) ov = Fz n (dlz y (B ++ (g, y) :: (g, x) :: A)) (flz ov x) := fun o hoo => by
      have hl := len_dl ho mx
      have hox := ok_dl (x := x) ho
      obtain ⟨Lx, hLx⟩ := orz_dl ho hL mx
      rw [dx] at hl hox hLx
      have er : rnW (swz x y) (B ++ (g, y) :: A) = B ++ (g, x) :: A := by
        have e1 : rnW (swz x y) (B ++ (g, y) :: A) = rnW (swz x y) B ++ (g, swz x y y) :: rnW (swz x y) A := List.map_append
        rw [e1, rnW_n hxB hyB, rnW_n hxA hyA, swz_2]
      rw [dx, dy, ← er]
      refine (rz_F (swz_i x y) k (B ++ (g, y) :: A) o (flz o x) (by omega) hox ⟨Lx, hLx⟩ (fun V hV => hP V (by omega)) (fun z hz9 => ?_)).symm
      by_cases zy : z = y
      · rw [zy, swz_2, flz_at]
        revert hoo
        cases o x <;> cases o y <;> decide
      · have zx : z ≠ x := fun h9 => by
          rw [h9, nm_a] at hz9
          rcases List.mem_append.mp hz9 with h8 | h8
          · exact hxB h8
          · rcases List.mem_cons.mp h8 with h7 | h7
            · exact hxy h7
            · exact hxA h7
        rw [swz_o zx zy, flz_ot zx]
    have core := fun (i : Nat) (hi : i < 2) (L L' : List (List tk9)) (q1 : orz n (B ++ (g, y) :: (g, x) :: A) L) (q2 : orz n (B ++ A) L') (q3 : L.length = L'.length) (q4 : ∀ z, z ≠ x → z ≠ y → slz z L.flatten = slz z L'.flatten) (q5 : (slz x L.flatten).head? = some (x, i)) (q6 : (slz y L.flatten).head? = some (y, 1 - i)) => r2_core hi hxy ho hoB mx my hx' hy' hS q1 q2 (hP _ (by omega) hoB) q3 q4 q5 q6 hz hr ov hov
    have eW : B ++ (g, y) :: (g, x) :: A = (B ++ [(g, y)]) ++ (g, x) :: A := by
      rw [List.append_assoc]
      rfl
    have eV : (B ++ [(g, y)]) ++ A = B ++ (g, y) :: A := by
      rw [List.append_assoc]
      rfl
    have ho2 := ho
    rw [eW] at ho2
    have hox := ok_dl (x := x) ho
    rw [dx] at hox
    -- both in different components
    have two : ∀ (i : Nat) (P M Q : List (List tk9)) (a b : List tk9), i < 2 → orz n (B ++ (g, y) :: (g, x) :: A) (P ++ ((x, i) :: (y, 1 - i) :: a) :: (M ++ ((x, 1 - i) :: (y, 1 - (1 - i)) :: b) :: Q)) → vlz (Gz n (B ++ (g, y) :: (g, x) :: A)) (P ++ ((x, i) :: (y, 1 - i) :: a) :: (M ++ ((x, 1 - i) :: (y, 1 - (1 - i)) :: b) :: Q)) ov = Fz n (B ++ A) ov := by
      intro i P M Q a b hi hLL
      have h9 := hLL
      rw [eW] at h9
      have k1 := orz_s2 (a1 := []) (b1 := []) ho2 hi h9
      rw [eV, List.nil_append, List.nil_append, List.cons_append] at k1
      rw [show 1 - (1 - i) = i by omega] at k1
      have k2 := orz_s1 (X := []) hox hi k1
      have k3 : orz n (B ++ A) (P ++ a :: (M ++ b :: Q)) := orz_p (List.Perm.append_left _ (List.Perm.cons _ List.perm_middle)) k2
      have nx : slz x P.flatten = [] := slz_n (fun q hq => sl_nil k3 hx' q (by rw [List.flatten_append]; exact List.mem_append_left _ hq))
      have ny : slz y P.flatten = [] := slz_n (fun q hq => sl_nil k3 hy' q (by rw [List.flatten_append]; exact List.mem_append_left _ hq))
      refine core i hi _ _ hLL k3 ?_ (fun z zx zy => ?_) ?_ ?_
      · simp only [List.length_append, List.length_cons]
      · have ox : ∀ i r, slz z ((x, i) :: r) = slz z r := fun i r => slz_o (Or.inr (Ne.symm zx))
        have oy : ∀ i r, slz z ((y, i) :: r) = slz z r := fun i r => slz_o (Or.inr (Ne.symm zy))
        simp only [List.flatten_append, List.flatten_cons, slz_a, ox, oy]
      · rw [List.flatten_append, List.flatten_cons, slz_a, nx, List.nil_append, slz_a, slz_y (by omega)]
        rfl
      · rw [List.flatten_append, List.flatten_cons, slz_a, ny, List.nil_append, slz_a, slz_o (Or.inr hxy), slz_y (by omega)]
        rfl
    have m1 : (x, 1) ∈ L.flatten := (hL.2.2 _).mpr (Or.inr ⟨by omega, mx⟩)
    obtain ⟨c, hc, hu⟩ := List.mem_flatten.mp m1
    obtain ⟨P, Q, rfl⟩ := spl_m hc
    obtain ⟨a, b, rfl⟩ := spl_m hu
    obtain ⟨c, hL1, hv1⟩ := hd_x (by omega) ho hPd hL
    rw [hv1 ov]
    have m0 : (x, 0) ∈ (P ++ ((x, 1) :: (y, 1 - 1) :: c) :: Q).flatten := (hL1.2.2 _).mpr (Or.inr ⟨by omega, mx⟩)
    rw [List.flatten_append, List.flatten_cons] at m0
    rcases List.mem_append.mp m0 with h1 | h1
    · obtain ⟨d, hd, hd2⟩ := List.mem_flatten.mp h1
      obtain ⟨P1, M, rfl⟩ := spl_m hd
      obtain ⟨a', b', rfl⟩ := spl_m hd2
      rw [List.append_assoc, List.cons_append] at hL1 ⊢
      obtain ⟨d, hL2, hv2⟩ := hd_x (i := 0) (by omega) ho hPd hL1
      rw [hv2 ov]
      exact two 0 P1 M Q d c (by omega) hL2
    · rcases List.mem_append.mp h1 with h2 | h2
      · have h3 : (x, 0) ∈ c := by
          rcases List.mem_cons.mp h2 with h4 | h4
          · exact absurd (Prod.mk.inj h4).2 (by decide)
          · rcases List.mem_cons.mp h4 with h5 | h5
            · exact absurd (Prod.mk.inj h5).1 hxy
            · exact h5
        obtain ⟨d, e, rfl⟩ := spl_m h3
        have hcy := hL1.1 _ (List.mem_append_right P List.mem_cons_self)
        obtain ⟨p, r, e1, hp⟩ := hcy
        obtain ⟨rfl, rfl⟩ := List.cons.inj e1
        have hp2 := (pth_a.mp hp.2).2
        have es : sgm (B ++ (g, y) :: (g, x) :: A) (x, 0) = (y, 1 - 0) := s2_st (by omega) hxy hxB
        cases e with
        | nil =>
          have h9 : sgm (B ++ (g, y) :: (g, x) :: A) (x, 0) = (x, 1) := hp2
          rw [es] at h9
          exact absurd (Prod.mk.inj h9).1.symm hxy
        | cons t e =>
          have h9 : sgm (B ++ (g, y) :: (g, x) :: A) (x, 0) = t := hp2.1
          rw [es] at h9
          subst h9
          have h9 := hL1
          rw [eW] at h9
          have k1 := orz_s1 (X := []) (Y := (y, 1 - 1) :: d) (Z := (y, 1 - 0) :: e) (i := 1) ho2 (by omega) h9
          rw [eV, List.nil_append] at k1
          have k2 := orz_s2 (M := []) (a1 := []) (b1 := []) (i := 1) hox (by omega) k1
          rw [List.nil_append, List.nil_append, List.nil_append] at k2
          have nx : slz x P.flatten = [] := slz_n (fun q hq => sl_nil k2 hx' q (by rw [List.flatten_append]; exact List.mem_append_left _ hq))
          have ny : slz y P.flatten = [] := slz_n (fun q hq => sl_nil k2 hy' q (by rw [List.flatten_append]; exact List.mem_append_left _ hq))
          refine core 1 (by omega) _ _ hL1 k2 ?_ (fun z zx zy => ?_) ?_ ?_
          · simp only [List.length_append, List.length_cons]
          · have ox : ∀ i r, slz z ((x, i) :: r) = slz z r := fun i r => slz_o (Or.inr (Ne.symm zx))
            have oy : ∀ i r, slz z ((y, i) :: r) = slz z r := fun i r => slz_o (Or.inr (Ne.symm zy))
            simp only [List.flatten_append, List.flatten_cons, slz_a, ox, oy]
          · rw [List.flatten_append, List.flatten_cons, slz_a, nx, List.nil_append, slz_a, slz_y (by omega)]
            rfl
          · rw [List.flatten_append, List.flatten_cons, slz_a, ny, List.nil_append, slz_a, slz_o (Or.inr hxy), slz_y (by omega)]
            rfl
      · obtain ⟨d, hd, hd2⟩ := List.mem_flatten.mp h2
        obtain ⟨M, Q1, rfl⟩ := spl_m hd
        obtain ⟨a', b', rfl⟩ := spl_m hd2
        have e9 : ∀ T, P ++ ((x, 1) :: (y, 1 - 1) :: c) :: (M ++ T :: Q1) = (P ++ ((x, 1) :: (y, 1 - 1) :: c) :: M) ++ T :: Q1 := fun T => by
          rw [List.append_assoc]
          rfl
        rw [e9] at hL1 ⊢
        obtain ⟨d, hL2, hv2⟩ := hd_x (i := 0) (by omega) ho hPd hL1
        rw [hv2 ov]
        rw [← e9] at hL2 ⊢
        exact two 1 P M Q1 c d (by omega) hL2
end XTW9
