/-! two: every word -/
def tpz (k : Nat) (U : wd9) : Nat := (U.filter (fun l => decide (l.1 = k))).length
section XTWG
variable {n k : Nat} {W U V : wd9} {Pr : wd9 → Prop}
theorem tpz_a : tpz k (U ++ V) = tpz k U + tpz k V := by
  unfold tpz
  rw [List.filter_append, List.length_append]
theorem tpz_y {a : Nat} : tpz k ((k, a) :: U) = tpz k U + 1 := by
  unfold tpz
  rw [List.filter_cons_of_pos (by simp), List.length_cons]
theorem tpz_o {l : Nat × Nat} (h : l.1 ≠ k) : tpz k (l :: U) = tpz k U := by
  unfold tpz
  rw [List.filter_cons_of_neg (by simp [h])]
theorem tpz_n : ∀ {U : wd9}, (∀ l, l ∈ U → l.1 ≠ k) → tpz k U = 0
  | [], _ => rfl
  | l :: U, h => by
    rw [tpz_o (h l List.mem_cons_self)]
    exact tpz_n (fun m hm => h m (List.mem_cons_of_mem _ hm))
theorem tpz_0 : ∀ {U : wd9}, tpz k U = 0 → ∀ l, l ∈ U → l.1 ≠ k
  | [], _, l, hl => absurd hl List.not_mem_nil
  | (t, a) :: U, h, l, hl => by
    by_cases c : t = k
    · rw [c, tpz_y] at h
      omega
    · rw [tpz_o (l := (t, a)) c] at h
      rcases List.mem_cons.mp hl with h1 | h1
      · rw [h1]
        exact c
      · exact tpz_0 h l h1
theorem tpz_s : ∀ {U : wd9}, tpz k U ≠ 0 → ∃ U1 a U2, U = U1 ++ (k, a) :: U2 ∧ ∀ l, l ∈ U1 → l.1 ≠ k
  | [], h => absurd rfl h
  | (t, a) :: U, h => by
    by_cases c : t = k
    · exact ⟨[], a, U, by rw [c]; rfl, fun l hl => absurd hl List.not_mem_nil⟩
    · rw [tpz_o (l := (t, a)) c] at h
      obtain ⟨U1, b, U2, e, h1⟩ := tpz_s h
      refine ⟨(t, a) :: U1, b, U2, by rw [e]; rfl, fun l hl => ?_⟩
      rcases List.mem_cons.mp hl with h2 | h2
      · rw [h2]
        exact c
      · exact h1 l h2
theorem tpz_2 (h : ¬ tpz k U ≤ 1) : ∃ U1 a M b U2, U = U1 ++ (k, a) :: (M ++ (k, b) :: U2) ∧ ∀ l, l ∈ M → l.1 ≠ k := by
  obtain ⟨U1, a, V, e, h1⟩ := tpz_s (U := U) (k := k) (by omega)
  have h2 : tpz k V ≠ 0 := by
    rw [e, tpz_a, tpz_y, tpz_n h1] at h
    omega
  obtain ⟨M, b, U2, e2, h3⟩ := tpz_s h2
  exact ⟨U1, a, M, b, U2, by rw [e, e2], h3⟩
theorem fr_r {l0 : Nat × Nat} (hf : ∀ (B A : wd9) (l l' : Nat × Nat), l.1 + 1 < l'.1 ∨ l'.1 + 1 < l.1 → Pr (B ++ l' :: l :: A) → Pr (B ++ l :: l' :: A)) : ∀ (M B A : wd9), (∀ l, l ∈ M → l.1 + 1 < l0.1) → Pr (B ++ (M ++ l0 :: A)) → Pr (B ++ l0 :: (M ++ A))
  | [], _, _, _, h => h
  | l :: M, B, A, hM, h => by
    have h1 := fr_r hf M (B ++ [l]) A (fun m hm => hM m (List.mem_cons_of_mem _ hm)) (by rw [List.append_assoc]; exact h)
    rw [List.append_assoc] at h1
    exact hf B (M ++ A) l0 l (Or.inr (hM l List.mem_cons_self)) h1
theorem fr_l {l0 : Nat × Nat} (hf : ∀ (B A : wd9) (l l' : Nat × Nat), l.1 + 1 < l'.1 ∨ l'.1 + 1 < l.1 → Pr (B ++ l' :: l :: A) → Pr (B ++ l :: l' :: A)) : ∀ (M B A : wd9), (∀ l, l ∈ M → l.1 + 1 < l0.1) → Pr (B ++ l0 :: (M ++ A)) → Pr (B ++ (M ++ l0 :: A))
  | [], _, _, _, h => h
  | l :: M, B, A, hM, h => by
    have h1 : Pr (B ++ l :: l0 :: (M ++ A)) := hf B (M ++ A) l l0 (Or.inl (hM l List.mem_cons_self)) h
    have h2 := fr_l hf M (B ++ [l]) A (fun m hm => hM m (List.mem_cons_of_mem _ hm)) (by rw [List.append_assoc]; exact h1)
    rw [List.append_assoc] at h2
    exact h2
theorem wd_l (hf : ∀ (B A : wd9) (l l' : Nat × Nat), l.1 + 1 < l'.1 ∨ l'.1 + 1 < l.1 → Pr (B ++ l' :: l :: A) → Pr (B ++ l :: l' :: A)) (h3 : ∀ (B A : wd9) (g x y w : Nat), Pr (B ++ (g, w) :: (g + 1, y) :: (g, x) :: A) → Pr (B ++ (g + 1, x) :: (g, y) :: (g + 1, w) :: A)) (h2 : ∀ (B A : wd9) (g x y : Nat), Pr (B ++ (g, y) :: (g, x) :: A)) : ∀ (k m : Nat) (U B A : wd9), tpz k U ≤ m → (∀ l, l ∈ U → l.1 ≤ k) → (∀ U' : wd9, (∀ l, l ∈ U' → l.1 ≤ k) → tpz k U' ≤ 1 → Pr (B ++ (U' ++ A))) → Pr (B ++ (U ++ A)) := by
  intro k
  induction k with
  | zero =>
    intro m U B A hm hU hfin
    by_cases c : tpz 0 U ≤ 1
    · exact hfin U hU c
    · obtain ⟨U1, a, M, b, U2, rfl, hM⟩ := tpz_2 c
      cases M with
      | nil =>
        have h9 := h2 (B ++ U1) (U2 ++ A) 0 b a
        simp only [List.append_assoc, List.cons_append, List.nil_append] at h9 ⊢
        exact h9
      | cons l M =>
        exfalso
        have q1 := hM l List.mem_cons_self
        have q2 := hU l (List.mem_append_right _ (List.mem_cons_of_mem _ List.mem_cons_self))
        omega
  | succ k ihk =>
    intro m
    induction m with
    | zero =>
      intro U B A hm hU hfin
      exact hfin U hU (by omega)
    | succ m ihm =>
      intro U B A hm hU hfin
      by_cases c : tpz (k + 1) U ≤ 1
      · exact hfin U hU c
      · obtain ⟨U1, a, M, b, U2, rfl, hM⟩ := tpz_2 c
        have hMk : ∀ l, l ∈ M → l.1 ≤ k := fun l hl => by
          have q1 := hM l hl
          have q2 := hU l (List.mem_append_right _ (List.mem_cons_of_mem _ (List.mem_append_left _ hl)))
          omega
        have lt : ∀ V : wd9, (∀ l, l ∈ V → l.1 ≤ k) → tpz k V = 0 → ∀ l, l ∈ V → l.1 + 1 < k + 1 := fun V q1 q0 l hl => by
          have q2 := q1 l hl
          have q3 := tpz_0 q0 l hl
          omega
        have key : Pr ((B ++ (U1 ++ [(k + 1, a)])) ++ (M ++ ((k + 1, b) :: (U2 ++ A)))) := by
          refine ihk (tpz k M) M _ _ (Nat.le_refl _) hMk (fun M' hM1 hM2 => ?_)
          by_cases c0 : tpz k M' = 0
          · have h9 := fr_r (l0 := (k + 1, a)) hf M' (B ++ U1) ((k + 1, b) :: (U2 ++ A)) (lt M' hM1 c0) (by
              have h8 := h2 ((B ++ U1) ++ M') (U2 ++ A) (k + 1) b a
              simp only [List.append_assoc] at h8 ⊢
              exact h8)
            simp only [List.append_assoc, List.cons_append, List.nil_append] at h9 ⊢
            exact h9
          · obtain ⟨M1, cc, M2, rfl, q1⟩ := tpz_s c0
            have t1 : tpz k M1 = 0 := tpz_n q1
            have t2 : tpz k M2 = 0 := by
              rw [tpz_a, tpz_y] at hM2
              omega
            have p1 : ∀ l, l ∈ M1 → l.1 ≤ k := fun l hl => hM1 l (List.mem_append_left _ hl)
            have p2 : ∀ l, l ∈ M2 → l.1 ≤ k := fun l hl => hM1 l (List.mem_append_right _ (List.mem_cons_of_mem _ hl))
            have z : ∀ V : wd9, (∀ l, l ∈ V → l.1 ≤ k) → tpz (k + 1) V = 0 := fun V hV => tpz_n (fun l hl => by
              have := hV l hl
              omega)
            have w1 := ihm (U1 ++ (M1 ++ (k, b) :: (k + 1, cc) :: (k, a) :: (M2 ++ U2))) B A (by
              rw [tpz_a, tpz_y, tpz_a, tpz_y, z M hMk] at hm
              rw [tpz_a, tpz_a, tpz_o (l := (k, b)) (show k ≠ k + 1 by omega), tpz_y, tpz_o (l := (k, a)) (show k ≠ k + 1 by omega), tpz_a, z M1 p1, z M2 p2]
              omega) (fun l hl => by
              rcases List.mem_append.mp hl with q2 | q2
              · exact hU l (List.mem_append_left _ q2)
              · rcases List.mem_append.mp q2 with q3 | q3
                · have := p1 l q3
                  omega
                · rcases List.mem_cons.mp q3 with q4 | q4
                  · rw [q4]
                    exact Nat.le_succ k
                  · rcases List.mem_cons.mp q4 with q5 | q5
                    · rw [q5]
                      exact Nat.le_refl _
                    · rcases List.mem_cons.mp q5 with q6 | q6
                      · rw [q6]
                        exact Nat.le_succ k
                      · rcases List.mem_append.mp q6 with q7 | q7
                        · have := p2 l q7
                          omega
                        · exact hU l (List.mem_append_right _ (List.mem_cons_of_mem _ (List.mem_append_right _ (List.mem_cons_of_mem _ q7))))) hfin
            have w2 := h3 (B ++ (U1 ++ M1)) (M2 ++ (U2 ++ A)) k a cc b (by
              simp only [List.append_assoc, List.cons_append] at w1 ⊢
              exact w1)
            have w3 := fr_l (l0 := (k + 1, b)) hf M2 (B ++ (U1 ++ (M1 ++ [(k + 1, a), (k, cc)]))) (U2 ++ A) (lt M2 p2 t2) (by
              simp only [List.append_assoc, List.cons_append, List.nil_append] at w2 ⊢
              exact w2)
            have w4 := fr_r (l0 := (k + 1, a)) hf M1 (B ++ U1) ((k, cc) :: (M2 ++ (k + 1, b) :: (U2 ++ A))) (lt M1 p1 t1) (by
              simp only [List.append_assoc, List.cons_append, List.nil_append] at w3 ⊢
              exact w3)
            simp only [List.append_assoc, List.cons_append, List.nil_append] at w4 ⊢
            exact w4
        simp only [List.append_assoc, List.cons_append, List.nil_append] at key ⊢
        exact key
theorem fln_tk : ∀ {L : List (List tk9)}, (∀ c, c ∈ L → c ≠ []) → L.length ≤ L.flatten.length
  | [], _ => Nat.le_refl 0
  | c :: L, h => by
    have h1 := fln_tk (L := L) (fun d hd => h d (List.mem_cons_of_mem _ hd))
    have h2 : c.length ≠ 0 := fun h9 => h c List.mem_cons_self (List.length_eq_zero_iff.mp h9)
    rw [List.flatten_cons, List.length_append, List.length_cons]
    omega
theorem or_ne {L : List (List tk9)} (hL : orz n W L) : ∀ c, c ∈ L → c ≠ [] := fun c hc h9 => by
  obtain ⟨p, r, e, -⟩ := hL.1 c hc
  rw [h9] at e
  cases e
theorem ph_tr (hn : n ≤ 1) (ho : okw n W) : PhZ n W := fun L ov hL => by
  have hW : nmz W = [] := by
    cases W with
    | nil => rfl
    | cons l W =>
      have := ho.1 l List.mem_cons_self
      omega
  have len : ∀ L, orz n W L → vlz (Gz n W) L ov = lfz 0 := fun L hL => by
    have g9 : gdz L ov := fun x i hx => by
      have h9 := fs_nm hL (p := (x, decide (i = 1))) (fsz_m.mpr ⟨List.not_mem_nil, i, hx, rfl⟩)
      rw [hW] at h9
      exact absurd h9 List.not_mem_nil
    rw [vlz_g g9]
    have h1 := fln_tk (or_ne hL)
    have h2 : L.flatten.length ≤ 1 := by
      have hm : ∀ p, p ∈ L.flatten → p = (0, 2) := fun p hp => by
        rcases (hL.2.2 p).mp hp with ⟨h3, h4⟩ | ⟨-, h3⟩
        · obtain ⟨a, i⟩ := p
          have h3 : i = 2 := h3
          have h4 : a < n := h4
          rw [h3, show a = 0 by omega]
        · rw [hW] at h3
          exact absurd h3 List.not_mem_nil
      have hn := hL.2.1
      generalize L.flatten = l at hm hn
      match l, hm, hn with
      | [], _, _ => exact Nat.zero_le _
      | [a], _, _ => exact Nat.le_refl _
      | a :: b :: l, hm, hn =>
        exfalso
        have e1 := hm a List.mem_cons_self
        have e2 := hm b (List.mem_cons_of_mem _ List.mem_cons_self)
        exact (List.nodup_cons.mp hn).1 (by rw [e1, ← e2]; exact List.mem_cons_self)
    rw [show L.length - 1 = 0 by omega]
  rw [Fz_e ho hL, len L hL, len _ (orc_o hL)]
theorem ph_all : ∀ (n : Nat) (W : wd9), okw n W → PhZ n W
  | 0, W, ho => ph_tr (by omega) ho
  | 1, W, ho => ph_tr (by omega) ho
  | g + 2, W, ho => by
    have ihn := ph_all (g + 1)
    have main : ∀ (K : Nat) (W : wd9), W.length = K → okw (g + 2) W → PhZ (g + 2) W := by
      intro K
      induction K using Nat.strongRecOn with
      | ind K ih =>
        have hP : ∀ V : wd9, V.length < K → okw (g + 2) V → PhZ (g + 2) V := fun V hV => ih _ hV V rfl
        intro W hK ho
        have key := wd_l (Pr := fun W => W.length = K → okw (g + 2) W → PhZ (g + 2) W) (fun B A l l' hll h0 hk hok => by
          have e : (B ++ l' :: l :: A).length = (B ++ l :: l' :: A).length := by
            rw [List.length_append, List.length_append]
            rfl
          exact cm_P (g := l.1) (h := l'.1) (x := l.2) (y := l'.2) hll hok (by rw [show (B ++ (l.1, l.2) :: (l'.1, l'.2) :: A).length = K from hk]; exact hP) (h0 (e.trans hk) (ok_pm (cm_pm (g := l.1) (h := l'.1) (x := l.2) (y := l'.2)) hok))) (fun B A g' x y w h0 hk hok => by
          have e : (B ++ (g', w) :: (g' + 1, y) :: (g', x) :: A).length = (B ++ (g' + 1, x) :: (g', y) :: (g' + 1, w) :: A).length := by
            rw [List.length_append, List.length_append]
            rfl
          exact r3_P hok (by rw [hk]; exact hP) (h0 (e.trans hk) (r3_ok hok))) (fun B A g' x y hk hok => r2_P hok (by rw [hk]; exact hP)) g (tpz g W) W [] [] (Nat.le_refl _) (fun l hl => by
          have := ho.1 l hl
          omega) (fun U hU1 hU2 hk hok => by
          rw [List.nil_append, List.append_nil] at hk hok ⊢
          by_cases c0 : tpz g U = 0
          · have hok2 : okw (g + 1) U := ⟨fun l hl => by
              have q1 := hU1 l hl
              have q2 := tpz_0 c0 l hl
              omega, hok.2⟩
            exact cr_P (n := g + 1) (by omega) hok2 hok (by rw [hk]; exact hP) (fun V _ hV => ihn V hV)
          · obtain ⟨B, x, A, rfl, q1⟩ := tpz_s c0
            have t2 : tpz g A = 0 := by
              rw [tpz_a, tpz_y] at hU2
              omega
            obtain ⟨-, -, hd⟩ := okw_d hok
            have hok2 : okw (g + 1) (B ++ A) := ⟨fun l hl => by
              rcases List.mem_append.mp hl with q2 | q2
              · have q3 := hU1 l (List.mem_append_left _ q2)
                have q4 := q1 l q2
                omega
              · have q3 := hU1 l (List.mem_append_right _ (List.mem_cons_of_mem _ q2))
                have q4 := tpz_0 t2 l q2
                omega, hd.2⟩
            exact r1_P hok2 hok (by rw [hk]; exact hP) (fun V _ hV => ihn V hV))
        rw [List.nil_append, List.append_nil] at key
        exact key hK ho
    exact main _ W rfl ho
end XTWG
