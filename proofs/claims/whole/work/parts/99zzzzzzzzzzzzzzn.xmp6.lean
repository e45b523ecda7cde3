/-! maps: the reference follows what is given, exactly -/
section XM6
variable {z : ow_MS}
theorem xp_follows {n m c a : Nat} {A : rn_L} {sg : Nat → Bool} {ov iv fv : Nat → Nat} {pt : Nat → Bool} (hn : mw_net n) (hm1 : 1 ≤ m) (hm4 : m ≤ 4) (hV : A.flatten.length = 2 * c) (hc : c ≤ 12) (ha : a ≤ 18) {T : List Nat} (hI : mgI z a m T) (hM : mcX z n m A sg c a ov iv fv pt) : Te (fun K => qe_X13_follows K n (nI m) z) (fun r => ∃ E, mgI r.2 a m (T ++ E) ∧ fr gvH z r.2 ∧ (∀ b, b ∈ T → r.2.2.1 77 b = z.2.1 77 b) ∧ (∀ b, b ∈ E → usP c ov iv fv pt b) ∧ ((r.1 = 0 ∧ ∀ L, slM m c a sg ov iv fv pt L → exT z m T L → False) ∨ (r.1 = 1 ∧ (∀ L, slM m c a sg ov iv fv pt L → exT z m T L → exT r.2 m (T ++ E) L) ∧ ∀ x, x < c → clX r.2 m sg ov iv fv pt (T ++ E) x))) := by
  let J : List Nat → ow_MS → Prop := fun E y => mgI y a m (T ++ E) ∧ fr gvH z y ∧ (∀ b, b ∈ T → y.2.1 77 b = z.2.1 77 b) ∧ (∀ b, b ∈ E → usP c ov iv fv pt b) ∧ ∀ L, slM m c a sg ov iv fv pt L → exT z m T L → exT y m (T ++ E) L
  let Q : Int32 × ow_MS → Prop := fun r => ∃ E, mgI r.2 a m (T ++ E) ∧ fr gvH z r.2 ∧ (∀ b, b ∈ T → r.2.2.1 77 b = z.2.1 77 b) ∧ (∀ b, b ∈ E → usP c ov iv fv pt b) ∧ ((r.1 = 0 ∧ ∀ L, slM m c a sg ov iv fv pt L → exT z m T L → False) ∨ (r.1 = 1 ∧ (∀ L, slM m c a sg ov iv fv pt L → exT z m T L → exT r.2 m (T ++ E) L) ∧ ∀ x, x < c → clX r.2 m sg ov iv fv pt (T ++ E) x))
  have hth := thM_le m
  have mF : ∀ {y : ow_MS}, fr gvH z y → mcX y n m A sg c a ov iv fv pt := fun hf => mcX_fr hn hf hM
  have tab : ∀ {y : ow_MS}, fr gvH z y → ∀ (s : Bool) (r g q : Nat), r = (if s = true then 76 else 75) → g < thM m → q < thM m → y.2.1 r (576 * m + 24 * g + q) = nI (opM m s g q) := by
    intro y hf s r g q er hg hq
    have k := (mF hf).2.2.1 g q hg hq (Or.inl hg)
    rw [er]
    cases s
    · exact k.1
    · exact k.2
  have gv : ∀ {F : List Nat} {y : ow_MS} {b q : Nat}, J F y → b < a → b ∉ T ++ F → q < thM m → usP c ov iv fv pt b → (∀ L, slM m c a sg ov iv fv pt L → exT y m (T ++ F) L → L[b]? = some q) → Te (fun K => qe_X13_give K (nI b) (nI q) y) (fun y1 => J (F ++ [b]) y1) := by
    intro F y b q hJ hb hnb hq hu hv
    refine w_monoE (te_and (tp_give ha hJ.1 hb hnb hq) (xp_give (q := q) ha hJ.1 hb hnb)) (fun y1 ⟨⟨k1, k2⟩, k3, k4⟩ => ⟨?_, fr_tr hJ.2.1 k2, fun b' hb' => (k4 b' (fun e => hnb (e ▸ List.mem_append_left _ hb'))).trans (hJ.2.2.1 b' hb'), fun b' hb' => ?_, fun L hL hx => ?_⟩)
    · rw [← List.append_assoc]
      exact k1
    · rcases List.mem_append.mp hb' with h9 | h9
      · exact hJ.2.2.2.1 b' h9
      · rw [List.mem_singleton.mp h9]
        exact hu
    · rw [← List.append_assoc]
      have k := hJ.2.2.2.2 L hL hx
      exact exT_g hq k3 k4 (hv L hL k) k
  have key : ∀ (k : Nat) (E : List Nat) (y : ow_MS), a - (T ++ E).length ≤ k → J E y → Tt (fun K i => q_X13_follows K i 1 (nI m) 1 0 0 0 0 n 0 0 0 y) Q := by
    intro k
    induction k using Nat.strongRecOn with
    | ind k ih =>
    intro E y hk hJ
    have pass : ∀ (d x : Nat) (F : List Nat) (x3 : Int32) (y : ow_MS), x + d = c → J F y → (x3 = 0 ∧ F = E ∧ (∀ x', x' < x → clX y m sg ov iv fv pt (T ++ E) x') ∨ x3 = 1 ∧ (T ++ E).length < (T ++ F).length) → Tt (fun K i => q_X13_follows K i 2 (nI m) x3 (nI x) 0 0 0 n 0 0 0 y) Q := by
      intro d
      induction d with
      | zero =>
        intro x F x3 y hx hJ h3
        refine u_X13_follows_2 ?_; unfold qm_X13_follows_2
        refine w_rdF (mF hJ.2.1).1.1.V (w_nzI (by decide) ?_)
        rw [hV, half_V (by omega)]
        refine w_leT (by omega) (by omega) ?_
        rcases h3 with ⟨h3, eF, hcl⟩ | ⟨h3, h4⟩
        · rw [h3]
          rw [eF] at hJ
          refine u_X13_follows_1 ?_; unfold qm_X13_follows_1
          exact w_ifT rfl (w_okZ (Or.inr rfl) (w_some ⟨E, hJ.1, hJ.2.1, hJ.2.2.1, hJ.2.2.2.1, Or.inr ⟨rfl, hJ.2.2.2.2, fun x' hx' => hcl x' (by omega)⟩⟩))
        · rw [h3]
          have := mgI_len hJ.1
          exact ih (a - (T ++ F).length) (by omega) F y (Nat.le_refl _) hJ
      | succ d ihp =>
        intro x F x3 y hx hJ h3
        have hMy := mF hJ.2.1
        have hxc : x < c := by omega
        obtain ⟨⟨e61, lo⟩, ⟨e62, li⟩, e63, lf⟩ := hMy.2.1 x hxc
        have e80 := hMy.2.2.2 x hxc
        have st := hJ.1.2.2.2.2
        have hle0 : (T ++ E).length ≤ (T ++ F).length := by
          rcases h3 with ⟨-, eF, -⟩ | ⟨-, h4⟩
          · rw [eF]
            exact Nat.le_refl _
          · exact Nat.le_of_lt h4
        have c7 : ∀ (x5 : Int32), (F = E → clX y m sg ov iv fv pt (T ++ E) x) → Tt (fun K i => q_X13_follows K i 7 (nI m) x3 (nI x) x5 0 0 n 0 0 0 y) Q := by
          intro x5 hcl
          refine u_X13_follows_7 ?_; unfold qm_X13_follows_7
          rw [nI_1]
          refine ihp (x + 1) F x3 y (by omega) hJ (h3.imp (fun ⟨p1, p2, p3⟩ => ⟨p1, p2, fun x' hx' => ?_⟩) id)
          by_cases e : x' = x
          · rw [e]
            exact hcl p2
          · exact p3 x' (by omega)
        have c7g : ∀ (b : Nat) (x5 : Int32) (y1 : ow_MS), J (F ++ [b]) y1 → Tt (fun K i => q_X13_follows K i 7 (nI m) 1 (nI x) x5 0 0 n 0 0 0 y1) Q := by
          intro b x5 y1 hJ1
          refine u_X13_follows_7 ?_; unfold qm_X13_follows_7
          rw [nI_1]
          refine ihp (x + 1) (F ++ [b]) 1 y1 (by omega) hJ1 (Or.inr ⟨rfl, ?_⟩)
          rw [← List.append_assoc, List.length_append (as := T ++ F)]
          show _ < _ + 1
          omega
        refine u_X13_follows_2 ?_; unfold qm_X13_follows_2
        refine w_rdF hMy.1.1.V (w_nzI (by decide) ?_)
        rw [hV, half_V (by omega)]
        refine w_leF (by omega) (by omega) (w_rdI ml61 rfl (by omega) e61 (w_rdI ml77 rfl (by omega) rfl (w_rdI ml80 rfl (by omega) e80 (w_if (fun e0 => c7 _ (fun _ hp => ?_)) (fun e1 => ?_)))))
        · rw [bI_0 e0] at hp
          cases hp
        have hpt := bI_1 e1
        rcases st (ov x) (by omega) with ⟨k1, k2⟩ | ⟨koT, g, hg, eg⟩
        · rw [k2]
          exact w_ifT rfl (c7 _ (fun eF _ h9 => absurd h9 (by rw [← eF]; exact k1)))
        rw [eg]
        refine w_ifF (rn_neg1 (by omega)) ?_
        obtain ⟨c', hok, -⟩ := hMy.1.2.2.1
        have hcc : c' = c := by have := okF_len hok; omega
        rw [hcc] at hok
        obtain ⟨t, t1, t2, -⟩ := ok_u hok hxc 0 (by omega)
        have sx : y.2.1 (n + 6) x = if sg x then -1 else 1 := by
          have := hMy.1.2.1 _ (vAt_mem t1)
          rw [show (vAt A t).1 = x from t2] at this
          exact this
        have c4 : ∀ (r6 r7 : Nat), r6 = (if sg x = true then 76 else 75) → r7 = (if (!sg x) = true then 76 else 75) → Tt (fun K i => q_X13_follows K i 4 (nI m) x3 (nI x) (nI g) 0 0 n r6 0 r7 y) Q := by
          intro r6 r7 hr6 hr7
          have l6 : (mX.2 r6).2.1 = 2880 := tb_len (by rw [hr6]; cases sg x; exact Or.inl rfl; exact Or.inr rfl)
          have l7 : (mX.2 r7).2.1 = 2880 := tb_len (by rw [hr7]; cases sg x; exact Or.inr rfl; exact Or.inl rfl)
          have sol : ∀ L, slM m c a sg ov iv fv pt L → exT y m (T ++ F) L → ∃ i j, L[ov x]? = some g ∧ L[iv x]? = some i ∧ L[fv x]? = some j ∧ i < thM m ∧ j = opM m (sg x) g i := fun L hL hxL => by
            have g1 := hxL (ov x) g koT hg eg
            have g2 : L[iv x]? = some (L[iv x]'(by rw [hL.1]; exact li)) := List.getElem?_eq_getElem (by rw [hL.1]; exact li)
            have g3 : L[fv x]? = some (L[fv x]'(by rw [hL.1]; exact lf)) := List.getElem?_eq_getElem (by rw [hL.1]; exact lf)
            exact ⟨_, _, g1, g2, g3, (hL.2.1 _ _ g2).1, hL.2.2 x hxc hpt _ _ _ g1 g2 g3⟩
          rcases st (iv x) (by omega) with ⟨i1, i2⟩ | ⟨i1, q8, h8, e8⟩
          · rcases st (fv x) (by omega) with ⟨f1, f2⟩ | ⟨f1, q10, h10, e10⟩
            · refine u_X13_follows_4 ?_; unfold qm_X13_follows_4
              refine w_rdI ml62 rfl (by omega) e62 (w_rdI ml77 rfl (by omega) i2 (w_rdI ml63 rfl (by omega) e63 (w_rdI ml77 rfl (by omega) f2 (w_ifT rfl ?_))))
              refine u_X13_follows_5 ?_; unfold qm_X13_follows_5
              refine w_ifT rfl ?_
              refine u_X13_follows_6 ?_; unfold qm_X13_follows_6
              refine w_ifT rfl (w_ifT rfl (c7 _ (fun eF _ _ => ⟨⟨fun h9 => absurd h9 (by rw [← eF]; exact i1), fun h9 => absurd h9 (by rw [← eF]; exact f1)⟩, fun _ _ _ _ _ _ h9 => absurd h9 (by rw [← eF]; exact i1)⟩)))
            · have ib := ib_n hm1 hm4 hg h10 (!sg x)
              refine u_X13_follows_4 ?_; unfold qm_X13_follows_4
              refine w_rdI ml62 rfl (by omega) e62 (w_rdI ml77 rfl (by omega) i2 (w_rdI ml63 rfl (by omega) e63 (w_rdI ml77 rfl (by omega) e10 (w_ifT rfl ?_))))
              refine u_X13_follows_5 ?_; unfold qm_X13_follows_5
              refine w_ifT rfl ?_
              refine u_X13_follows_6 ?_; unfold qm_X13_follows_6
              rw [tb_ix]
              refine w_ifT rfl (w_ifF (rn_neg1 (by omega)) (w_rdI ml62 rfl (by omega) e62 (w_rdI l7 rfl (by omega) (tab hJ.2.1 (!sg x) r7 g q10 hr7 hg h10) (w_cs0 (gv hJ li i1 ib.2 ⟨x, hxc, hpt, Or.inr (Or.inl rfl)⟩ (fun L hL hxL => ?_)) (fun y1 hJ1 => c7g _ _ _ hJ1)))))
              obtain ⟨i, j, s1, s2, s3, s4, s5⟩ := sol L hL hxL
              have s6 := hxL (fv x) q10 f1 h10 e10
              rw [s6] at s3
              have ej : q10 = j := Option.some.inj s3
              rw [s2, ej, s5, (ib_n hm1 hm4 hg s4 (sg x)).1]
          · rcases st (fv x) (by omega) with ⟨f1, f2⟩ | ⟨f1, q10, h10, e10⟩
            · have ib := ib_n hm1 hm4 hg h8 (sg x)
              refine u_X13_follows_4 ?_; unfold qm_X13_follows_4
              refine w_rdI ml62 rfl (by omega) e62 (w_rdI ml77 rfl (by omega) e8 (w_rdI ml63 rfl (by omega) e63 (w_rdI ml77 rfl (by omega) f2 (w_ifF (rn_neg1 (by omega)) (w_ifT rfl ?_)))))
              refine u_X13_follows_5 ?_; unfold qm_X13_follows_5
              rw [tb_ix]
              refine w_ifF (rn_neg1 (by omega)) (w_ifT rfl (w_rdI ml63 rfl (by omega) e63 (w_rdI l6 rfl (by omega) (tab hJ.2.1 (sg x) r6 g q8 hr6 hg h8) (w_cs0 (gv hJ lf f1 ib.2 ⟨x, hxc, hpt, Or.inr (Or.inr rfl)⟩ (fun L hL hxL => ?_)) (fun y1 hJ1 => c7g _ _ _ hJ1)))))
              obtain ⟨i, j, s1, s2, s3, s4, s5⟩ := sol L hL hxL
              have s6 := hxL (iv x) q8 i1 h8 e8
              rw [s6] at s2
              have ei : q8 = i := Option.some.inj s2
              rw [s3, s5, ei]
            · have ib := ib_n hm1 hm4 hg h8 (sg x)
              refine u_X13_follows_4 ?_; unfold qm_X13_follows_4
              refine w_rdI ml62 rfl (by omega) e62 (w_rdI ml77 rfl (by omega) e8 (w_rdI ml63 rfl (by omega) e63 (w_rdI ml77 rfl (by omega) e10 (w_ifF (rn_neg1 (by omega)) (w_ifF (rn_neg1 (by omega)) (w_rdI (i := 576 * m + 24 * g + q8) l6 tb_ix (by omega) (tab hJ.2.1 (sg x) r6 g q8 hr6 hg h8) (w_eqN (by omega) (by omega) (fun eq => ?_) (fun ne => w_okZ (Or.inl rfl) (w_some ⟨F, hJ.1, hJ.2.1, hJ.2.2.1, hJ.2.2.2.1, Or.inl ⟨rfl, fun L hL hx0 => ?_⟩⟩)))))))))
              · refine u_X13_follows_5 ?_; unfold qm_X13_follows_5
                refine w_ifF (rn_neg1 (by omega)) (w_ifF (rn_neg1 (by omega)) ?_)
                refine u_X13_follows_6 ?_; unfold qm_X13_follows_6
                refine w_ifF (rn_neg1 (by omega)) (c7 _ (fun eF _ _ => ⟨⟨fun _ => by rw [← eF]; exact f1, fun _ => by rw [← eF]; exact i1⟩, fun o' i' j' o1 o2 o3 _ o4 o5 o6 => ?_⟩))
                rw [eg] at o4
                rw [e8] at o5
                rw [e10] at o6
                rw [← nI_inj9 (by omega) (by omega) o4, ← nI_inj9 (by omega) (by omega) o5, ← nI_inj9 (by omega) (by omega) o6]
                exact eq.symm
              · obtain ⟨i, j, s1, s2, s3, s4, s5⟩ := sol L hL (hJ.2.2.2.2 L hL hx0)
                have hxL := hJ.2.2.2.2 L hL hx0
                have s6 := hxL (iv x) q8 i1 h8 e8
                have s7 := hxL (fv x) q10 f1 h10 e10
                rw [s6] at s2
                rw [s7] at s3
                have ei : q8 = i := Option.some.inj s2
                have ej : q10 = j := Option.some.inj s3
                exact ne (by rw [ej, ei]; exact s5.symm)
        cases hs : sg x
        · rw [hs] at sx c4
          refine w_rdI (pl6 hn) rfl (by omega) sx (w_ifF (by decide) ?_)
          refine u_X13_follows_3 ?_; unfold qm_X13_follows_3
          exact w_rdI (pl6 hn) rfl (by omega) sx (w_ifF (by decide) (c4 75 76 rfl rfl))
        · rw [hs] at sx c4
          refine w_rdI (pl6 hn) rfl (by omega) sx (w_ifT (by decide) ?_)
          refine u_X13_follows_3 ?_; unfold qm_X13_follows_3
          exact w_rdI (pl6 hn) rfl (by omega) sx (w_ifT (by decide) (c4 76 75 rfl rfl))
    refine u_X13_follows_1 ?_; unfold qm_X13_follows_1
    exact w_ifF (by decide) (pass c 0 E 0 y (by omega) hJ (Or.inl ⟨rfl, rfl, fun x' hx' => absurd hx' (Nat.not_lt_zero _)⟩))
  refine e_X13_follows ?_
  refine u_X13_follows_0 ?_; unfold qm_X13_follows_0
  refine key (a - (T ++ []).length) [] z (Nat.le_refl _) ⟨by rw [List.append_nil]; exact hI, fr_rf, fun _ _ => rfl, fun b hb => absurd hb List.not_mem_nil, fun L _ hx => by rw [List.append_nil]; exact hx⟩
end XM6
