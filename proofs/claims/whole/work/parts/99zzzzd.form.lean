/-! formOf, normal, factor, equal have an answer -/
section GARF
variable {X : (Nat → Nat → Int32) → Prop} {z : ow_MS} {n : Nat}
theorem gI_tb (hG : ∀ W, X W → XG W) (h : gI X z) : tbG z := by
  have k : XG (fun g => z.2.1 (if g = 53 ∨ 73 ≤ g ∧ g ≤ 76 ∨ 97 ≤ g ∧ g ≤ 105 then g else 73)) := hG _ h.2.2.2.2.2.2
  show XGr (z.2.1 97) (z.2.1 99) (z.2.1 100) (z.2.1 101) (z.2.1 102) (z.2.1 103) (z.2.1 104) (z.2.1 105)
  exact k
/-- a form that was found: at most m simple ones, its power between bounds -/
def foI (y : ow_MS) (n m : Nat) : Prop := ∃ S κ, fmI y n S ∧ S.length ≤ m ∧ y.1 112 = iI κ ∧ -40 ≤ κ ∧ κ ≤ 400
theorem u_X13_formOf_1 {x1 : Int32} {x2 : Int32} {x3 : Int32} {x4 : Int32} {x5 : Int32} {x6 : Int32} {z : ow_MS} {Q : ow_MS → Prop} (H : Tt (fun K k => qm_X13_formOf_1 K (q_X13_formOf K k) x1 x2 x3 x4 x5 x6 z) Q) : Tt (fun K k => q_X13_formOf K k 1 x1 x2 x3 x4 x5 x6 z) Q := w_un (fun _ _ => rfl) H
theorem u_X13_formOf_3 {x1 : Int32} {x2 : Int32} {x3 : Int32} {x4 : Int32} {x5 : Int32} {x6 : Int32} {z : ow_MS} {Q : ow_MS → Prop} (H : Tt (fun K k => qm_X13_formOf_3 K (q_X13_formOf K k) x1 x2 x3 x4 x5 x6 z) Q) : Tt (fun K k => q_X13_formOf K k 3 x1 x2 x3 x4 x5 x6 z) Q := w_un (fun _ _ => rfl) H
theorem u_X13_formOf_2 {x1 : Int32} {x2 : Int32} {x3 : Int32} {x4 : Int32} {x5 : Int32} {x6 : Int32} {z : ow_MS} {Q : ow_MS → Prop} (H : Tt (fun K k => qm_X13_formOf_2 K (q_X13_formOf K k) x1 x2 x3 x4 x5 x6 z) Q) : Tt (fun K k => q_X13_formOf K k 2 x1 x2 x3 x4 x5 x6 z) Q := w_un (fun _ _ => rfl) H
theorem e_X13_formOf {x1 : Int32} {z : ow_MS} {Q : ow_MS → Prop} (H : Tt (fun K k => q_X13_formOf K k 0 x1 0 0 0 0 0 z) Q) : Te (fun K => qe_X13_formOf K x1 z) Q := w_te H
theorem u_X13_formOf_0 {x1 : Int32} {x2 : Int32} {x3 : Int32} {x4 : Int32} {x5 : Int32} {x6 : Int32} {z : ow_MS} {Q : ow_MS → Prop} (H : Tt (fun K k => qm_X13_formOf_0 K (q_X13_formOf K k) x1 x2 x3 x4 x5 x6 z) Q) : Tt (fun K k => q_X13_formOf K k 0 x1 x2 x3 x4 x5 x6 z) Q := w_un (fun _ _ => rfl) H
theorem tp_formOf {b l : Nat} (hb : b < 20) (hh : hBr z b n l) (hT : tbG z) : Te (fun K => qe_X13_formOf K (nI b) z) (fun z1 => (∃ S κ, fmI z1 n S ∧ S.length ≤ 16 ∧ z1.1 112 = iI κ ∧ -16 ≤ κ ∧ κ + szL n S ≤ 160) ∧ fr nmH z z1) := by
  obtain ⟨h2, h5, hl, e96, e95, hlt⟩ := hh
  have hN := nn_pos (n := n)
  let Q : ow_MS → Prop := fun z1 => (∃ S κ, fmI z1 n S ∧ S.length ≤ 16 ∧ z1.1 112 = iI κ ∧ -16 ≤ κ ∧ κ + szL n S ≤ 160) ∧ fr nmH z z1
  have tF : ∀ {y : ow_MS}, fr nmH z y → tbG y := fun hf => tbG_fr hf (fun g hg => by unfold nmH at hg; omega) hT
  have rF : ∀ {y : ow_MS} {g i : Nat}, fr nmH z y → g ≤ 96 → y.2.1 g i = z.2.1 g i := fun hf hg => by rw [(hf _ (by unfold nmH; omega)).2.1]
  have c1 : ∀ (d i g : Nat) (B : List (List Nat)) (y : ow_MS), i + d = l → g ≤ i → B.length = i → blG n B → lnI y 109 108 B.flatten → fr nmH z y → Tt (fun K t => q_X13_formOf K t 1 (nI b) (nI n) (iI (-(g : Int))) (nI i) 0 0 y) Q := by
    intro d
    induction d with
    | zero =>
      intro i g B y hi hg hBl hB hw hf
      have hfl := (bl_len h2 h5 B hB).1
      refine u_X13_formOf_1 ?_; unfold qm_X13_formOf_1
      refine w_rdI ml95 rfl (by omega) (by rw [rF hf (by omega)]; exact e95) (w_leT (by omega) (by omega) (w_cs0 (tp_normalise h2 h5 (tF hf) hB (by omega) hw) (fun y1 ⟨⟨S, t, f1, f2, f3, f4⟩, f5⟩ => w_some ⟨⟨S, -(g : Int) + t, f1, by omega, ?_, ?_, ?_⟩, fr_tr hf f5⟩)))
      · rw [f3, nI_iI, iI_add]
      · omega
      · have h1 := (f_fiv h2 h5 (a := 0) (by omega)).2.2.2.2.1
        have h3 : t * 1 ≤ t * szG n (gNN n - 1) := Nat.mul_le_mul_left _ h1
        omega
    | succ d ih =>
      intro i g B y hi hg hBl hB hw hf
      have hfl := (bl_len h2 h5 B hB).1
      obtain ⟨a, ha, hx⟩ := hlt i (by omega)
      have e94 : y.2.1 94 (16 * b + i) = z.2.1 94 (16 * b + i) := rF hf (by omega)
      have z1 := (f_fiv h2 h5 ha).1
      have hm0 := (f_two h2 h5 (k := 0) (by omega) ha).2.2.1
      refine u_X13_formOf_1 ?_; unfold qm_X13_formOf_1
      rw [show (16 : Int32) * nI b = nI (16 * b) from pk_mul 16 b, nI_add]
      refine w_rdI ml95 rfl (by omega) (by rw [rF hf (by omega)]; exact e95) (w_leF (by omega) (by omega) ?_)
      rcases hx with hx | hx
      · refine w_rdI ml94 rfl (by omega) (e94.trans hx) (w_leF (b := 0) (by omega) (by omega) (w_rdF hw.1 ?_))
        rw [show nI (a + 1) - 1 = nI a from (pk_sub (a := a + 1) (b := 1) (by omega)).trans (by rw [Nat.add_sub_cancel])]
        refine w_wrI ml108 rfl (by omega) (w_rdF (x := nI B.flatten.length) hw.1 (w_wrF ?_))
        refine u_X13_formOf_3 ?_; unfold qm_X13_formOf_3
        rw [nI_1]
        refine ih (i + 1) g (B ++ [[a]]) _ (by omega) (by omega) (by rw [List.length_append, hBl]; rfl) (bl_app h2 h5 hB ?_) ?_ (fr_F2 (fr_I2 hf (by unfold nmH; omega)) (by unfold nmH; omega))
        · have := bl_one h2 h5 (s := moG n 0 a - 1) (by omega)
          rw [ltG_1 h2 h5 ha] at this
          exact this
        · rw [List.flatten_append]
          have := lnI_add (a := a) hw
          exact this
      · have hle : (-1 - nI a : Int32) ≤ 0 := by
          rw [nI_iI]
          show iI (-1) - iI (a : Int) ≤ iI 0
          rw [iI_sub, iI_le (by omega) (by omega) (by omega) (by omega)]
          omega
        have eix : (480 : Int32) * nI n - (-1 - nI a) - 1 = nI (480 * n + a) := by
          rw [nI_iI n, nI_iI a]
          show iI 480 * iI (n : Int) - (iI (-1) - iI (a : Int)) - iI 1 = _
          rw [iI_mul, iI_sub, iI_sub, iI_sub]
          exact iI_nI (by omega)
        refine w_rdI ml94 rfl (by omega) (e94.trans hx) (w_ifT hle ?_)
        rw [show iI (-(g : Int)) + (-1) = iI (-((g + 1 : Nat) : Int)) from by
          show iI (-(g : Int)) + iI (-1) = _
          rw [iI_add]
          exact congrArg iI (by omega)]
        have c2 : ∀ (d2 t : Nat) (y : ow_MS), t + d2 = B.flatten.length → y.1 109 = nI B.flatten.length → (∀ j c, j < t → B.flatten[j]? = some c → y.2.1 108 j = nI (n - 2 - c)) → (∀ j c, t ≤ j → B.flatten[j]? = some c → y.2.1 108 j = nI c) → fr nmH z y → Tt (fun K k => q_X13_formOf K k 2 (nI b) (nI n) (iI (-((g + 1 : Nat) : Int))) (nI i) (-1 - nI a) (nI t) y) Q := by
          intro d2
          induction d2 with
          | zero =>
            intro t y ht h109 hc1 hc2 hf
            have hT0 := (((tF hf) n h2 h5).2 0 (by omega)).2.2.2.2 a ha
            rw [if_neg z1] at hT0
            have hs : moG n 0 a - 1 < gNN n := by omega
            have hTs := (((tF hf) n h2 h5).2 _ hs).2.1
            have hah := (f_one h2 h5 hs).2.1
            have e101 : y.2.1 101 (480 * n + a) = nI (moG n 0 a - 1) := by
              have := hT0.1
              rw [show 4 * (120 * n + 0) + a = 480 * n + a by omega] at this
              exact this
            have hw2 : lnI y 109 108 (B.map (List.map (fun a => n - 2 - a))).flatten := by
              rw [← List.map_flatten]
              refine ⟨by rw [List.length_map]; exact h109, fun j c hj => ?_⟩
              rw [List.getElem?_map] at hj
              cases hc : B.flatten[j]? with
              | none => rw [hc] at hj; cases hj
              | some c0 =>
                rw [hc] at hj
                cases hj
                exact hc1 j c0 (by have := (List.getElem?_eq_some_iff.mp hc).1; omega) hc
            have hBf := bl_flip h2 h5 hB
            have hflf := (bl_len h2 h5 _ hBf).1
            rw [List.length_map] at hflf
            refine u_X13_formOf_2 ?_; unfold qm_X13_formOf_2
            rw [eix]
            refine w_rdF h109 (w_leT (by omega) (by omega) (w_rdI ml101 rfl (by omega) e101 ?_))
            rw [ix120]
            refine w_rdI ml102 rfl (by omega) hTs (w_cs0 (tp_append h2 h5 hah (tF hf) hw2 (by omega)) (fun y1 ⟨w1, f1⟩ => ?_))
            refine u_X13_formOf_3 ?_; unfold qm_X13_formOf_3
            rw [nI_1]
            refine ih (i + 1) (g + 1) (B.map (List.map (fun a => n - 2 - a)) ++ [ltG n (ahG n (moG n 0 a - 1))]) y1 (by omega) (by omega) (by rw [List.length_append, List.length_map, hBl]; rfl) (bl_app h2 h5 hBf (bl_one h2 h5 hah)) ?_ (fr_tr hf (fr_mono (fun g hg => by unfold nmH; omega) f1))
            rw [List.flatten_append]
            have : [ltG n (ahG n (moG n 0 a - 1))].flatten = ltG n (ahG n (moG n 0 a - 1)) := by simp
            rw [this]
            exact w1
          | succ d2 ih2 =>
            intro t y ht h109 hc1 hc2 hf
            have htl : t < B.flatten.length := by omega
            have hc := (bl_len h2 h5 B hB).2 _ (List.getElem_mem htl)
            have hrd := hc2 t _ (Nat.le_refl _) (List.getElem?_eq_getElem htl)
            generalize hce : B.flatten[t] = c at *
            refine u_X13_formOf_2 ?_; unfold qm_X13_formOf_2
            refine w_rdF h109 (w_leF (by omega) htl (w_rdI ml108 rfl (by omega) hrd ?_))
            rw [show nI n - 2 - nI c = nI (n - 2 - c) from by rw [show nI n - 2 = nI (n - 2) from pk_sub (b := 2) h2]; exact pk_sub (by omega), show nI t + 1 = nI (t + 1) from nI_1 _]
            refine w_wrI ml108 rfl (by omega) (ih2 (t + 1) _ (by omega) h109 (fun j c9 hj hj9 => ?_) (fun j c9 hj hj9 => rd_ne (by omega) (hc2 j c9 (by omega) hj9)) (fr_I2 hf (by unfold nmH; omega)))
            by_cases hjt : j = t
            · rw [hjt, List.getElem?_eq_getElem htl, hce] at hj9
              cases hj9
              rw [hjt, po_usI_at]
            · exact rd_ne hjt (hc1 j c9 (by omega) hj9)
        exact c2 B.flatten.length 0 y (by omega) hw.1 (fun j c hj => absurd hj (by omega)) (fun j c _ hj => hw.2 j c hj) hf
  refine e_X13_formOf ?_
  refine u_X13_formOf_0 ?_; unfold qm_X13_formOf_0
  refine w_rdI ml96 rfl (by omega) e96 (w_wrF ?_)
  exact c1 l 0 0 [] (usF z 109 0) (by omega) (Nat.le_refl _) rfl bl_nil ⟨po_usF_at, fun i a hi => by simp at hi⟩ (fr_F (by unfold nmH; omega))
theorem gI_nm {z z1 : ow_MS} (hf : fr nmH z z1) (h : gI X z) : gI X z1 := gI_fr hf (fun g hg => by unfold nmH at hg; unfold per; omega) h
theorem u_X13_normal_1 {x1 : Int32} {x2 : Int32} {z : ow_MS} {Q : (Int32 × ow_MS) → Prop} (H : Tt (fun K k => qm_X13_normal_1 K (q_X13_normal K k) x1 x2 z) Q) : Tt (fun K k => q_X13_normal K k 1 x1 x2 z) Q := w_un (fun _ _ => rfl) H
theorem e_X13_normal {x1 : Int32} {x2 : Int32} {z : ow_MS} {Q : (Int32 × ow_MS) → Prop} (H : Tt (fun K k => q_X13_normal K k 0 x1 x2 z) Q) : Te (fun K => qe_X13_normal K x1 x2 z) Q := w_te H
theorem u_X13_normal_0 {x1 : Int32} {x2 : Int32} {z : ow_MS} {Q : (Int32 × ow_MS) → Prop} (H : Tt (fun K k => qm_X13_normal_0 K (q_X13_normal K k) x1 x2 z) Q) : Tt (fun K k => q_X13_normal K k 0 x1 x2 z) Q := w_un (fun _ _ => rfl) H
theorem tp_normal {b w : Int32} (hG : ∀ W, X W → XG W) (h : gI X z) : Te (fun K => qe_X13_normal K b w z) (fun r => gI X r.2) := by
  have h1 := gI_1 (c := 0) h
  have c1 : ∀ {x1 x2 : Int32} {y : ow_MS}, gI X y → Tt (fun K i => q_X13_normal K i 1 x1 x2 y) (fun r => gI X r.2) := by
    intro x1 x2 y hy
    refine u_X13_normal_1 ?_; unfold qm_X13_normal_1
    exact w_fail hy
  refine e_X13_normal ?_
  refine u_X13_normal_0 ?_; unfold qm_X13_normal_0
  refine w_wrF (w_hasB h1.2.2.2.2.2.1 (w_ifT rfl (w_fail h1)) (fun c n l hc hx hh => w_ifF (by decide) ?_))
  subst hx
  refine w_if (fun _ => c1 h1) (fun _ => w_if (fun _ => w_if (fun _ => w_rdI ml95 rfl (by omega) rfl (w_some h1)) (fun _ => w_if (fun _ => w_rdI ml96 rfl (by omega) rfl (w_some h1)) (fun _ => w_cs0 (tp_formOf hc hh (gI_tb hG h1)) (fun y ⟨_, f1⟩ => w_if (fun _ => w_rdF rfl (w_some (gI_nm f1 h1))) (fun _ => w_rdF rfl (w_some (gI_nm f1 h1))))))) (fun _ => c1 h1))
theorem u_X13_factor_1 {x1 : Int32} {x2 : Int32} {x3 : Int32} {z : ow_MS} {Q : (Int32 × ow_MS) → Prop} (H : Tt (fun K k => qm_X13_factor_1 K (q_X13_factor K k) x1 x2 x3 z) Q) : Tt (fun K k => q_X13_factor K k 1 x1 x2 x3 z) Q := w_un (fun _ _ => rfl) H
theorem e_X13_factor {x1 : Int32} {x2 : Int32} {x3 : Int32} {z : ow_MS} {Q : (Int32 × ow_MS) → Prop} (H : Tt (fun K k => q_X13_factor K k 0 x1 x2 x3 z) Q) : Te (fun K => qe_X13_factor K x1 x2 x3 z) Q := w_te H
theorem u_X13_factor_0 {x1 : Int32} {x2 : Int32} {x3 : Int32} {z : ow_MS} {Q : (Int32 × ow_MS) → Prop} (H : Tt (fun K k => qm_X13_factor_0 K (q_X13_factor K k) x1 x2 x3 z) Q) : Tt (fun K k => q_X13_factor K k 0 x1 x2 x3 z) Q := w_un (fun _ _ => rfl) H
theorem tp_factor {b i j : Int32} (hG : ∀ W, X W → XG W) (h : gI X z) : Te (fun K => qe_X13_factor K b i j z) (fun r => gI X r.2) := by
  have h1 := gI_1 (c := 0) h
  have c1 : ∀ {x1 x2 x3 : Int32} {y : ow_MS}, gI X y → Tt (fun K i => q_X13_factor K i 1 x1 x2 x3 y) (fun r => gI X r.2) := by
    intro x1 x2 x3 y hy
    refine u_X13_factor_1 ?_; unfold qm_X13_factor_1
    exact w_some hy
  refine e_X13_factor ?_
  refine u_X13_factor_0 ?_; unfold qm_X13_factor_0
  refine w_wrF (w_hasB h1.2.2.2.2.2.1 (w_ifT rfl (w_fail h1)) (fun c n l hc hx hh => w_ifF (by decide) ?_))
  subst hx
  have h2 := hh.1
  have h5 := hh.2.1
  refine w_cs0 (tp_formOf hc hh (gI_tb hG h1)) (fun y ⟨⟨S, κ, f1, f2, _⟩, f3⟩ => ?_)
  have gy := gI_nm f3 h1
  have e96 : y.2.1 96 c = nI n := by rw [(f3 96 (by unfold nmH; omega)).2.1]; exact hh.2.2.2.1
  have hN := nn_pos (n := n)
  refine w_if (fun _ => c1 gy) (fun hi1 => ?_)
  obtain ⟨i', hi31, rfl⟩ := nI_of (x := i) (fun h9 => hi1 (by
    rw [Int32.lt_iff_toInt_lt] at h9 ⊢
    exact Int.lt_trans h9 (by decide)))
  have hi0 : 1 ≤ i' := by
    rcases Nat.eq_zero_or_pos i' with h9 | h9
    · exact absurd (show nI i' < 1 by rw [h9]; decide) hi1
    · exact h9
  refine w_rdF f1.1.1 (w_lt (by omega) hi31 (fun _ => c1 gy) (fun hle => w_if (fun _ => c1 gy) (fun hj0 => ?_)))
  obtain ⟨j', hj31, rfl⟩ := nI_of hj0
  refine w_rdI ml96 rfl (by omega) e96 (w_lt hj31 (by omega) (fun hjn => w_rdI ml96 rfl (by omega) e96 ?_) (fun _ => c1 gy))
  have hil : i' - 1 < S.length := by omega
  have hs := f1.2 _ (List.getElem_mem hil)
  rw [show nI i' - 1 = nI (i' - 1) from pk_sub (b := 1) hi0]
  refine w_rdI ml114 rfl (by omega) (f1.1.2 _ _ (List.getElem?_eq_getElem hil)) ?_
  generalize S[i' - 1] = s at hs
  refine w_rdI (i := 5 * (120 * n + s) + j') ml98 (by rw [ix120, show (5 : Int32) * nI (120 * n + s) = nI (5 * (120 * n + s)) from pk_mul 5 _, nI_add]) (by omega) rfl (w_some gy)
/-! forms in rows -/
def frwI (y : ow_MS) (r o n : Nat) (S : List Nat) (κ : Int) : Prop := y.2.1 r o = iI κ ∧ y.2.1 r (o + 1) = nI S.length ∧ (∀ i s, S[i]? = some s → y.2.1 r (o + 2 + i) = nI s) ∧ ∀ s, s ∈ S → s < gNN n
theorem frwI_fr {P : Nat → Prop} {y y1 : ow_MS} {r o n : Nat} {S : List Nat} {κ : Int} (hf : fr P y y1) (hP : ¬ P r) (h : frwI y r o n S κ) : frwI y1 r o n S κ := by
  have e := (hf r hP).2.1
  exact ⟨by rw [e]; exact h.1, by rw [e]; exact h.2.1, fun i s hi => by rw [e]; exact h.2.2.1 i s hi, h.2.2.2⟩
theorem u_X13_formTo_1 {x2 : Int32} {x3 : Int32} {r1 : Nat} {z : ow_MS} {Q : ow_MS → Prop} (H : Tt (fun K k => qm_X13_formTo_1 K (q_X13_formTo K k) x2 x3 r1 z) Q) : Tt (fun K k => q_X13_formTo K k 1 x2 x3 r1 z) Q := w_un (fun _ _ => rfl) H
theorem e_X13_formTo {r1 : Nat} {x2 : Int32} {z : ow_MS} {Q : ow_MS → Prop} (H : Tt (fun K k => q_X13_formTo K k 0 x2 0 r1 z) Q) : Te (fun K => qe_X13_formTo K r1 x2 z) Q := w_te H
theorem u_X13_formTo_0 {x2 : Int32} {x3 : Int32} {r1 : Nat} {z : ow_MS} {Q : ow_MS → Prop} (H : Tt (fun K k => qm_X13_formTo_0 K (q_X13_formTo K k) x2 x3 r1 z) Q) : Tt (fun K k => q_X13_formTo K k 0 x2 x3 r1 z) Q := w_un (fun _ _ => rfl) H
theorem tp_formTo {r o len : Nat} {S : List Nat} {κ : Int} (hr : (mX.2 r).2.1 = len) (hrr : r = 115 ∨ r = 117 ∨ r = 118) (hlen : len ≤ 8040) (ho : o + 2 + S.length ≤ len) (hS6 : S.length ≤ 38) (hS : fmI z n S) (hk : z.1 112 = iI κ) : Te (fun K => qe_X13_formTo K r (nI o) z) (fun z1 => frwI z1 r o n S κ ∧ fr (fun g => g = r) z z1 ∧ ∀ i, i < o ∨ o + 2 + S.length ≤ i → z1.2.1 r i = z.2.1 r i) := by
  let Q : ow_MS → Prop := fun z1 => frwI z1 r o n S κ ∧ fr (fun g => g = r) z z1 ∧ ∀ i, i < o ∨ o + 2 + S.length ≤ i → z1.2.1 r i = z.2.1 r i
  have c1 : ∀ (d i : Nat) (y : ow_MS), i + d = S.length → fr (fun g => g = r) z y → y.2.1 r o = iI κ → y.2.1 r (o + 1) = nI S.length → (∀ j s, j < i → S[j]? = some s → y.2.1 r (o + 2 + j) = nI s) → (∀ i, i < o ∨ o + 2 + S.length ≤ i → y.2.1 r i = z.2.1 r i) → Tt (fun K t => q_X13_formTo K t 1 (nI o) (nI i) r y) Q := by
    intro d
    induction d with
    | zero =>
      intro i y hi hf h0 h1 hc hout
      refine u_X13_formTo_1 ?_; unfold qm_X13_formTo_1
      exact w_rdF (x := nI S.length) (by rw [(hf 113 (by omega)).1]; exact hS.1.1) (w_leT (by omega) (by omega) (w_some ⟨⟨h0, h1, fun j s hj => hc j s (by have := (List.getElem?_eq_some_iff.mp hj).1; omega) hj, hS.2⟩, hf, hout⟩))
    | succ d ih =>
      intro i y hi hf h0 h1 hc hout
      have hil : i < S.length := by omega
      have e114 : y.2.1 114 i = nI S[i] := by rw [(hf 114 (by omega)).2.1]; exact hS.1.2 i _ (List.getElem?_eq_getElem hil)
      refine u_X13_formTo_1 ?_; unfold qm_X13_formTo_1
      rw [show nI o + 2 = nI (o + 2) from nI_add o 2, nI_add, nI_1]
      refine w_rdF (x := nI S.length) (by rw [(hf 113 (by omega)).1]; exact hS.1.1) (w_leF (by omega) hil (w_rdI ml114 rfl (by omega) e114 (w_wrI hr rfl (by omega) (ih (i + 1) _ (by omega) (fr_I2 hf rfl) (rd_ne (by omega) h0) (rd_ne (by omega) h1) (fun j s hj hs => ?_) (fun t ht => by rw [po_usI_ne (by omega)]; exact hout t ht)))))
      by_cases hji : j = i
      · rw [hji, List.getElem?_eq_getElem hil] at hs
        cases hs
        rw [hji, po_usI_at]
      · exact rd_ne (by omega) (hc j s (by omega) hs)
  refine e_X13_formTo ?_
  refine u_X13_formTo_0 ?_; unfold qm_X13_formTo_0
  rw [show nI o + 1 = nI (o + 1) from nI_1 _]
  refine w_rdF hk (w_wrI hr rfl (by omega) (w_rdF (x := nI S.length) hS.1.1 (w_wrI hr rfl (by omega) (c1 S.length 0 _ (by omega) (fr_I2 (fr_I rfl) rfl) (rd_ne (by omega) po_usI_at) po_usI_at (fun j s hj => absurd hj (by omega)) (fun t ht => by rw [po_usI_ne (by omega), po_usI_ne (by omega)])))))
theorem u_X13_isForm_3 {x1 : Int32} {x3 : Int32} {x4 : Int32} {x5 : Int32} {r0 : Nat} {r2 : Nat} {t0 : Int32} {z : ow_MS} {Q : (Int32 × ow_MS) → Prop} (H : Tt (fun K k => qm_X13_isForm_3 K (q_X13_isForm K k) x1 x3 x4 x5 r0 r2 t0 z) Q) : Tt (fun K k => q_X13_isForm K k 3 x1 x3 x4 x5 r0 r2 t0 z) Q := w_un (fun _ _ => rfl) H
theorem u_X13_isForm_4 {x1 : Int32} {x3 : Int32} {x4 : Int32} {x5 : Int32} {r0 : Nat} {r2 : Nat} {t0 : Int32} {z : ow_MS} {Q : (Int32 × ow_MS) → Prop} (H : Tt (fun K k => qm_X13_isForm_4 K (q_X13_isForm K k) x1 x3 x4 x5 r0 r2 t0 z) Q) : Tt (fun K k => q_X13_isForm K k 4 x1 x3 x4 x5 r0 r2 t0 z) Q := w_un (fun _ _ => rfl) H
theorem u_X13_isForm_1 {x1 : Int32} {x3 : Int32} {x4 : Int32} {x5 : Int32} {r0 : Nat} {r2 : Nat} {t0 : Int32} {z : ow_MS} {Q : (Int32 × ow_MS) → Prop} (H : Tt (fun K k => qm_X13_isForm_1 K (q_X13_isForm K k) x1 x3 x4 x5 r0 r2 t0 z) Q) : Tt (fun K k => q_X13_isForm K k 1 x1 x3 x4 x5 r0 r2 t0 z) Q := w_un (fun _ _ => rfl) H
theorem u_X13_isForm_2 {x1 : Int32} {x3 : Int32} {x4 : Int32} {x5 : Int32} {r0 : Nat} {r2 : Nat} {t0 : Int32} {z : ow_MS} {Q : (Int32 × ow_MS) → Prop} (H : Tt (fun K k => qm_X13_isForm_2 K (q_X13_isForm K k) x1 x3 x4 x5 r0 r2 t0 z) Q) : Tt (fun K k => q_X13_isForm K k 2 x1 x3 x4 x5 r0 r2 t0 z) Q := w_un (fun _ _ => rfl) H
theorem e_X13_isForm {r0 : Nat} {x1 : Int32} {r2 : Nat} {x3 : Int32} {z : ow_MS} {Q : (Int32 × ow_MS) → Prop} (H : Tt (fun K k => q_X13_isForm K k 0 x1 x3 0 0 r0 r2 0 z) Q) : Te (fun K => qe_X13_isForm K r0 x1 r2 x3 z) Q := w_te H
theorem u_X13_isForm_0 {x1 : Int32} {x3 : Int32} {x4 : Int32} {x5 : Int32} {r0 : Nat} {r2 : Nat} {t0 : Int32} {z : ow_MS} {Q : (Int32 × ow_MS) → Prop} (H : Tt (fun K k => qm_X13_isForm_0 K (q_X13_isForm K k) x1 x3 x4 x5 r0 r2 t0 z) Q) : Tt (fun K k => q_X13_isForm K k 0 x1 x3 x4 x5 r0 r2 t0 z) Q := w_un (fun _ _ => rfl) H
theorem tp_isForm {r0 r2 i j l0 l2 : Nat} {S : List Nat} {κ : Int} (h0 : (mX.2 r0).2.1 = l0) (h2 : (mX.2 r2).2.1 = l2) (hl0 : l0 ≤ 8040) (hl2 : l2 ≤ 8040) (hi : i + 2 + S.length ≤ l0) (hj : j + 2 + S.length ≤ l2) (hS : frwI z r0 i n S κ) : Te (fun K => qe_X13_isForm K r0 (nI i) r2 (nI j) z) (fun r => r.2 = z ∧ (r.1 = 0 ∨ r.1 = 1)) := by
  let Q : Int32 × ow_MS → Prop := fun r => r.2 = z ∧ (r.1 = 0 ∨ r.1 = 1)
  have c30 : ∀ (x5 : Int32), Tt (fun K t => q_X13_isForm K t 3 (nI i) (nI j) 0 x5 r0 r2 0 z) Q := by
    intro x5
    refine u_X13_isForm_3 ?_; unfold qm_X13_isForm_3
    exact w_ifT rfl (w_okZ (Or.inl rfl) (w_some ⟨rfl, Or.inl rfl⟩))
  have c3 : ∀ (d k : Nat), k + d = S.length → Tt (fun K t => q_X13_isForm K t 3 (nI i) (nI j) 1 (nI k) r0 r2 0 z) Q := by
    intro d
    induction d with
    | zero =>
      intro k hk
      refine u_X13_isForm_3 ?_; unfold qm_X13_isForm_3
      rw [show nI i + 1 = nI (i + 1) from nI_1 _]
      exact w_ifF (by decide) (w_rdI h0 rfl (by omega) hS.2.1 (w_leT (by omega) (by omega) (w_okZ (Or.inr rfl) (w_some ⟨rfl, Or.inr rfl⟩))))
    | succ d ih =>
      intro k hk
      refine u_X13_isForm_3 ?_; unfold qm_X13_isForm_3
      rw [show nI i + 1 = nI (i + 1) from nI_1 _, show nI i + 2 = nI (i + 2) from nI_add i 2, nI_add, show nI j + 2 = nI (j + 2) from nI_add j 2, nI_add]
      refine w_ifF (by decide) (w_rdI h0 rfl (by omega) hS.2.1 (w_leF (by omega) (by omega) (w_rdI h0 rfl (by omega) rfl (w_rdI h2 rfl (by omega) rfl (w_if (fun _ => ?_) (fun _ => ?_))))))
      · refine u_X13_isForm_4 ?_; unfold qm_X13_isForm_4
        rw [nI_1]
        exact ih (k + 1) (by omega)
      · refine u_X13_isForm_4 ?_; unfold qm_X13_isForm_4
        exact c30 _
  have c1 : Tt (fun K t => q_X13_isForm K t 1 (nI i) (nI j) 0 0 r0 r2 0 z) Q := by
    refine u_X13_isForm_1 ?_; unfold qm_X13_isForm_1
    refine u_X13_isForm_2 ?_; unfold qm_X13_isForm_2
    exact c30 _
  refine e_X13_isForm ?_
  refine u_X13_isForm_0 ?_; unfold qm_X13_isForm_0
  rw [show nI i + 1 = nI (i + 1) from nI_1 _, show nI j + 1 = nI (j + 1) from nI_1 _]
  refine w_rdI h0 rfl (by omega) rfl (w_rdI h2 rfl (by omega) rfl (w_if (fun _ => w_rdI h0 rfl (by omega) rfl (w_rdI h2 rfl (by omega) rfl (w_if (fun _ => ?_) (fun _ => c1)))) (fun _ => c1)))
  refine u_X13_isForm_2 ?_; unfold qm_X13_isForm_2
  exact c3 S.length 0 (by omega)
theorem e_X13_equal {x1 : Int32} {x2 : Int32} {z : ow_MS} {Q : (Int32 × ow_MS) → Prop} (H : Tt (fun K _ => qm_X13_equal_0 K x1 x2 z) Q) : Te (fun K => qe_X13_equal K x1 x2 z) Q := w_te0 H
theorem tp_equal {a b : Int32} (hG : ∀ W, X W → XG W) (h : gI X z) : Te (fun K => qe_X13_equal K a b z) (fun r => gI X r.2) := by
  have h1 := gI_1 (c := 0) h
  refine e_X13_equal ?_; unfold qm_X13_equal_0
  refine w_wrF (w_hasB h1.2.2.2.2.2.1 (w_ifT rfl (w_okZ (Or.inl rfl) (w_some h1))) (fun c n l hc hx hh => w_ifF (by decide) (w_hasB h1.2.2.2.2.2.1 (w_ifT rfl (w_okZ (Or.inl rfl) (w_some h1))) (fun c2 n2 l2 hc2 hx2 hh2 => w_ifF (by decide) ?_))))
  subst hx
  subst hx2
  refine w_rdI ml96 rfl (by omega) rfl (w_rdI ml96 rfl (by omega) rfl (w_if (fun _ => w_cs0 (tp_formOf hc hh (gI_tb hG h1)) (fun y1 ⟨⟨S, κ, f1, f2, f3, _⟩, f4⟩ => ?_)) (fun _ => w_okZ (Or.inl rfl) (w_some h1))))
  have g1 := gI_nm f4 h1
  refine w_cs0 (tp_formTo (r := 117) (o := 0) ml117 (by omega) (by omega) (by omega) (by omega) f1 f3) (fun y2 ⟨k1, k2, _⟩ => ?_)
  have g2 : gI X y2 := gI_fr k2 (fun g hg => by rw [hg]; decide) g1
  have hh3 : hBr y2 c2 n2 l2 := hBr_fr (P := fun g => g = 117) k2 (by omega) (by omega) (by omega) (hBr_fr f4 (by unfold nmH; omega) (by unfold nmH; omega) (by unfold nmH; omega) hh2)
  refine w_cs0 (tp_formOf hc2 hh3 (gI_tb hG g2)) (fun y3 ⟨⟨S3, κ3, a1, a2, a3, _⟩, a4⟩ => ?_)
  have g3 := gI_nm a4 g2
  refine w_cs0 (tp_formTo (r := 118) (o := 0) ml118 (by omega) (by omega) (by omega) (by omega) a1 a3) (fun y4 ⟨b1, b2, _⟩ => ?_)
  have g4 : gI X y4 := gI_fr b2 (fun g hg => by rw [hg]; decide) g3
  have k4 : frwI y4 117 0 n S κ := frwI_fr b2 (by omega) (frwI_fr a4 (by unfold nmH; omega) k1)
  refine w_cs1 (tp_isForm (i := 0) (j := 0) ml117 ml118 (by omega) (by omega) (by omega) (by omega) k4) (fun v y5 ⟨e5, e6⟩ => ?_)
  have e5 : y5 = y4 := e5
  subst e5
  exact w_okZ e6 (w_some g4)
end GARF
