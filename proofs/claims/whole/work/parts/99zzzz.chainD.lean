/-! chain has an answer -/
section CHD
variable {X : (Nat → Nat → Int32) → Prop} {z : ow_MS}
theorem e_X13_chain {x1 : Int32} {x2 : Int32} {z : ow_MS} {Q : (Int32 × ow_MS) → Prop} (H : Tt (fun K k => q_X13_chain K k 0 x1 x2 0 0 0 0 0 0 z) Q) : Te (fun K => qe_X13_chain K x1 x2 z) Q := w_te H
theorem u_X13_chain_0 {x1 : Int32} {x2 : Int32} {x3 : Int32} {x4 : Int32} {x5 : Int32} {x6 : Int32} {t0 : Int32} {t1 : Int32} {z : ow_MS} {Q : (Int32 × ow_MS) → Prop} (H : Tt (fun K k => qm_X13_chain_0 K (q_X13_chain K k) x1 x2 x3 x4 x5 x6 t0 t1 z) Q) : Tt (fun K k => q_X13_chain K k 0 x1 x2 x3 x4 x5 x6 t0 t1 z) Q := w_un (fun _ _ => rfl) H
theorem u_X13_chain_1 {x1 : Int32} {x2 : Int32} {x3 : Int32} {x4 : Int32} {x5 : Int32} {x6 : Int32} {t0 : Int32} {t1 : Int32} {z : ow_MS} {Q : (Int32 × ow_MS) → Prop} (H : Tt (fun K k => qm_X13_chain_1 K (q_X13_chain K k) x1 x2 x3 x4 x5 x6 t0 t1 z) Q) : Tt (fun K k => q_X13_chain K k 1 x1 x2 x3 x4 x5 x6 t0 t1 z) Q := w_un (fun _ _ => rfl) H
theorem u_X13_chain_3 {x1 : Int32} {x2 : Int32} {x3 : Int32} {x4 : Int32} {x5 : Int32} {x6 : Int32} {t0 : Int32} {t1 : Int32} {z : ow_MS} {Q : (Int32 × ow_MS) → Prop} (H : Tt (fun K k => qm_X13_chain_3 K (q_X13_chain K k) x1 x2 x3 x4 x5 x6 t0 t1 z) Q) : Tt (fun K k => q_X13_chain K k 3 x1 x2 x3 x4 x5 x6 t0 t1 z) Q := w_un (fun _ _ => rfl) H
theorem u_X13_chain_4 {x1 : Int32} {x2 : Int32} {x3 : Int32} {x4 : Int32} {x5 : Int32} {x6 : Int32} {t0 : Int32} {t1 : Int32} {z : ow_MS} {Q : (Int32 × ow_MS) → Prop} (H : Tt (fun K k => qm_X13_chain_4 K (q_X13_chain K k) x1 x2 x3 x4 x5 x6 t0 t1 z) Q) : Tt (fun K k => q_X13_chain K k 4 x1 x2 x3 x4 x5 x6 t0 t1 z) Q := w_un (fun _ _ => rfl) H
theorem u_X13_chain_2 {x1 : Int32} {x2 : Int32} {x3 : Int32} {x4 : Int32} {x5 : Int32} {x6 : Int32} {t0 : Int32} {t1 : Int32} {z : ow_MS} {Q : (Int32 × ow_MS) → Prop} (H : Tt (fun K k => qm_X13_chain_2 K (q_X13_chain K k) x1 x2 x3 x4 x5 x6 t0 t1 z) Q) : Tt (fun K k => q_X13_chain K k 2 x1 x2 x3 x4 x5 x6 t0 t1 z) Q := w_un (fun _ _ => rfl) H
theorem tp_chain {d p0 : Int32} (h : gI X z) : Te (fun K => qe_X13_chain K d p0 z) (fun r => gI X r.2) := by
  have h1 := gI_1 (c := 0) h
  refine e_X13_chain ?_
  refine u_X13_chain_0 ?_; unfold qm_X13_chain_0
  refine w_wrF (w_has h1.2.1 (w_ifT rfl (w_fail h1)) (fun e A sg he hx hv hne => w_ifF (by decide) (w_cs1 tp_isPrime (fun a9 y9 ⟨e9, k9⟩ => ?_))))
  subst hx
  have e9 : y9 = usF z 1 0 := e9
  have k9 : a9 = 0 ∨ ∃ p, p0 = nI p ∧ prT p ∧ p ≤ 997 := k9
  subst e9
  refine w_if (fun _ => w_fail h1) (fun h9 => ?_)
  obtain ⟨p, rfl, hp, hp9⟩ := k9.resolve_left h9
  refine w_cs0 (to_open pn1 he hv) (fun z2 ⟨o2, f2⟩ => ?_)
  have g2 : gI X z2 := gI_net pn1 f2 (fun g hg => by omega) h1
  have hl := o2.len
  have hC := o2.2.2.2
  have hd := wkF_ok o2.wk
  obtain ⟨c, hok, hc⟩ := o2.2.2.1
  have hV := okF_len hok
  refine w_cs0 (tn_split pn1 (by omega) (by omega) hd o2.1) (fun z3 ⟨f3, P, p1, p2, p3, p4⟩ => ?_)
  have o3 : oNet z3 1000 A sg := oNet_fr f3 (fun g hg => by unfold frP at hg; omega) o2
  have g3 : gI X z3 := gI_net pn1 f3 (fun g hg => by unfold frP at hg; omega) g2
  refine w_rdF o3.1.V (w_nzI (by decide) ?_)
  rw [hV, half_V (by omega)]
  refine w_rdF p1 ?_
  rw [nI_add]
  refine w_le (b := 9) (by omega) (by omega) (fun hcP => ?_) (fun _ => w_fail g3)
  have hP1 : 1 ≤ P := by
    have hA0 : 0 < A.length := by
      cases A with
      | nil => exact absurd rfl hne
      | cons a A => exact Nat.succ_pos _
    rcases p3.1 0 hA0 with h8 | ⟨q, hq, -⟩
    · exact absurd h8 (p4 0 hA0)
    · omega
  have hK : chOK A sg c P := ch_ok hok hC p3 p4 (by omega) hP1 hcP
  refine w_cs1 (tp_writhe2 pn1 o3) (fun a4 y4 e4 => ?_)
  cases e4
  have hw := wrN_le (A := A) (sg := sg) A.flatten.length
  have hov := ovs_le hok
  generalize wrN A sg A.flatten.length = w at hw
  -- how many crossings have the sign -
  obtain ⟨mi, hmi, emi⟩ : ∃ mi, mi ≤ c ∧ (nI c - iI w) / 2 = nI mi := by
    refine ⟨((c : Int) - w).toNat / 2, by omega, ?_⟩
    rw [show nI c - iI w = nI ((c : Int) - w).toNat from by rw [nI_iI, iI_sub]; exact iI_nI (by omega)]
    exact pk_div (d := 2) (by omega) (by omega) (by omega)
  rw [emi]
  refine w_nzI (by decide) (w_wrF ?_)
  have o5 : oNet (usF z3 88 (nI mi)) 1000 A sg := oNet_fr (fr_F (P := fun g => g = 88) rfl) (fun g hg => by omega) o3
  refine w_cs0 (tp_makeStates pn1 o5 hK) (fun z6 ⟨I6, f6⟩ => ?_)
  have h88 : z6.1 88 = nI mi := by rw [(f6 88 (by unfold stH; omega)).1]; exact po_usF_at
  refine w_cs0 (tp_placeAll hK I6 h88 hmi) (fun z7 ⟨I7, f7⟩ => ?_)
  have o7 : oNet z7 1000 A sg := oNet_fr f7 (fun g hg => by unfold plH at hg; omega) (oNet_fr f6 (fun g hg => by unfold stH at hg; omega) o5)
  have hf7 : fr (fun g => g = 47 ∨ 81 ≤ g ∧ g ≤ 93) z3 z7 := fr_tr (fr_F (by omega)) (fr_tr (fr_mono (fun g hg => by unfold stH at hg; omega) f6) (fr_mono (fun g hg => by unfold plH at hg; omega) f7))
  have g7 : gI X z7 := gI_fr hf7 (fun g hg => by unfold per; omega) g3
  have hC7 : rkC z7 1000 A sg c mi := ⟨o7, stI_fr f7 (by unfold plH; omega) (by unfold plH; omega) (by unfold plH; omega) I6, I7, by rw [(f7 88 (by unfold plH; omega)).1]; exact h88⟩
  let F : Nat → Prop := fun g => g = 86 ∨ g = 87 ∨ 89 ≤ g ∧ g ≤ 93
  have cF : ∀ {y : ow_MS}, fr F z7 y → rkC y 1000 A sg c mi := fun hf => rkC_fr pn1 hf (fun g hg => hg) hC7
  have gF : ∀ {y : ow_MS}, fr F z7 y → gI X y := fun hf => gI_fr hf (fun g hg => by have hg : g = 86 ∨ g = 87 ∨ 89 ≤ g ∧ g ≤ 93 := hg; unfold per; omega) g7
  have hc8 : c ≤ 8 := hK.2.1
  have c1 : ∀ (d q : Nat) (x4 : Int32) (y : ow_MS), q + d = 80 → fr F z7 y → Tt (fun K i => q_X13_chain K i 1 (nI e) (nI p) (nI c) x4 (nI q) 0 0 0 y) (fun r => gI X r.2) := by
    intro d
    induction d with
    | zero =>
      intro q x4 y hq hf
      refine u_X13_chain_1 ?_; unfold qm_X13_chain_1
      exact w_leT (a := 80) (by omega) (by omega) (w_some (gF hf))
    | succ d ih =>
      intro q x4 y hq hf
      have c3 : ∀ (d2 r : Nat) (x4 : Int32) (y : ow_MS), r + d2 = c + 1 → fr F z7 y → Tt (fun K i => q_X13_chain K i 3 (nI e) (nI p) (nI c) x4 (nI q) (nI r) 0 0 y) (fun r => gI X r.2) := by
        intro d2
        induction d2 with
        | zero =>
          intro r x4 y hr hf
          refine u_X13_chain_3 ?_; unfold qm_X13_chain_3
          rw [show nI q + 1 = nI (q + 1) from nI_1 _]
          exact w_ltT (by omega) (by omega) (ih (q + 1) x4 y (by omega) hf)
        | succ d2 ih3 =>
          intro r x4 y hr hf
          have e1 : (80 : Int32) * nI r + nI q = nI (80 * r + q) := by rw [show (80 : Int32) * nI r = nI (80 * r) from pk_mul 80 r, nI_add]
          have c4 : ∀ (t0 t1 : Int32), Tt (fun K i => q_X13_chain K i 4 (nI e) (nI p) (nI c) x4 (nI q) (nI r) t0 t1 y) (fun r => gI X r.2) := by
            intro t0 t1
            refine u_X13_chain_4 ?_; unfold qm_X13_chain_4
            rw [e1, show nI r + 1 = nI (r + 1) from nI_1 _]
            exact w_wrI ml87 rfl (by omega) (ih3 (r + 1) _ _ (by omega) (fr_I2 hf (Or.inr (Or.inl rfl))))
          refine u_X13_chain_3 ?_; unfold qm_X13_chain_3
          rw [e1]
          refine w_ltF (by omega) (by omega) (w_rdI ml85 rfl (by omega) rfl (w_rdI ml86 rfl (by omega) rfl (w_eqN (b := 0) (by omega) (by omega) (fun _ => c4 _ _) (fun hr0 => ?_))))
          exact w_rdI (i := 80 * (r - 1) + q) ml86 (by rw [show nI r - 1 = nI (r - 1) from pk_sub (b := 1) (by omega), show (80 : Int32) * nI (r - 1) = nI (80 * (r - 1)) from pk_mul 80 _, nI_add]) (by omega) rfl (c4 _ _)
      have c2 : ∀ (d2 r : Nat) (y : ow_MS), r + d2 = c → fr F z7 y → Tt (fun K i => q_X13_chain K i 2 (nI e) (nI p) (nI c) x4 (nI q) (nI r) 0 0 y) (fun r => gI X r.2) := by
        intro d2
        induction d2 with
        | zero =>
          intro r y hr hf
          refine u_X13_chain_2 ?_; unfold qm_X13_chain_2
          exact w_leT (by omega) (by omega) (c3 (c + 1) 0 x4 y (by omega) hf)
        | succ d2 ih2 =>
          intro r y hr hf
          refine u_X13_chain_2 ?_; unfold qm_X13_chain_2
          refine w_leF (by omega) (by omega) (w_cs1 (tp_rankOf pn1 hK (cF hf) hmi (by omega) (by omega) hp hp9) (fun a8 y8 f8 => ?_))
          have f8 : fr rdH y y8 := f8
          rw [show (80 : Int32) * nI r = nI (80 * r) from pk_mul 80 r, nI_add, show nI r + 1 = nI (r + 1) from nI_1 _]
          exact w_wrI ml86 rfl (by omega) (ih2 (r + 1) _ (by omega) (fr_I2 (fr_tr hf (fr_mono (fun g hg => by unfold rdH at hg; exact Or.inr (Or.inr hg)) f8)) (Or.inl rfl)))
      refine u_X13_chain_1 ?_; unfold qm_X13_chain_1
      exact w_leF (a := 80) (by omega) (by omega) (c2 c 0 y (by omega) hf)
  exact c1 80 0 0 z7 (by omega) fr_rf
end CHD
