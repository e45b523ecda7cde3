/-! exact: what a kind of moves offers, of the reference -/
def OM (A : rn_L) (sg : Nat → Bool) (c kd : Nat) (A' : rn_L) (sg' : Nat → Bool) : Prop := match kd with
  | 0 => O0 A sg A.flatten.length A' sg'
  | 1 => c + 1 ≤ 12 ∧ O1 A sg c A' sg'
  | 2 => O2 A sg A.flatten.length A' sg'
  | 3 => c + 2 ≤ 12 ∧ O3 A sg c A' sg'
  | _ => O4 A sg A' sg'
section XTRY
variable {Φ : ow_MS → (List Nat → Prop) → Nat → Prop} {n c kd : Nat} {z : ow_MS} {A : rn_L} {sg : Nat → Bool} {S : List Nat → Prop}
theorem xr_try (hΦ : snkF Φ) (hn : mw_net n) (hn3 : n ≠ 3000) (hok : okF A.flatten c) (hk : kd < 5) (hO : oNet z n A sg) (h : Φ z S 0) : Te (fun K => qe_X13_tryMoves K n (nI kd) z) (fun z1 => (∃ S', adS S S' (OM A sg c kd) ∧ Φ z1 S' 2700) ∧ fr (frT n) z z1) := by
  have hl := hO.len
  have hC := hO.2.2.2
  have hVc := okF_len hok
  have frc : ∀ {y : ow_MS}, fr frC z y → fr (frT n) z y := fun hf => fr_mono (fun g hg => by unfold frC at hg; unfold frT; omega) hf
  have dv : nI A.flatten.length / 2 = nI c := by
    rw [show nI A.flatten.length / 2 = nI (A.flatten.length / 2) from pk_div (d := 2) (by omega) (by omega) (by omega)]
    congr 1
    omega
  have none : ∀ {P : Prop} {O : rn_L → (Nat → Bool) → Prop}, ¬ P → adS S S (fun A' sg' => P ∧ O A' sg') := fun hP => adS_eq adS_rf (fun A' sg' => ⟨fun h9 => h9.elim, fun h9 => absurd h9.1 hP⟩)
  have some9 : ∀ {P : Prop} {S' : List Nat → Prop} {O : rn_L → (Nat → Bool) → Prop}, P → adS S S' O → adS S S' (fun A' sg' => P ∧ O A' sg') := fun hP h8 => adS_eq h8 (fun A' sg' => ⟨fun h9 => ⟨hP, h9⟩, fun h9 => h9.2⟩)
  match kd, hk with
  | 0, _ => exact w_monoE (xr_k0 hΦ hn hn3 (by omega) hO h) (fun z1 ⟨⟨S', h1, h2⟩, h3⟩ => ⟨⟨S', h1, hΦ.2.2 _ _ _ _ (by omega) h2⟩, frc h3⟩)
  | 1, _ =>
    refine e_X13_tryMoves ?_
    refine u_X13_tryMoves_0 ?_; unfold qm_X13_tryMoves_0
    refine w_ifF (by decide) (w_ifF (by decide) (w_ifT rfl (w_rdF hO.1.V (w_nzI (by decide) ?_))))
    rw [dv, nI_1]
    exact w_lt (a := 12) (by omega) (by omega) (fun h9 => w_some ⟨⟨S, none (by omega), hΦ.2.2 _ _ _ _ (by omega) h⟩, fr_rf⟩) (fun h9 => w_cs0 (xr_oneComes (L := 0) hΦ hn hn3 hok (by omega) (by omega) hO h) (fun y ⟨⟨S', q0, q1⟩, q2⟩ => w_some ⟨⟨S', some9 (by omega) q0, hΦ.2.2 _ _ _ _ (by omega) q1⟩, fr_mono (fun g hg => by unfold frB at hg; unfold frT; omega) q2⟩))
  | 2, _ =>
    refine e_X13_tryMoves ?_
    refine u_X13_tryMoves_0 ?_; unfold qm_X13_tryMoves_0
    exact w_ifF (by decide) (w_ifF (by decide) (w_ifF (by decide) (w_ifT rfl (w_cs0 (xr_twoGo (L := 0) hΦ hn hn3 (by omega) hO h) (fun y ⟨⟨S', q0, q1⟩, q2⟩ => w_some ⟨⟨S', q0, hΦ.2.2 _ _ _ _ (by omega) q1⟩, frc q2⟩)))))
  | 3, _ =>
    refine e_X13_tryMoves ?_
    refine u_X13_tryMoves_0 ?_; unfold qm_X13_tryMoves_0
    refine w_ifF (by decide) (w_ifF (by decide) (w_ifF (by decide) (w_ifF (by decide) (w_ifT rfl (w_rdF hO.1.V (w_nzI (by decide) ?_))))))
    rw [dv, show nI c + 2 = nI (c + 2) from nI_add c 2]
    exact w_lt (a := 12) (by omega) (by omega) (fun h9 => w_some ⟨⟨S, none (by omega), hΦ.2.2 _ _ _ _ (by omega) h⟩, fr_rf⟩) (fun h9 => w_cs0 (xr_twoCome hΦ hn hn3 hok (by omega) hO h) (fun y ⟨⟨S', q0, q1⟩, q2⟩ => w_some ⟨⟨S', some9 (by omega) q0, q1⟩, frc q2⟩))
  | 4, _ =>
    refine e_X13_tryMoves ?_
    refine u_X13_tryMoves_0 ?_; unfold qm_X13_tryMoves_0
    exact w_ifT (by decide) (w_cs0 (xr_three hΦ hn hn3 hO h) (fun y ⟨⟨S', q0, q1⟩, q2⟩ => w_some ⟨⟨S', q0, q1⟩, q2⟩))
end XTRY
