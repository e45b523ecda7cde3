/-! both sides: moved, summand (given that the lists are related) -/
/-- the rows of a list of diagrams: rows h, order h', their number at n -/
def rlR (h h' n : Nat) (z : ow_MS) (Ms : List (rn_L × (Nat → Bool))) : Prop := z.1 n = nI Ms.length ∧ ∀ (k : Nat) A sg, Ms[k]? = some (A, sg) → ∃ j, j < Ms.length ∧ z.2.1 h' k = nI j ∧ A ≠ [] ∧ vRow z h (32 * j) A sg
def rlC (g p : Nat) (y : ow_MS) (Ms : List (rn_L × (Nat → Bool))) : Prop := ∃ Cs os, tbO y g p Cs os ∧ os.length = Ms.length ∧ ∀ (k : Nat) A sg, Ms[k]? = some (A, sg) → atC Cs os k = clC sg A
def okM (Ms : List (rn_L × (Nat → Bool))) : Prop := ∀ (k : Nat) A sg, Ms[k]? = some (A, sg) → A ≠ [] ∧ plnA A sg ∧ ∃ c, okL A c
section XMV
variable {X : (Nat → Nat → Int32) → Prop} {z : ow_MS} {St : plT}
theorem xr_keepRow {h o la d : Nat} {A : rn_L} {sg : Nat → Bool} (hI : gI X z) (hR : relR z St) (hlf : lstF St d) (hh : h ≠ 12) (hla : (mX.2 h).2.1 = la) (ha : la < 2 ^ 30) (ho : o + 32 ≤ la) (hM : vRow z h o A sg) (hne : A ≠ []) : Te (fun K => qe_X13_keepRow K h (nI o) z) (fun r => gI X r.2 ∧ r.1 = nI d ∧ fr (fun g => g = 12) z r.2 ∧ relR r.2 (upP St d (some (A, sg)))) := by
  let Q : Int32 × ow_MS → Prop := fun r => gI X r.2 ∧ r.1 = nI d ∧ fr (fun g => g = 12) z r.2 ∧ relR r.2 (upP St d (some (A, sg)))
  obtain ⟨r, hr, h1, h2⟩ := xr_free (z := z) hR
  have hd := hlf.1
  have e : r.1 = nI d := by
    rcases h2 with ⟨-, h3⟩ | ⟨d', h3, h4⟩
    · exact absurd hlf.2.1 (h3 d hd)
    · rw [h3, lst_uni2 h4 hlf]
  obtain ⟨hv, h5⟩ := hM
  have hl := hv.1
  have key : ∀ (j k : Nat) (z1 : ow_MS), k + j = (tk sg A).length + 1 → fr (fun g => g = 12) z z1 → (∀ i, i < k → z1.2.1 12 (32 * d + i) = z.2.1 h (o + i)) → (∀ i, i < 32 * d ∨ 32 * d + 32 ≤ i → z1.2.1 12 i = z.2.1 12 i) → Tt (fun K i => q_X13_keepRow K i 1 (nI o) (nI d) (nI k) h z1) Q := by
    intro j
    induction j with
    | zero =>
      intro k z1 hk hf hc hi
      have e0 : z1.2.1 h o = nI (tk sg A).length := by rw [(hf h hh).2.1]; exact hv.2.2.1
      have hrow : vRow z1 12 (32 * d) A sg := ⟨⟨hl, hv.2.1, ?_, fun i t hi9 => ?_⟩, h5⟩
      · refine u_X13_keepRow_1 ?_; unfold qm_X13_keepRow_1
        exact w_rdI hla rfl (by omega) e0 (w_ltT (by omega) (by omega) (w_some ⟨gI_rows hf (fun g hg => Or.inl hg) (gRows_put ⟨A, sg, hrow⟩ hi hI.2.1) hI, rfl, hf, relR_put hR hd hne hrow hi⟩))
      · have := hc 0 (by omega)
        rw [Nat.add_zero, Nat.add_zero] at this
        rw [this]
        exact hv.2.2.1
      · have := (List.getElem?_eq_some_iff.mp hi9).1
        rw [hc (i + 1) (by omega)]
        exact hv.2.2.2 i t hi9
    | succ j ih =>
      intro k z1 hk hf hc hi
      have e0 : z1.2.1 h o = nI (tk sg A).length := by rw [(hf h hh).2.1]; exact hv.2.2.1
      refine u_X13_keepRow_1 ?_; unfold qm_X13_keepRow_1
      rw [nI_add, show (32 : Int32) * nI d = nI (32 * d) from pk_mul 32 d, nI_add, nI_1]
      refine w_rdI hla rfl (by omega) e0 (w_ltF (by omega) (by omega) (w_rdI hla rfl (by omega) (by rw [(hf h hh).2.1]) (w_wrI ml12 rfl (by omega) ?_)))
      refine ih (k + 1) _ (by omega) (fr_I2 hf rfl) (fun i hi9 => ?_) (fun i hi9 => rd_ne (by omega) (hi i hi9))
      by_cases hik : i = k
      · rw [hik, po_usI_at]
      · exact rd_ne (by omega) (hc i (by omega))
  refine e_X13_keepRow ?_
  refine u_X13_keepRow_0 ?_; unfold qm_X13_keepRow_0
  refine w_cs1 (R := fun r => r = (nI d, z)) ⟨r, hr, Prod.ext e h1⟩ (fun a z1 e9 => ?_)
  cases e9
  exact key ((tk sg A).length + 1) 0 z (by omega) fr_rf (fun i hi => by omega) (fun i _ => rfl)
end XMV
