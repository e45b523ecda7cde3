section
/-! 99zzzzzzzzzzl.xcl3 -/
/-! the reference's closed braid, exactly -/
def rgS (w : Nat → Nat) (lp : Nat → Bool) (l : Nat) (Rs : List (List Nat)) : rn_L := Rs.map (fun R => R.flatMap (fun s => rnL w lp s l))
def clQ (w : Nat → Nat) (n l : Nat) (Rs : List (List Nat)) : Prop := Rs.flatten.Nodup ∧ (∀ s, s ∈ Rs.flatten → s < n) ∧ ∀ R, R ∈ Rs → R ≠ [] ∧ ∃ j, opR (fun s => psn w s l) j R j
section RGS
variable {w : Nat → Nat} {lp : Nat → Bool} {n l : Nat}
theorem fmR_nd : ∀ {L : List Nat}, L.Nodup → (L.flatMap (fun s => rnL w lp s l)).Nodup
  | [], _ => List.nodup_nil
  | a :: L, h => by
    rw [List.flatMap_cons]
    obtain ⟨h1, h2⟩ := List.nodup_cons.mp h
    refine List.nodup_append.mpr ⟨rnL_nd l, fmR_nd h2, fun p hp q hq e => ?_⟩
    obtain ⟨t, ht, hq2⟩ := List.mem_flatMap.mp hq
    rw [e] at hp
    have e2 := rnL_uni hp hq2
    rw [← e2] at ht
    exact h1 ht
theorem fmR_in {L : List Nat} {p : vT} (hp : p ∈ L.flatMap (fun s => rnL w lp s l)) : p.1 < l ∧ p.2 < 2 := by
  obtain ⟨t, ht, h2⟩ := List.mem_flatMap.mp hp
  obtain ⟨a1, a2, a3⟩ := rnL_mem.mp h2
  exact ⟨a1, by rw [a3]; exact ubn_lt⟩
theorem fmR_len {L : List Nat} (h : L.Nodup) : (L.flatMap (fun s => rnL w lp s l)).length ≤ 2 * l := by
  have h1 := nodup_le _ (aL l).flatten (fmR_nd (w := w) (lp := lp) (l := l) h) (fun p hp => ((aL_ok l).2 p).mpr (fmR_in hp))
  rw [aL_len] at h1
  exact h1
theorem rgS_fl : ∀ Rs : List (List Nat), (rgS w lp l Rs).flatten = Rs.flatten.flatMap (fun s => rnL w lp s l)
  | [] => rfl
  | R :: Rs => by
    have h1 := rgS_fl Rs
    show (R.flatMap (fun s => rnL w lp s l) :: rgS w lp l Rs).flatten = _
    rw [List.flatten_cons, List.flatten_cons, List.flatMap_append, h1]
theorem cyc_pre {π : Nat → Nat} {j x : Nat} {R : List Nat} (hne : R ≠ []) (h : opR π j R j) (hx : x ∈ R) : ∃ c, c ∈ R ∧ π c = x := by
  by_cases e : x = j
  · rcases List.eq_nil_or_concat R with q | ⟨X, c, q⟩
    · exact absurd q hne
    · rw [List.concat_eq_append] at q
      exact ⟨c, by rw [q]; simp, (h.2.1 X c q).trans e.symm⟩
  · exact opR_pre h hx e
theorem clQ_pre {Rs : List (List Nat)} (h : clQ w n l Rs) {a : Nat} (ha : psn w a l ∈ Rs.flatten) : a ∈ Rs.flatten := by
  obtain ⟨R, hR, hx⟩ := List.mem_flatten.mp ha
  obtain ⟨h1, j, h2⟩ := h.2.2 R hR
  obtain ⟨c, c1, c2⟩ := cyc_pre h1 h2 hx
  have e : c = a := psn_inj l c2
  rw [← e]
  exact List.mem_flatten.mpr ⟨R, hR, c1⟩
end RGS
section XRC
variable {X : (Nat → Nat → Int32) → Prop} {z : ow_MS}
theorem xr_run {b n l s : Nat} {w : Nat → Nat} {lp : Nat → Bool} {A : rn_L} {B : List vT} (hb : b < 20) (hB : hBr z b n l) (hw : ltX 94 z b n l w lp) (hs : s < n) (hA : rn_At z 3000 A B) (hG : rn_sg z 3000 (A.flatten ++ B) (fun i => !lp i)) (hlen : (A.flatten ++ B).length + (rnL w lp s l).length ≤ 39) : Te (fun K => qe_X13_run K (nI b) (nI s) z) (fun r => r.1 = nI (psn w s l) ∧ fr (fun g => 3001 ≤ g ∧ g ≤ 3006) z r.2 ∧ rn_At r.2 3000 A (B ++ rnL w lp s l) ∧ rn_sg r.2 3000 (A.flatten ++ (B ++ rnL w lp s l)) (fun i => !lp i)) := by
  obtain ⟨p1, p2, p3, p4, p5, p6⟩ := hB
  let Q : Int32 × ow_MS → Prop := fun r => r.1 = nI (psn w s l) ∧ fr (fun g => 3001 ≤ g ∧ g ≤ 3006) z r.2 ∧ rn_At r.2 3000 A (B ++ rnL w lp s l) ∧ rn_sg r.2 3000 (A.flatten ++ (B ++ rnL w lp s l)) (fun i => !lp i)
  have key : ∀ (d k : Nat) (y : ow_MS), k + d = l → fr (fun g => 3001 ≤ g ∧ g ≤ 3006) z y → rn_At y 3000 A (B ++ rnL w lp s k) → rn_sg y 3000 (A.flatten ++ (B ++ rnL w lp s k)) (fun i => !lp i) → Tt (fun K i9 => q_X13_run K i9 1 (nI b) (nI s) (nI (psn w s k)) (nI k) 0 0 0 0 0 y) Q := by
    intro d
    induction d with
    | zero =>
      intro k y hk hf ha hg
      have hkl : k = l := by omega
      rw [hkl] at ha hg ⊢
      refine u_X13_run_1 ?_; unfold qm_X13_run_1
      exact w_rdI ml95 rfl (by omega) (x := nI l) (by rw [(hf 95 (by omega)).2.1]; exact p5) (w_leT (by omega) (Nat.le_refl _) (w_some ⟨rfl, hf, ha, hg⟩))
    | succ d ih =>
      intro k y hk hf ha hg
      have hkl : k < l := by omega
      obtain ⟨w1, w2⟩ := hw k hkl
      have hps := psn_lt (w := w) hs k (fun j hj => (hw j (by omega)).1)
      obtain ⟨x, hx⟩ : ∃ x, x = z.2.1 94 (16 * b + k) := ⟨_, rfl⟩
      have ex : y.2.1 94 (16 * b + k) = x := by rw [(hf 94 (by omega)).2.1, hx]
      rw [← hx] at w2
      have eab : (if 0 ≤ x then x else 0 - x) - 1 = nI (w k) := by
        cases hl : lp k with
        | true =>
          rw [hl] at w2
          have w2 : x = nI (w k + 1) := w2
          rw [w2, if_pos (nI_pos' (by omega))]
          exact nI_pred _
        | false =>
          rw [hl] at w2
          have w2 : x = -1 - nI (w k) := w2
          rw [w2, if_neg (Int32.not_le.mpr (neg_lt (by omega))), i32_b]
          have := nI_pred (w k)
          rw [nI_succ] at this
          exact this
      have xpos : x ≤ 0 ↔ lp k = false := by
        cases hl : lp k with
        | true =>
          rw [hl] at w2
          have w2 : x = nI (w k + 1) := w2
          rw [w2]
          exact ⟨fun h9 => absurd h9 (nI_nle (by omega) (by omega)), fun h9 => by cases h9⟩
        | false =>
          rw [hl] at w2
          have w2 : x = -1 - nI (w k) := w2
          rw [w2]
          exact ⟨fun _ => rfl, fun _ => Int32.le_of_lt (neg_lt (by omega))⟩
      have c7 : ∀ (x5 x6 : Int32) (y2 : ow_MS), fr (fun g => 3001 ≤ g ∧ g ≤ 3006) z y2 → rn_At y2 3000 A (B ++ rnL w lp s (k + 1)) → rn_sg y2 3000 (A.flatten ++ (B ++ rnL w lp s (k + 1))) (fun i => !lp i) → Tt (fun K i9 => q_X13_run K i9 7 (nI b) (nI s) (nI (psn w s (k + 1))) (nI k) x5 x6 0 0 0 y2) Q := by
        intro x5 x6 y2 hf2 hb2 hs2
        refine u_X13_run_7 ?_; unfold qm_X13_run_7
        rw [nI_1]
        exact ih (k + 1) y2 (by omega) hf2 hb2 hs2
      have c2 : onL w s k → Tt (fun K i9 => q_X13_run K i9 2 (nI b) (nI s) (nI (psn w s k)) (nI k) x (nI (w k)) 0 0 0 y) Q := by
        intro hon
        have c6 : ∀ (t0 : Int32) (y2 : ow_MS), t0 = (if (!lp k) = true then -1 else 1) → fr (fun g => 3001 ≤ g ∧ g ≤ 3006) z y2 → y2.2.1 3006 = y.2.1 3006 → rn_At y2 3000 A (B ++ rnL w lp s (k + 1)) → Tt (fun K i9 => q_X13_run K i9 6 (nI b) (nI s) (nI (psn w s k)) (nI k) x (nI (w k)) t0 (nI k) 0 y2) Q := by
          intro t0 y2 ht0 hf2 e6 hb2
          refine u_X13_run_6 ?_; unfold qm_X13_run_6
          refine w_wrI (pl6 pn3) rfl (by omega) ?_
          have ep : 2 * nI (w k) + 1 - nI (psn w s k) = nI (psn w s (k + 1)) := by
            rw [rn_mul2, nI_1, pk_sub (by rcases hon with h9 | h9 <;> omega)]
            congr 1
            show _ = sw2 (w k) (w k + 1) (psn w s k)
            unfold sw2
            rcases hon with h9 | h9
            · rw [if_pos h9]; omega
            · rw [if_neg (by omega), if_pos h9]; omega
          rw [ep]
          refine c7 _ _ _ (fr_I2 hf2 (by omega)) (fr_At (P := fun g => g = 3006) (fr_I rfl) (fun g hg => by omega) hb2) (fun p hp => ?_)
          show (usI y2 3006 k t0).2.1 3006 p.1 = if (!lp p.1) = true then -1 else 1
          by_cases hpk : p.1 = k
          · rw [hpk, po_usI_at]
            exact ht0
          · rw [po_usI_ne hpk, e6]
            refine hg p ?_
            rw [rnL_on hon, ← List.append_assoc, ← List.append_assoc] at hp
            rcases List.mem_append.mp hp with h9 | h9
            · rw [List.append_assoc] at h9
              exact h9
            · rw [List.mem_singleton.mp h9] at hpk
              exact absurd rfl hpk
        have c5 : ∀ (t0 : Int32), t0 = nI (ubn w lp s k) → Tt (fun K i9 => q_X13_run K i9 5 (nI b) (nI s) (nI (psn w s k)) (nI k) x (nI (w k)) t0 (nI k) 0 y) Q := by
          intro t0 ht0
          rw [ht0]
          have hle := rnL_le (w := w) (lp := lp) (s := s) (l - k) k
          rw [show k + (l - k) = l by omega] at hle
          refine u_X13_run_5 ?_; unfold qm_X13_run_5
          refine w_cs0 (tn_add (x := k) (u := ubn w lp s k) pn3 ha (by rw [← List.append_assoc, List.length_append]; omega)) (fun y2 ⟨g1, g2⟩ => ?_)
          have hf2 : fr (fun g => 3001 ≤ g ∧ g ≤ 3006) z y2 := fr_tr hf (fr_mono (fun g hg => by omega) g2)
          have e6 : y2.2.1 3006 = y.2.1 3006 := (g2 3006 (by omega)).2.1
          rw [List.append_assoc, ← rnL_on hon] at g1
          refine w_if (fun h9 => c6 _ y2 ?_ hf2 e6 g1) (fun h9 => c6 _ y2 ?_ hf2 e6 g1)
          · rw [xpos.mp h9]
            rfl
          · cases hl : lp k with
            | true => rfl
            | false => exact absurd (xpos.mpr hl) h9
        have c3 : ∀ (eqb : Bool), decide (psn w s k = w k) = eqb → Tt (fun K i9 => q_X13_run K i9 3 (nI b) (nI s) (nI (psn w s k)) (nI k) x (nI (w k)) (bZ eqb) (nI k) 0 y) Q := by
          intro eqb heq
          have eu : ubn w lp s k = if eqb = lp k then 0 else 1 := by
            unfold ubn
            rw [heq]
          have c4 : ∀ (pb : Bool), lp k = pb → Tt (fun K i9 => q_X13_run K i9 4 (nI b) (nI s) (nI (psn w s k)) (nI k) x (nI (w k)) (bZ pb) (bZ eqb) (nI k) y) Q := by
            intro pb hpb
            rw [hpb] at eu
            refine u_X13_run_4 ?_; unfold qm_X13_run_4
            refine w_if (fun h9 => c5 0 ?_) (fun h9 => c5 1 ?_)
            · have : eqb = pb := by
                cases eqb <;> cases pb <;> first | rfl | exact absurd h9 (by decide)
              rw [eu, if_pos this]
              rfl
            · have : eqb ≠ pb := fun e => h9 (by rw [e])
              rw [eu, if_neg this]
              rfl
          refine u_X13_run_3 ?_; unfold qm_X13_run_3
          refine w_if (fun h9 => c4 false (xpos.mp h9)) (fun h9 => c4 true ?_)
          cases hl : lp k with
          | true => rfl
          | false => exact absurd (xpos.mpr hl) h9
        refine u_X13_run_2 ?_; unfold qm_X13_run_2
        exact w_eqN (by omega) (by omega) (fun h9 => c3 true (decide_eq_true h9)) (fun h9 => c3 false (decide_eq_false h9))
      refine u_X13_run_1 ?_; unfold qm_X13_run_1
      rw [show (16 : Int32) * nI b = nI (16 * b) from pk_mul 16 b, nI_add]
      refine w_rdI ml95 rfl (by omega) (x := nI l) (by rw [(hf 95 (by omega)).2.1]; exact p5) (w_leF (by omega) (by omega) (w_rdI ml94 rfl (by omega) ex ?_))
      rw [eab, nI_1]
      refine w_eqN (by omega) (by omega) (fun h9 => c2 (Or.inl h9)) (fun h9 => w_eqN (by omega) (by omega) (fun h8 => c2 (Or.inr h8)) (fun h8 => ?_))
      have hnon : ¬ onL w s k := fun h7 => h7.elim h9 h8
      obtain ⟨er, ep⟩ := rnL_off (lp := lp) hnon
      rw [← ep]
      exact c7 _ _ y hf (by rw [er]; exact ha) (by rw [er]; exact hg)
  refine e_X13_run ?_
  refine u_X13_run_0 ?_; unfold qm_X13_run_0
  refine key l 0 z (by omega) fr_rf ?_ ?_
  · show rn_At z 3000 A (B ++ [])
    rw [List.append_nil]
    exact hA
  · show rn_sg z 3000 (A.flatten ++ (B ++ [])) _
    rw [List.append_nil]
    exact hG
theorem xr_close {b n l : Nat} {w : Nat → Nat} {lp : Nat → Bool} (hb : b < 20) (hB : hBr z b n l) (hw : ltX 94 z b n l w lp) : Te (fun K => qe_X13_close K (nI b) z) (fun z1 => fr frK z z1 ∧ ∃ Rs, clQ w n l Rs ∧ Rs.length ≤ n ∧ (∀ s, s < n → s ∈ Rs.flatten) ∧ rn_At z1 3000 (rgS w lp l Rs) [] ∧ rn_sg z1 3000 (rgS w lp l Rs).flatten (fun i => !lp i)) := by
  have p1 := hB.1
  have p2 := hB.2.1
  have p3 := hB.2.2.1
  have hwn : ∀ i, i < l → w i + 1 < n := fun i hi => (hw i hi).1
  let Q : ow_MS → Prop := fun z1 => fr frK z z1 ∧ ∃ Rs, clQ w n l Rs ∧ Rs.length ≤ n ∧ (∀ s, s < n → s ∈ Rs.flatten) ∧ rn_At z1 3000 (rgS w lp l Rs) [] ∧ rn_sg z1 3000 (rgS w lp l Rs).flatten (fun i => !lp i)
  have bY : ∀ {y : ow_MS}, fr frK z y → hBr y b n l := fun hf => hBr_fr hf (by unfold frK; omega) (by unfold frK; omega) (by unfold frK; omega) hB
  have wY : ∀ {y : ow_MS}, fr frK z y → ltX 94 y b n l w lp := fun hf i hi => ⟨(hw i hi).1, by rw [(hf 94 (by unfold frK; omega)).2.1]; exact (hw i hi).2⟩
  have l2 : ∀ (k j : Nat) (Rs : List (List Nat)) (y : ow_MS), j + k = n → Rs.length ≤ j → fr frK z y → clQ w n l Rs → fD y n (fun s => s ∈ Rs.flatten) → (∀ s, s < j → s ∈ Rs.flatten) → rn_At y 3000 (rgS w lp l Rs) [] → rn_sg y 3000 (rgS w lp l Rs).flatten (fun i => !lp i) → Tt (fun K i => q_X13_close K i 2 (nI b) (nI j) 0 y) Q := by
    intro k
    induction k with
    | zero =>
      intro j Rs y hj hq hf hcl hfd hall ha hg
      refine u_X13_close_2 ?_; unfold qm_X13_close_2
      exact w_rdI ml96 rfl (by omega) (bY hf).2.2.2.1 (w_leT (by omega) (by omega) (w_some ⟨hf, Rs, hcl, by omega, fun s hs => hall s (by omega), ha, hg⟩))
    | succ k ih =>
      intro j Rs y hj hq hf hcl hfd hall ha hg
      have hjn : j < n := by omega
      have c4 : ∀ (Rs2 : List (List Nat)) (y2 : ow_MS), Rs2.length ≤ j + 1 → fr frK z y2 → clQ w n l Rs2 → fD y2 n (fun s => s ∈ Rs2.flatten) → (∀ s, s < j + 1 → s ∈ Rs2.flatten) → rn_At y2 3000 (rgS w lp l Rs2) [] → rn_sg y2 3000 (rgS w lp l Rs2).flatten (fun i => !lp i) → Tt (fun K i => q_X13_close K i 4 (nI b) (nI j) 0 y2) Q := by
        intro Rs2 y2 hq2 hf2 hcl2 hfd2 hall2 ha2 hg2
        refine u_X13_close_4 ?_; unfold qm_X13_close_4
        rw [nI_1]
        exact ih (j + 1) Rs2 y2 (by omega) hq2 hf2 hcl2 hfd2 hall2 ha2 hg2
      have l3 : ∀ (d a : Nat) (R : List Nat) (y : ow_MS), R.length + d = n → opR (fun s => psn w s l) j R a → (Rs.flatten ++ R).Nodup → (∀ s, s ∈ R → s < n) → a < n → a ∉ Rs.flatten ++ R → fr frK z y → fD y n (fun s => s ∈ Rs.flatten ++ R) → rn_At y 3000 (rgS w lp l Rs) (R.flatMap (fun s => rnL w lp s l)) → rn_sg y 3000 ((rgS w lp l Rs).flatten ++ R.flatMap (fun s => rnL w lp s l)) (fun i => !lp i) → Tt (fun K i => q_X13_close K i 3 (nI b) (nI j) (nI a) y) Q := by
        intro d
        induction d with
        | zero =>
          intro a R y ht hop hnd hRn han hno hf hfd ha hg
          exfalso
          have nd : (a :: R).Nodup := List.nodup_cons.mpr ⟨fun h9 => hno (List.mem_append_right _ h9), (List.nodup_append.mp hnd).2.1⟩
          have := nodup_le _ (List.range n) nd (fun s hs => by
            rcases List.mem_cons.mp hs with h9 | h9
            · rw [h9]
              exact List.mem_range.mpr han
            · exact List.mem_range.mpr (hRn s h9))
          rw [List.length_cons, List.length_range] at this
          omega
        | succ d ihd =>
          intro a R y ht hop hnd hRn han hno hf hfd ha hg
          have f1 : fr (fun g => g = 120) y (usI y 120 a (vp_nar .boolean 1)) := fr_I rfl
          have hf1 : fr frK z (usI y 120 a (vp_nar .boolean 1)) := fr_tr hf (fr_mono (fun g hg => Or.inl hg) f1)
          have nd2 : (Rs.flatten ++ (R ++ [a])).Nodup := by
            rw [← List.append_assoc]
            refine List.nodup_append.mpr ⟨hnd, List.nodup_cons.mpr ⟨List.not_mem_nil, List.nodup_nil⟩, fun s hs t ht9 e => ?_⟩
            rw [List.mem_singleton.mp ht9] at e
            rw [e] at hs
            exact hno hs
          have hlen := fmR_len (w := w) (lp := lp) (l := l) nd2
          rw [List.flatMap_append, List.flatMap_append, ← rgS_fl, List.length_append, List.length_append, List.flatMap_cons, List.flatMap_nil, List.append_nil] at hlen
          refine u_X13_close_3 ?_; unfold qm_X13_close_3
          refine w_wrZ ml120 rfl (by omega) (w_cs1 (xr_run hb (bY hf1) (wY hf1) han (fr_At (P := fun g => g = 120) f1 (fun g hg => by omega) ha) (fun p hp => by
            rw [po_usI_ot (by decide)]
            exact hg p hp) (by rw [List.length_append]; omega)) (fun v y2 ⟨r1, r2, r3, r4⟩ => ?_))
          have r1 : v = nI (psn w a l) := r1
          have r2 : fr (fun g => 3001 ≤ g ∧ g ≤ 3006) (usI y 120 a (vp_nar .boolean 1)) y2 := r2
          have hf2 : fr frK z y2 := fr_tr hf1 (fr_mono (fun g hg => Or.inr hg) r2)
          have hal : psn w a l < n := psn_lt han l hwn
          have eF : (R ++ [a]).flatMap (fun s => rnL w lp s l) = R.flatMap (fun s => rnL w lp s l) ++ rnL w lp a l := by
            rw [List.flatMap_append, List.flatMap_cons, List.flatMap_nil, List.append_nil]
          have r3 : rn_At y2 3000 (rgS w lp l Rs) ((R ++ [a]).flatMap (fun s => rnL w lp s l)) := by rw [eF]; exact r3
          have r4 : rn_sg y2 3000 ((rgS w lp l Rs).flatten ++ (R ++ [a]).flatMap (fun s => rnL w lp s l)) (fun i => !lp i) := by rw [eF]; exact r4
          have hop2 := opR_snoc hop
          have hop2 : opR (fun s => psn w s l) j (R ++ [a]) (psn w a l) := hop2
          have hRn2 : ∀ s, s ∈ R ++ [a] → s < n := fun s hs => by
            rcases List.mem_append.mp hs with h9 | h9
            · exact hRn s h9
            · rw [List.mem_singleton.mp h9]
              exact han
          have hfd2 : fD y2 n (fun s => s ∈ Rs.flatten ++ (R ++ [a])) := by
            intro s hs
            rw [(r2 120 (by omega)).2.1]
            by_cases hsa : s = a
            · exact Or.inl ⟨by rw [hsa]; exact po_usI_at, by rw [hsa]; simp⟩
            · rw [po_usI_ne hsa]
              rcases hfd s hs with ⟨g1, g2⟩ | ⟨g1, g2⟩
              · refine Or.inl ⟨g1, ?_⟩
                rw [← List.append_assoc]
                exact List.mem_append_left _ g2
              · refine Or.inr ⟨g1, fun h9 => ?_⟩
                rw [← List.append_assoc] at h9
                rcases List.mem_append.mp h9 with h8 | h8
                · exact g2 h8
                · exact hsa (List.mem_singleton.mp h8)
          rw [r1]
          refine w_eqN (by omega) (by omega) (fun hret => w_cs0 (tn_end pn3 r3 (by unfold rgS; rw [List.length_map]; omega)) (fun y3 ⟨k1, k2⟩ => ?_)) (fun hret => ihd (psn w a l) (R ++ [a]) y2 (by rw [List.length_append]; show R.length + 1 + d = n; omega) hop2 nd2 hRn2 hal (fun h9 => ?_) hf2 hfd2 r3 r4)
          · have eR : rgS w lp l Rs ++ [(R ++ [a]).flatMap (fun s => rnL w lp s l)] = rgS w lp l (Rs ++ [R ++ [a]]) := by
              unfold rgS
              rw [List.map_append]
              rfl
            have eFl : (Rs ++ [R ++ [a]]).flatten = Rs.flatten ++ (R ++ [a]) := by
              rw [List.flatten_append, List.flatten_cons, List.flatten_nil, List.append_nil]
            rw [eR] at k1
            rw [hret] at hop2
            refine c4 (Rs ++ [R ++ [a]]) y3 (by rw [List.length_append]; show Rs.length + 1 ≤ _; omega) (fr_tr hf2 (fr_mono (fun g hg => Or.inr (by omega)) k2)) ⟨by rw [eFl]; exact nd2, fun s hs => ?_, fun R' hR' => ?_⟩ (fun s hs => by rw [eFl, (k2 120 (by omega)).2.1]; exact hfd2 s hs) (fun s hs => ?_) k1 (fun p hp => ?_)
            · rw [eFl] at hs
              rcases List.mem_append.mp hs with h9 | h9
              · exact hcl.2.1 s h9
              · exact hRn2 s h9
            · rcases List.mem_append.mp hR' with h9 | h9
              · exact hcl.2.2 R' h9
              · rw [List.mem_singleton.mp h9]
                exact ⟨by simp, j, hop2⟩
            · rw [eFl]
              by_cases hsj : s = j
              · refine List.mem_append_right _ ?_
                rw [hsj]
                cases R with
                | nil =>
                  rw [hop.2.2.1 rfl]
                  exact List.mem_singleton.mpr rfl
                | cons r R' =>
                  rw [hop.2.2.2 r R' rfl]
                  simp
              · exact List.mem_append_left _ (hall s (by omega))
            · rw [(k2 3006 (by omega)).2.1]
              refine r4 p ?_
              rw [← eR, List.flatten_append, List.flatten_cons, List.flatten_nil, List.append_nil] at hp
              exact hp
          · rcases List.mem_append.mp h9 with h8 | h8
            · exact hno (List.mem_append_left _ (clQ_pre hcl h8))
            · obtain ⟨c, c1, c2⟩ := opR_pre hop2 h8 hret
              have ec : c = a := psn_inj l c2
              -- its predecessor in the row is not the last one
              obtain ⟨X1, Y1, e1⟩ := List.append_of_mem h8
              rcases List.eq_nil_or_concat X1 with q | ⟨X2, c3, q⟩
              · rw [q] at e1
                exact hret (hop2.2.2.2 _ _ e1)
              · rw [List.concat_eq_append] at q
                have e2 : R ++ [a] = X2 ++ c3 :: psn w a l :: Y1 := by rw [e1, q]; simp
                have e3 : c3 = a := psn_inj l (hop2.1 _ _ _ _ e2)
                rcases snoc2 e2 with ⟨-, q1, -⟩ | ⟨Y', -, q1⟩
                · exact hno (List.mem_append_right _ (by rw [q1, e3]; simp))
                · exact hno (List.mem_append_right _ (by rw [q1, e3]; simp))
      refine u_X13_close_2 ?_; unfold qm_X13_close_2
      refine w_rdI ml96 rfl (by omega) (bY hf).2.2.2.1 (w_leF (by omega) (by omega) (w_rdI ml120 rfl (by omega) rfl ?_))
      rcases hfd j hjn with ⟨g1, g2⟩ | ⟨g1, g2⟩
      · refine w_ifF (by rw [g1]; decide) (c4 Rs y (by omega) hf hcl hfd (fun s hs => ?_) ha hg)
        by_cases hsj : s = j
        · rw [hsj]; exact g2
        · exact hall s (by omega)
      · refine w_ifT g1 (l3 n j [] y (by show 0 + n = n; omega) opR_nil (by rw [List.append_nil]; exact hcl.1) (fun s hs => (by cases hs)) hjn (by rw [List.append_nil]; exact g2) hf (fun s hs => by rw [List.append_nil]; exact hfd s hs) ha (by
          show rn_sg y 3000 ((rgS w lp l Rs).flatten ++ []) _
          rw [List.append_nil]
          exact hg))
  have l1 : ∀ (k j : Nat) (y : ow_MS), j + k = 5 → fr frK z y → rn_At y 3000 [] [] → (∀ s, s < j → y.2.1 120 s = 0) → Tt (fun K i => q_X13_close K i 1 (nI b) (nI j) 0 y) Q := by
    intro k
    induction k with
    | zero =>
      intro j y hj hf ha h0
      refine u_X13_close_1 ?_; unfold qm_X13_close_1
      refine w_leT (a := 5) (by omega) (by omega) (l2 n 0 [] y (by omega) (Nat.le_refl _) hf ⟨List.nodup_nil, fun s hs => (by cases hs), fun R hR => (by cases hR)⟩ (fun s hs => Or.inr ⟨h0 s (by omega), fun h9 => (by cases h9)⟩) (fun s hs => by omega) ha (fun p hp => (by cases hp)))
    | succ k ih =>
      intro j y hj hf ha h0
      refine u_X13_close_1 ?_; unfold qm_X13_close_1
      rw [nI_1]
      refine w_leF (a := 5) (by omega) (by omega) (w_wrZ ml120 rfl (by omega) (ih (j + 1) _ (by omega) (fr_I2 hf (Or.inl rfl)) (fr_At (P := fun g => g = 120) (fr_I rfl) (fun g hg => by omega) ha) (fun s hs => ?_)))
      by_cases hsj : s = j
      · rw [hsj]
        exact po_usI_at
      · exact rd_ne hsj (h0 s (by omega))
  refine e_X13_close ?_
  refine u_X13_close_0 ?_; unfold qm_X13_close_0
  exact w_cs0 (tn_clear pn3) (fun y ⟨g1, g2⟩ => l1 5 0 y (by omega) (fr_mono (fun g hg => Or.inr (by omega)) g2) g1 (fun s hs => by omega))
end XRC
end
section
/-! 99zzzzzzzzzzm.xcl4 -/
/-! closed braids are plane: faces by columns -/
/-- the visit at v comes in at the lesser place -/
def rsg (lp : Nat → Bool) (v : Nat) : Bool := decide (v % 2 = 0) == lp (v / 2)
def otp (w : Nat → Nat) (lp : Nat → Bool) (v : Nat) : Nat := if rsg lp v = true then w (v / 2) + 1 else w (v / 2)
def inp (w : Nat → Nat) (lp : Nat → Bool) (v : Nat) : Nat := if rsg lp v = true then w (v / 2) else w (v / 2) + 1
/-- letters of column K - 1 before t -/
def cnK (w : Nat → Nat) (K : Nat) : Nat → Nat
  | 0 => 0
  | t + 1 => cnK w K t + if w t + 1 = K then 1 else 0
def fLb (w : Nat → Nat) (l K t s : Nat) : Nat := 2 * (64 * K + cnK w K t % cnK w K l) + if cnK w K l = 0 then s else 0
def tch (w : Nat → Nat) (p j : Nat) : Prop := w j = p ∨ w j + 1 = p
def nxG (w : Nat → Nat) (lp : Nat → Bool) (l : Nat) (v v' : Nat) : Prop := v' < 2 * l ∧ inp w lp v' = otp w lp v ∧ ((v / 2 < v' / 2 ∧ ∀ j, v / 2 < j → j < v' / 2 → ¬ tch w (otp w lp v) j) ∨ ((∀ j, v / 2 < j → j < l → ¬ tch w (otp w lp v) j) ∧ ∀ j, j < v' / 2 → ¬ tch w (otp w lp v) j))
section PCL
variable {w : Nat → Nat} {lp : Nat → Bool} {l n s : Nat}
theorem rnL_lt : ∀ i, (rnL w lp s i).Pairwise (fun p q => p.1 < q.1)
  | 0 => List.Pairwise.nil
  | i + 1 => by
    by_cases h : onL w s i
    · rw [rnL_on h]
      refine List.pairwise_append.mpr ⟨rnL_lt i, List.pairwise_singleton _ _, fun p hp q hq => ?_⟩
      rw [List.mem_singleton.mp hq]
      exact (rnL_mem.mp hp).1
    · rw [(rnL_off (lp := lp) h).1]
      exact rnL_lt i
theorem psn_stay {a : Nat} : ∀ d, (∀ j, a ≤ j → j < a + d → ¬ onL w s j) → psn w s (a + d) = psn w s a
  | 0, _ => rfl
  | d + 1, h => by
    rw [← psn_stay d (fun j h1 h2 => h j h1 (by omega))]
    exact (rnL_off (lp := fun _ => true) (h (a + d) (by omega) (by omega))).2
theorem ubn_rsg {i : Nat} (h : onL w s i) : rsg lp (lb (i, ubn w lp s i)) = decide (psn w s i = w i) := by
  have u := ubn_lt (w := w) (lp := lp) (s := s) (i := i)
  unfold rsg lb
  rw [show (2 * (i, ubn w lp s i).1 + (i, ubn w lp s i).2) / 2 = i by show (2 * i + ubn w lp s i) / 2 = i; omega, show (2 * (i, ubn w lp s i).1 + (i, ubn w lp s i).2) % 2 = ubn w lp s i by show (2 * i + ubn w lp s i) % 2 = _; omega]
  unfold ubn
  cases decide (psn w s i = w i) <;> cases lp i <;> rfl
theorem lb_half {i : Nat} : lb (i, ubn w lp s i) / 2 = i := by
  have u := ubn_lt (w := w) (lp := lp) (s := s) (i := i)
  show (2 * i + ubn w lp s i) / 2 = i
  omega
theorem otp_s {i : Nat} (h : onL w s i) : otp w lp (lb (i, ubn w lp s i)) = psn w s (i + 1) ∧ inp w lp (lb (i, ubn w lp s i)) = psn w s i := by
  unfold otp inp
  rw [ubn_rsg h, lb_half]
  have e : psn w s (i + 1) = sw2 (w i) (w i + 1) (psn w s i) := rfl
  rw [e]
  unfold sw2
  by_cases h1 : psn w s i = w i
  · rw [decide_eq_true h1, if_pos rfl, if_pos rfl, if_pos h1]
    exact ⟨rfl, h1.symm⟩
  · have h2 : psn w s i = w i + 1 := h.resolve_left h1
    rw [decide_eq_false h1, if_neg h1, if_pos h2]
    exact ⟨rfl, h2.symm⟩
theorem off_tch {a : Nat} {d : Nat} (h : ∀ j, a ≤ j → j < a + d → ¬ onL w s j) {j : Nat} (h1 : a ≤ j) (h2 : j < a + d) : ¬ tch w (psn w s a) j := fun h9 => by
  have e := psn_stay (w := w) (s := s) (a := a) (j - a) (fun k k1 k2 => h k k1 (by omega))
  rw [show a + (j - a) = j by omega] at e
  refine h j h1 h2 ?_
  unfold onL
  rw [e]
  exact h9.imp Eq.symm Eq.symm
theorem cl_nxG {S : ow_NP} (hw : ∀ i, i < l → w i + 1 < n) (hJ : clJ w lp n l n S) {v : Nat} (hv : v < 2 * l) : nxG w lp l v (S.1 v) := by
  obtain ⟨s, hs, hm⟩ := rnL_all (lp := lp) hw (p := (v / 2, v % 2)) (by show v / 2 < l; omega) (by show v % 2 < 2; omega)
  obtain ⟨-, m2, m3⟩ := rnL_mem.mp hm
  have m2 : onL w s (v / 2) := m2
  have m3 : v % 2 = ubn w lp s (v / 2) := m3
  have ev : lb (v / 2, ubn w lp s (v / 2)) = v := by
    show 2 * (v / 2) + ubn w lp s (v / 2) = v
    omega
  have ev2 : lb (v / 2, v % 2) = v := by
    show 2 * (v / 2) + v % 2 = v
    omega
  have hout := (otp_s (lp := lp) m2).1
  rw [ev] at hout
  obtain ⟨X, Y, eL⟩ := List.append_of_mem hm
  have srt := rnL_lt (w := w) (lp := lp) (s := s) l
  rw [eL] at srt
  have sX := (List.pairwise_append.mp srt).2.2
  have sY := List.pairwise_cons.mp (List.pairwise_append.mp srt).2.1
  -- letters behind, with the strand
  have behind : ∀ j, v / 2 < j → j < l → onL w s j → (j, ubn w lp s j) ∈ Y := fun j h1 h2 h3 => by
    have : (j, ubn w lp s j) ∈ rnL w lp s l := rnL_mem.mpr ⟨h2, h3, rfl⟩
    rw [eL] at this
    rcases List.mem_append.mp this with h9 | h9
    · have := sX _ h9 _ List.mem_cons_self
      have this : j < v / 2 := this
      omega
    · rcases List.mem_cons.mp h9 with h8 | h8
      · have := congrArg Prod.fst h8
        have this : j = v / 2 := this
        omega
      · exact h8
  cases Y with
  | cons q Y' =>
    have e1 := hJ.1 s hs X _ q Y' eL
    rw [ev2] at e1
    have hq : q ∈ rnL w lp s l := by rw [eL]; simp
    obtain ⟨q1, q2, q3⟩ := rnL_mem.mp hq
    have eq : q = (q.1, ubn w lp s q.1) := Prod.ext rfl q3
    have e2 : S.1 v = lb (q.1, ubn w lp s q.1) := by rw [e1, ← eq]
    have hq2 : v / 2 < q.1 := sY.1 q List.mem_cons_self
    have u := ubn_lt (w := w) (lp := lp) (s := s) (i := q.1)
    have no : ∀ j, v / 2 + 1 ≤ j → j < v / 2 + 1 + (q.1 - (v / 2 + 1)) → ¬ onL w s j := fun j h1 h2 h3 => by
      rcases List.mem_cons.mp (behind j (by omega) (by omega) h3) with h9 | h9
      · have := congrArg Prod.fst h9
        have this : j = q.1 := this
        omega
      · have := (List.pairwise_cons.mp sY.2).1 _ h9
        have this : q.1 < j := this
        omega
    have est := psn_stay (w := w) (s := s) (a := v / 2 + 1) (q.1 - (v / 2 + 1)) no
    rw [show v / 2 + 1 + (q.1 - (v / 2 + 1)) = q.1 by omega] at est
    rw [e2]
    refine ⟨by show 2 * q.1 + ubn w lp s q.1 < 2 * l; omega, ?_, Or.inl ⟨by rw [lb_half]; exact hq2, fun j h1 h2 => ?_⟩⟩
    · rw [(otp_s q2).2, hout, est]
    · rw [lb_half] at h2
      rw [hout]
      exact off_tch no (by omega) (by omega)
  | nil =>
    have hwl : psn w s l < n := psn_lt hs l hw
    obtain ⟨q, Z, e1, e2⟩ := hJ.2 s hs hwl X _ eL
    rw [ev2] at e2
    obtain ⟨s', hs'⟩ : ∃ s', s' = psn w s l := ⟨_, rfl⟩
    rw [← hs'] at e1
    have hq : q ∈ rnL w lp s' l := by rw [e1]; exact List.mem_cons_self
    obtain ⟨q1, q2, q3⟩ := rnL_mem.mp hq
    have eq : q = (q.1, ubn w lp s' q.1) := Prod.ext rfl q3
    have e3 : S.1 v = lb (q.1, ubn w lp s' q.1) := by rw [e2, ← eq]
    have u := ubn_lt (w := w) (lp := lp) (s := s') (i := q.1)
    have no : ∀ j, v / 2 + 1 ≤ j → j < v / 2 + 1 + (l - (v / 2 + 1)) → ¬ onL w s j := fun j h1 h2 h3 => by
      have := behind j (by omega) (by omega) h3
      cases this
    have est := psn_stay (w := w) (s := s) (a := v / 2 + 1) (l - (v / 2 + 1)) no
    rw [show v / 2 + 1 + (l - (v / 2 + 1)) = l by omega] at est
    have srt2 := rnL_lt (w := w) (lp := lp) (s := s') l
    rw [e1] at srt2
    have no2 : ∀ j, 0 ≤ j → j < 0 + q.1 → ¬ onL w s' j := fun j _ h2 h3 => by
      have : (j, ubn w lp s' j) ∈ rnL w lp s' l := rnL_mem.mpr ⟨by show j < l; omega, h3, rfl⟩
      rw [e1] at this
      rcases List.mem_cons.mp this with h9 | h9
      · have := congrArg Prod.fst h9
        have this : j = q.1 := this
        omega
      · have := (List.pairwise_cons.mp srt2).1 _ h9
        have this : q.1 < j := this
        omega
    have est2 := psn_stay (w := w) (s := s') (a := 0) q.1 no2
    rw [Nat.zero_add] at est2
    have est2 : psn w s' q.1 = s' := est2
    rw [e3]
    refine ⟨by show 2 * q.1 + ubn w lp s' q.1 < 2 * l; omega, ?_, Or.inr ⟨fun j h1 h2 => ?_, fun j h2 => ?_⟩⟩
    · rw [(otp_s q2).2, hout, est2, hs', est]
    · rw [hout]
      exact off_tch no (by omega) (by omega)
    · rw [lb_half] at h2
      have h9 := off_tch no2 (j := j) (by omega) (by omega)
      have h9 : ¬ tch w s' j := h9
      rw [hout, ← est, ← hs']
      exact h9
theorem cnK_le : ∀ {K t d : Nat}, cnK w K t ≤ cnK w K (t + d)
  | K, t, 0 => Nat.le_refl _
  | K, t, d + 1 => by
    have := cnK_le (K := K) (t := t) (d := d)
    show _ ≤ cnK w K (t + d) + _
    omega
theorem cnK_mono {K t u : Nat} (h : t ≤ u) : cnK w K t ≤ cnK w K u := by
  have := cnK_le (w := w) (K := K) (t := t) (d := u - t)
  rw [show t + (u - t) = u by omega] at this
  exact this
theorem cnK_stay {K t : Nat} : ∀ d, (∀ j, t ≤ j → j < t + d → w j + 1 ≠ K) → cnK w K (t + d) = cnK w K t
  | 0, _ => rfl
  | d + 1, h => by
    show cnK w K (t + d) + (if w (t + d) + 1 = K then 1 else 0) = _
    rw [if_neg (h (t + d) (by omega) (by omega)), cnK_stay d (fun j h1 h2 => h j h1 (by omega))]
    rfl
theorem cnK_b : ∀ {K t : Nat}, cnK w K t ≤ t
  | K, 0 => Nat.le_refl _
  | K, t + 1 => by
    have := cnK_b (K := K) (t := t)
    show cnK w K t + (if w t + 1 = K then 1 else 0) ≤ t + 1
    split <;> omega
theorem cnK_s {t : Nat} : cnK w (w t + 1) (t + 1) = cnK w (w t + 1) t + 1 := by
  show cnK w (w t + 1) t + (if w t + 1 = w t + 1 then 1 else 0) = _
  rw [if_pos rfl]
theorem cnK_pos {t : Nat} (h : t < l) : 0 < cnK w (w t + 1) l := by
  have h1 := cnK_mono (w := w) (K := w t + 1) (t := t + 1) (u := l) (by omega)
  rw [cnK_s] at h1
  omega
theorem cnK_ex : ∀ {K t : Nat}, 0 < cnK w K t → ∃ j, j < t ∧ w j + 1 = K
  | K, 0, h => absurd h (Nat.lt_irrefl _)
  | K, t + 1, h => by
    by_cases e : w t + 1 = K
    · exact ⟨t, by omega, e⟩
    · have h : 0 < cnK w K t + (if w t + 1 = K then 1 else 0) := h
      rw [if_neg e] at h
      obtain ⟨j, h1, h2⟩ := cnK_ex (K := K) (t := t) h
      exact ⟨j, by omega, h2⟩
/-- along a gap the places in the columns at its sides are the same -/
theorem nxG_c {v v' K : Nat} (hv : v < 2 * l) (h : nxG w lp l v v') (hK : K = otp w lp v ∨ K = otp w lp v + 1) : cnK w K (v / 2 + 1) % cnK w K l = cnK w K (v' / 2) % cnK w K l := by
  obtain ⟨h1, -, h3⟩ := h
  have nt : ∀ j, ¬ tch w (otp w lp v) j → w j + 1 ≠ K := fun j hj e => hj (by
    unfold tch
    rcases hK with e2 | e2
    · exact Or.inr (by omega)
    · exact Or.inl (by omega))
  rcases h3 with ⟨h4, h5⟩ | ⟨h4, h5⟩
  · have e := cnK_stay (w := w) (K := K) (t := v / 2 + 1) (v' / 2 - (v / 2 + 1)) (fun j a1 a2 => nt j (h5 j (by omega) (by omega)))
    rw [show v / 2 + 1 + (v' / 2 - (v / 2 + 1)) = v' / 2 by omega] at e
    rw [e]
  · have e := cnK_stay (w := w) (K := K) (t := v / 2 + 1) (l - (v / 2 + 1)) (fun j a1 a2 => nt j (h4 j (by omega) (by omega)))
    rw [show v / 2 + 1 + (l - (v / 2 + 1)) = l by omega] at e
    have e2 := cnK_stay (w := w) (K := K) (t := 0) (v' / 2) (fun j a1 a2 => nt j (h5 j (by omega)))
    rw [Nat.zero_add] at e2
    have e2 : cnK w K (v' / 2) = 0 := e2
    rw [← e, e2, Nat.mod_self, Nat.zero_mod]
theorem fLb_s {K t s s' : Nat} (h : 0 < cnK w K l) : fLb w l K t s = fLb w l K t s' := by
  unfold fLb
  rw [if_neg (by omega), if_neg (by omega)]
theorem fLb_t {K t t' s : Nat} (h : cnK w K t % cnK w K l = cnK w K t' % cnK w K l) : fLb w l K t s = fLb w l K t' s := by
  unfold fLb
  rw [h]
def fDt (w : Nat → Nat) (lp : Nat → Bool) (l d : Nat) : Nat := if d % 2 = 0 then fLb w l (otp w lp (d / 2)) (d / 4 + 1) 1 else fLb w l (inp w lp (d / 2) + 1) (d / 4) 0
theorem rsg_mt (v : Nat) : rsg lp (mt v) = !rsg lp v := by
  unfold rsg
  rw [mt_half]
  have : decide (mt v % 2 = 0) = !decide (v % 2 = 0) := by
    unfold mt
    by_cases h : v % 2 = 0
    · rw [if_pos h, decide_eq_true h, decide_eq_false (by omega)]
      rfl
    · rw [if_neg h, decide_eq_false h, decide_eq_true (by omega)]
      rfl
  rw [this]
  cases decide (v % 2 = 0) <;> cases lp (v / 2) <;> rfl
theorem otp_mt (v : Nat) : otp w lp (mt v) = inp w lp v ∧ inp w lp (mt v) = otp w lp v := by
  unfold otp inp
  rw [rsg_mt, mt_half]
  cases rsg lp v
  · exact ⟨rfl, rfl⟩
  · exact ⟨rfl, rfl⟩
theorem cnK_ne {K t : Nat} (h : w t + 1 ≠ K) : cnK w K (t + 1) = cnK w K t := by
  show cnK w K t + (if w t + 1 = K then 1 else 0) = _
  rw [if_neg h]
  rfl
theorem fDt_in {v : Nat} (hv : v < 2 * l) : fDt w lp l (pn_rt (rsg lp) (2 * v + 1)) = fLb w l (inp w lp v) (v / 2) 1 := by
  obtain ⟨m1, m2⟩ := otp_mt (w := w) (lp := lp) v
  have mh := mt_half v
  unfold pn_rt
  rw [show (2 * v + 1) / 2 = v by omega, show (2 * v + 1) % 2 = 1 by omega]
  cases e : rsg lp v with
  | true =>
    rw [if_pos (by decide)]
    unfold fDt
    rw [if_pos (by omega), show 2 * mt v / 2 = mt v by omega, show 2 * mt v / 4 = v / 2 by omega, m1]
    refine fLb_t ?_
    have : inp w lp v = w (v / 2) := by unfold inp; rw [e]; rfl
    rw [cnK_ne (by omega)]
  | false =>
    rw [if_neg (by decide)]
    unfold fDt
    rw [if_neg (by omega), show (2 * mt v + 1) / 2 = mt v by omega, show (2 * mt v + 1) / 4 = v / 2 by omega, m2]
    have e1 : otp w lp v = w (v / 2) := by unfold otp; rw [e]; rfl
    have e2 : inp w lp v = w (v / 2) + 1 := by unfold inp; rw [e]; rfl
    rw [e1, e2]
    exact fLb_s (cnK_pos (by omega))
theorem fDt_out {v : Nat} (hv : v < 2 * l) : fDt w lp l (pn_rt (rsg lp) (2 * v)) = fLb w l (otp w lp v + 1) (v / 2 + 1) 0 := by
  obtain ⟨m1, m2⟩ := otp_mt (w := w) (lp := lp) v
  have mh := mt_half v
  unfold pn_rt
  rw [show 2 * v / 2 = v by omega, show 2 * v % 2 = 0 by omega]
  cases e : rsg lp v with
  | true =>
    rw [if_neg (by decide)]
    unfold fDt
    rw [if_neg (by omega), show (2 * mt v + 1) / 2 = mt v by omega, show (2 * mt v + 1) / 4 = v / 2 by omega, m2]
    refine fLb_t ?_
    have e1 : otp w lp v = w (v / 2) + 1 := by unfold otp; rw [e]; rfl
    rw [cnK_ne (by omega)]
  | false =>
    rw [if_pos (by decide)]
    unfold fDt
    rw [if_pos (by omega), show 2 * mt v / 2 = mt v by omega, show 2 * mt v / 4 = v / 2 by omega, m1]
    have e1 : otp w lp v = w (v / 2) := by unfold otp; rw [e]; rfl
    have e2 : inp w lp v = w (v / 2) + 1 := by unfold inp; rw [e]; rfl
    rw [e1, e2]
    exact fLb_s (cnK_pos (by omega))
theorem fDt_ph {S : ow_NP} (hv : vn l S) (hG : ∀ v, v < 2 * l → nxG w lp l v (S.1 v)) {d : Nat} (hd : d < 4 * l) : fDt w lp l (pn_ph S (rsg lp) d) = fDt w lp l d := by
  unfold pn_ph pn_al
  by_cases e : d % 2 = 0
  · rw [if_pos e]
    have hg := hG (d / 2) (by omega)
    rw [fDt_in hg.1, hg.2.1]
    unfold fDt
    rw [if_pos e]
    have := nxG_c (by omega) hg (Or.inl rfl)
    rw [show d / 2 / 2 = d / 4 by omega] at this
    exact (fLb_t this).symm
  · rw [if_neg e]
    obtain ⟨a1, a2, a3, a4⟩ := hv (d / 2) (by omega)
    have hg := hG (S.2 (d / 2)) a2
    have hc := nxG_c a2 hg (Or.inr rfl)
    have h2 := hg.2.1
    rw [a4] at hc h2
    rw [fDt_out a2]
    unfold fDt
    rw [if_neg e, h2, show d / 4 = d / 2 / 2 by omega]
    exact fLb_t hc
/-- letters at one place reach one another -/
theorem pl_reach {S : ow_NP} (hv : vn l S) (hG : ∀ v, v < 2 * l → nxG w lp l v (S.1 v)) {p : Nat} : ∀ (d i j : Nat), j ≤ i + d → i < j → j < l → tch w p i → tch w p j → rch l S (2 * i) (2 * j)
  | 0, i, j, h1, h2, _, _, _ => by omega
  | d + 1, i, j, h1, h2, h3, h4, h5 => by
    -- the visit that leaves letter i at p
    have hm : ∀ u, u < 2 * l → rch l S (2 * (u / 2)) u ∧ rch l S u (2 * (u / 2)) := fun u hu => by
      rcases (show u = 2 * (u / 2) ∨ u = 2 * (u / 2) + 1 by omega) with e | e
      · rw [← e]
        exact ⟨rch_rf _ _ _, rch_rf _ _ _⟩
      · have m1 : mt (2 * (u / 2)) = u := by rw [mt_ev]; omega
        have m2 : mt u = 2 * (u / 2) := by rw [← m1, mt_mt, m1]
        have r1 := rch_m (rch_rf l S (2 * (u / 2))) (by omega)
        have r2 := rch_m (rch_rf l S u) hu
        rw [m1] at r1
        rw [m2] at r2
        exact ⟨r1, r2⟩
    obtain ⟨v, v1, v2⟩ : ∃ v, v / 2 = i ∧ otp w lp v = p := by
      have o1 : otp w lp (2 * i) = p ∨ otp w lp (2 * i + 1) = p := by
        have e1 : 2 * i / 2 = i := by omega
        have e2 : (2 * i + 1) / 2 = i := by omega
        have r : rsg lp (2 * i + 1) = !rsg lp (2 * i) := by rw [← mt_ev]; exact rsg_mt _
        unfold otp
        rw [e1, e2, r]
        cases rsg lp (2 * i)
        · rcases h4 with h9 | h9
          · exact Or.inl h9
          · exact Or.inr h9
        · rcases h4 with h9 | h9
          · exact Or.inr h9
          · exact Or.inl h9
      rcases o1 with o1 | o1
      · exact ⟨2 * i, by omega, o1⟩
      · exact ⟨2 * i + 1, by omega, o1⟩
    have hvl : v < 2 * l := by omega
    obtain ⟨g1, g2, g3⟩ := hG v hvl
    rw [v2] at g2 g3
    rcases g3 with ⟨g4, g5⟩ | ⟨g4, -⟩
    · have hle : S.1 v / 2 ≤ j := by
        apply Classical.byContradiction
        intro h9
        exact g5 j (by omega) (by omega) h5
      have r1 := rch_tr (hm v hvl).1 (rch_n (rch_rf l S v) hvl)
      rw [v1] at r1
      have r2 := rch_tr r1 (hm _ g1).2
      by_cases ej : S.1 v / 2 = j
      · rw [ej] at r2
        exact r2
      · have ti : tch w p (S.1 v / 2) := by
          unfold inp at g2
          unfold tch
          cases e : rsg lp (S.1 v)
          · rw [e] at g2
            exact Or.inr g2
          · rw [e] at g2
            exact Or.inl g2
        exact rch_tr r2 (pl_reach hv hG d (S.1 v / 2) j (by omega) (by omega) h3 ti h5)
    · exact absurd h5 (g4 j (by omega) h3)
theorem pl_reach2 {S : ow_NP} (hv : vn l S) (hG : ∀ v, v < 2 * l → nxG w lp l v (S.1 v)) {p i j : Nat} (hi : i < l) (hj : j < l) (h4 : tch w p i) (h5 : tch w p j) : rch l S (2 * i) (2 * j) := by
  rcases Nat.lt_trichotomy i j with h | h | h
  · exact pl_reach hv hG l i j (by omega) h hj h4 h5
  · rw [h]
    exact rch_rf _ _ _
  · exact rch_sy hv (by omega) (pl_reach hv hG l j i (by omega) h hi h5 h4)
def upK (w : Nat → Nat) (l k : Nat) : Bool := decide (0 < cnK w (k + 1) l) && decide (cnK w k l = 0)
def dnK (w : Nat → Nat) (l k : Nat) : Bool := decide (cnK w (k + 1) l = 0) && decide (0 < cnK w k l)
theorem updn (h0 : cnK w 0 l = 0) : ∀ n, cntB (upK w l) n = cntB (dnK w l) n + if 0 < cnK w n l then 1 else 0
  | 0 => by rw [h0]; rfl
  | n + 1 => by
    have ih := updn h0 n
    show cntB (upK w l) n + (if upK w l n = true then 1 else 0) = cntB (dnK w l) n + (if dnK w l n = true then 1 else 0) + _
    have eu : upK w l n = (decide (0 < cnK w (n + 1) l) && decide (cnK w n l = 0)) := rfl
    have ed : dnK w l n = (decide (cnK w (n + 1) l = 0) && decide (0 < cnK w n l)) := rfl
    rw [eu, ed]
    by_cases a : 0 < cnK w n l <;> by_cases b : 0 < cnK w (n + 1) l
    · rw [if_pos a] at ih
      rw [if_pos b, decide_eq_false (show ¬ cnK w n l = 0 by omega), decide_eq_false (show ¬ cnK w (n + 1) l = 0 by omega), Bool.and_false, Bool.false_and]
      show _ + 0 = _ + 0 + 1
      omega
    · rw [if_pos a] at ih
      rw [if_neg b, decide_eq_false (show ¬ cnK w n l = 0 by omega), decide_eq_true (show cnK w (n + 1) l = 0 by omega), decide_eq_true a, Bool.and_false]
      show _ + 0 = _ + 1 + 0
      omega
    · rw [if_neg a] at ih
      rw [if_pos b, decide_eq_true (show cnK w n l = 0 by omega), decide_eq_true b, decide_eq_false (show ¬ cnK w (n + 1) l = 0 by omega), Bool.false_and]
      show _ + 1 = _ + 0 + 1
      omega
    · rw [if_neg a] at ih
      rw [if_neg b, decide_eq_false b, decide_eq_false a, Bool.false_and, Bool.and_false]
      show _ + 0 = _ + 0 + 0
      omega
theorem cn0 : ∀ t, cnK w 0 t = 0
  | 0 => rfl
  | t + 1 => by rw [cnK_ne (by omega)]; exact cn0 t
/-- a letter of a column -/
noncomputable def ltK (w : Nat → Nat) (l K : Nat) : Nat := if h : ∃ j, j < l ∧ w j + 1 = K then h.choose else 0
theorem ltK_ok {K : Nat} (h : 0 < cnK w K l) : ltK w l K < l ∧ w (ltK w l K) + 1 = K := by
  have h1 := cnK_ex h
  unfold ltK
  rw [dif_pos h1]
  exact h1.choose_spec
/-- the visits of a letter: rising, falling -/
def rsV (lp : Nat → Bool) (i : Nat) : Nat := 2 * i + if lp i = true then 0 else 1
def flV (lp : Nat → Bool) (i : Nat) : Nat := 2 * i + if lp i = true then 1 else 0
theorem rsV_ok (i : Nat) : rsV lp i / 2 = i ∧ rsg lp (rsV lp i) = true := by
  have h : rsV lp i / 2 = i := by
    unfold rsV
    split <;> omega
  refine ⟨h, ?_⟩
  unfold rsg
  rw [h]
  unfold rsV
  cases lp i
  · rw [show (2 * i + if false = true then 0 else 1) = 2 * i + 1 from rfl, decide_eq_false (by omega)]
    rfl
  · rw [show (2 * i + if true = true then 0 else 1) = 2 * i from rfl, decide_eq_true (by omega)]
    rfl
theorem flV_ok (i : Nat) : flV lp i / 2 = i ∧ rsg lp (flV lp i) = false := by
  have h : flV lp i / 2 = i := by
    unfold flV
    split <;> omega
  refine ⟨h, ?_⟩
  unfold rsg
  rw [h]
  unfold flV
  cases lp i
  · rw [show (2 * i + if false = true then 1 else 0) = 2 * i from rfl, decide_eq_true (by omega)]
    rfl
  · rw [show (2 * i + if true = true then 1 else 0) = 2 * i + 1 from rfl, decide_eq_false (by omega)]
    rfl
theorem lab1 (i : Nat) : fDt w lp l (2 * rsV lp i) = fLb w l (w i + 1) (i + 1) 1 := by
  obtain ⟨h1, h2⟩ := rsV_ok (lp := lp) i
  unfold fDt otp
  rw [if_pos (by omega), show 2 * rsV lp i / 2 = rsV lp i by omega, show 2 * rsV lp i / 4 = i by omega, h2, if_pos rfl, h1]
theorem lab2 (i : Nat) : fDt w lp l (2 * flV lp i) = fLb w l (w i) (i + 1) 1 := by
  obtain ⟨h1, h2⟩ := flV_ok (lp := lp) i
  unfold fDt otp
  rw [if_pos (by omega), show 2 * flV lp i / 2 = flV lp i by omega, show 2 * flV lp i / 4 = i by omega, h2, if_neg (by decide), h1]
theorem lab3 (i : Nat) : fDt w lp l (2 * flV lp i + 1) = fLb w l (w i + 2) i 0 := by
  obtain ⟨h1, h2⟩ := flV_ok (lp := lp) i
  unfold fDt inp
  rw [if_neg (by omega), show (2 * flV lp i + 1) / 2 = flV lp i by omega, show (2 * flV lp i + 1) / 4 = i by omega, h2, if_neg (by decide), h1]
theorem fLb_0 {K t s : Nat} (ht : t ≤ l) (h : cnK w K l = 0) : fLb w l K t s = 128 * K + s := by
  have := cnK_mono (w := w) (K := K) ht
  unfold fLb
  rw [if_pos h, show cnK w K t = 0 by omega, Nat.zero_mod]
  omega
theorem fLb_1 {K t s : Nat} (h : 0 < cnK w K l) (hl : l ≤ 16) : fLb w l K t s = 128 * K + 2 * (cnK w K t % cnK w K l) ∧ cnK w K t % cnK w K l < 17 := by
  have h1 := Nat.mod_lt (cnK w K t) h
  have h2 := cnK_b (w := w) (K := K) (t := l)
  unfold fLb
  rw [if_neg (by omega)]
  omega
theorem lab1_i (hl : l ≤ 16) {i j : Nat} (hi : i < j) (hj : j < l) : fLb w l (w i + 1) (i + 1) 1 ≠ fLb w l (w j + 1) (j + 1) 1 := fun e => by
  obtain ⟨a1, a2⟩ := fLb_1 (t := i + 1) (s := 1) (cnK_pos (w := w) (show i < l by omega)) hl
  obtain ⟨b1, b2⟩ := fLb_1 (t := j + 1) (s := 1) (cnK_pos (w := w) hj) hl
  rw [a1, b1] at e
  have eK : w i + 1 = w j + 1 := by omega
  have e2 : cnK w (w i + 1) (i + 1) % cnK w (w i + 1) l = cnK w (w j + 1) (j + 1) % cnK w (w j + 1) l := by omega
  rw [← eK] at e2
  have c1 := cnK_s (w := w) (t := i)
  have c2 := cnK_s (w := w) (t := j)
  rw [← eK] at c2
  have c3 := cnK_mono (w := w) (K := w i + 1) (t := i + 1) (u := j) (by omega)
  have c4 := cnK_mono (w := w) (K := w i + 1) (t := j + 1) (u := l) (by omega)
  rw [Nat.mod_eq_of_lt (show cnK w (w i + 1) (i + 1) < cnK w (w i + 1) l by omega)] at e2
  by_cases h : cnK w (w i + 1) (j + 1) = cnK w (w i + 1) l
  · rw [h, Nat.mod_self] at e2
    omega
  · rw [Nat.mod_eq_of_lt (by omega)] at e2
    omega
theorem cl_plane {S : ow_NP} (hl : l ≤ 16) (hw : ∀ i, i < l → w i + 1 < n) (hv : vn l S) (hG : ∀ v, v < 2 * l → nxG w lp l v (S.1 v)) : pn_pl l S (rsg lp) := by
  have up : ∀ k, k ∈ (List.range n).filter (upK w l) → 0 < cnK w (k + 1) l ∧ cnK w k l = 0 := fun k hk => by
    have := (List.mem_filter.mp hk).2
    unfold upK at this
    have := Bool.and_eq_true_iff.mp this
    exact ⟨of_decide_eq_true this.1, of_decide_eq_true this.2⟩
  have dn : ∀ k, k ∈ (List.range n).filter (dnK w l) → cnK w (k + 1) l = 0 ∧ 0 < cnK w k l := fun k hk => by
    have := (List.mem_filter.mp hk).2
    unfold dnK at this
    have := Bool.and_eq_true_iff.mp this
    exact ⟨of_decide_eq_true this.1, of_decide_eq_true this.2⟩
  have n0 : cnK w n l = 0 := by
    have := cnK_stay (w := w) (K := n) (t := 0) l (fun j h1 h2 => by have := hw j (by omega); omega)
    rw [Nat.zero_add] at this
    exact this
  have hcnt := updn (w := w) (l := l) (cn0 l) n
  rw [n0, if_neg (by omega), cntB_fl, cntB_fl] at hcnt
  let g1 : Nat → Nat := fun i => 2 * rsV lp i
  let g2 : Nat → Nat := fun k => 2 * flV lp (ltK w l (k + 1))
  let g3 : Nat → Nat := fun k => 2 * flV lp (ltK w l k) + 1
  have L1 : ∀ i, fDt w lp l (g1 i) = fLb w l (w i + 1) (i + 1) 1 := fun i => lab1 i
  have L2 : ∀ k, k ∈ (List.range n).filter (upK w l) → fDt w lp l (g2 k) = 128 * k + 1 ∧ g2 k < 4 * l := fun k hk => by
    obtain ⟨u1, u2⟩ := up k hk
    obtain ⟨a1, a2⟩ := ltK_ok u1
    have f := (flV_ok (lp := lp) (ltK w l (k + 1))).1
    refine ⟨?_, by show 2 * flV lp (ltK w l (k + 1)) < _; omega⟩
    show fDt w lp l (2 * flV lp (ltK w l (k + 1))) = _
    rw [lab2, show w (ltK w l (k + 1)) = k by omega]
    exact fLb_0 (by omega) u2
  have L3 : ∀ k, k ∈ (List.range n).filter (dnK w l) → fDt w lp l (g3 k) = 128 * (k + 1) ∧ g3 k < 4 * l := fun k hk => by
    obtain ⟨u1, u2⟩ := dn k hk
    obtain ⟨a1, a2⟩ := ltK_ok u2
    have f := (flV_ok (lp := lp) (ltK w l k)).1
    refine ⟨?_, by show 2 * flV lp (ltK w l k) + 1 < _; omega⟩
    show fDt w lp l (2 * flV lp (ltK w l k) + 1) = _
    rw [lab3, show w (ltK w l k) + 2 = k + 1 by omega]
    exact fLb_0 (by omega) u1
  have L4 : ∀ i, i < l → ∃ K x, fDt w lp l (g1 i) = 128 * K + 2 * x ∧ x < 17 ∧ 0 < cnK w K l := fun i hi => by
    obtain ⟨a1, a2⟩ := fLb_1 (t := i + 1) (s := 1) (cnK_pos (w := w) hi) hl
    exact ⟨w i + 1, _, (L1 i).trans a1, a2, cnK_pos hi⟩
  refine ⟨((List.range n).filter (upK w l)).map (fun k => 2 * ltK w l (k + 1)), fun v hvl => ?_, fDt w lp l, (List.range l).map g1 ++ (((List.range n).filter (upK w l)).map g2 ++ ((List.range n).filter (dnK w l)).map g3), fun d hd => fDt_ph hv hG hd, fun x hx => ?_, ?_, ?_⟩
  · -- every letter is reached
    have key : ∀ K i, i < l → w i + 1 = K → ∃ r, r ∈ ((List.range n).filter (upK w l)).map (fun k => 2 * ltK w l (k + 1)) ∧ r < 2 * l ∧ rch l S r (2 * i) := by
      intro K
      induction K with
      | zero => intro i hi e; omega
      | succ k ih =>
        intro i hi e
        have hp : 0 < cnK w (k + 1) l := by rw [← e]; exact cnK_pos hi
        have hwi := hw i hi
        by_cases h0 : cnK w k l = 0
        · obtain ⟨a1, a2⟩ := ltK_ok hp
          refine ⟨2 * ltK w l (k + 1), List.mem_map.mpr ⟨k, List.mem_filter.mpr ⟨List.mem_range.mpr (by omega), ?_⟩, rfl⟩, by omega, pl_reach2 (p := k) hv hG a1 hi (Or.inl (by omega)) (Or.inl (by omega))⟩
          unfold upK
          rw [decide_eq_true hp, decide_eq_true h0]
          rfl
        · obtain ⟨j, j1, j2⟩ := cnK_ex (show 0 < cnK w k l by omega)
          obtain ⟨r, r1, r2, r3⟩ := ih j j1 j2
          exact ⟨r, r1, r2, rch_tr r3 (pl_reach2 (p := k) hv hG j1 hi (Or.inr j2) (Or.inl (by omega)))⟩
    obtain ⟨r, r1, r2, r3⟩ := key _ (v / 2) (by omega) rfl
    refine ⟨r, r1, r2, rch_tr r3 ?_⟩
    rcases (show v = 2 * (v / 2) ∨ v = 2 * (v / 2) + 1 by omega) with e | e
    · rw [← e]
      exact rch_rf _ _ _
    · have r4 := rch_m (rch_rf l S (2 * (v / 2))) (by omega)
      rw [mt_ev, ← e] at r4
      exact r4
  · rcases List.mem_append.mp hx with h9 | h9
    · obtain ⟨i, hi, rfl⟩ := List.mem_map.mp h9
      have := List.mem_range.mp hi
      have f := (rsV_ok (lp := lp) i).1
      show 2 * rsV lp i < _
      omega
    · rcases List.mem_append.mp h9 with h8 | h8
      · obtain ⟨k, hk, rfl⟩ := List.mem_map.mp h8
        exact (L2 k hk).2
      · obtain ⟨k, hk, rfl⟩ := List.mem_map.mp h8
        exact (L3 k hk).2
  · unfold pm_dv
    rw [List.map_append, List.map_append, List.map_map, List.map_map, List.map_map]
    have ndr : ∀ q : Nat → Bool, ((List.range n).filter q).Nodup := fun q => List.nodup_range.filter _
    refine List.nodup_append.mpr ⟨nodup_map List.nodup_range (fun i j hi hj e => ?_), List.nodup_append.mpr ⟨nodup_map (ndr _) (fun i j hi hj e => ?_), nodup_map (ndr _) (fun i j hi hj e => ?_), fun a ha b hb e => ?_⟩, fun a ha b hb e => ?_⟩
    · have hi := List.mem_range.mp hi
      have hj := List.mem_range.mp hj
      have e : fDt w lp l (g1 i) = fDt w lp l (g1 j) := e
      rw [L1, L1] at e
      rcases Nat.lt_trichotomy i j with q | q | q
      · exact absurd e (lab1_i hl q hj)
      · exact q
      · exact absurd e.symm (lab1_i hl q hi)
    · have e : fDt w lp l (g2 i) = fDt w lp l (g2 j) := e
      rw [(L2 i hi).1, (L2 j hj).1] at e
      omega
    · have e : fDt w lp l (g3 i) = fDt w lp l (g3 j) := e
      rw [(L3 i hi).1, (L3 j hj).1] at e
      omega
    · obtain ⟨i, hi, e1⟩ := List.mem_map.mp ha
      obtain ⟨j, hj, e2⟩ := List.mem_map.mp hb
      have e1 : fDt w lp l (g2 i) = a := e1
      have e2 : fDt w lp l (g3 j) = b := e2
      rw [(L2 i hi).1] at e1
      rw [(L3 j hj).1] at e2
      omega
    · obtain ⟨i, hi, e1⟩ := List.mem_map.mp ha
      have e1 : fDt w lp l (g1 i) = a := e1
      obtain ⟨K, x, k1, k2, k3⟩ := L4 i (List.mem_range.mp hi)
      rw [k1] at e1
      rcases List.mem_append.mp hb with h9 | h9
      · obtain ⟨j, hj, e2⟩ := List.mem_map.mp h9
        have e2 : fDt w lp l (g2 j) = b := e2
        rw [(L2 j hj).1] at e2
        omega
      · obtain ⟨j, hj, e2⟩ := List.mem_map.mp h9
        have e2 : fDt w lp l (g3 j) = b := e2
        rw [(L3 j hj).1] at e2
        have : K = j + 1 := by omega
        rw [this, (dn j hj).1] at k3
        omega
  · rw [List.length_append, List.length_append, List.length_map, List.length_map, List.length_map, List.length_map, List.length_range]
    omega
end PCL
end
section
/-! 99zzzzzzzzzzn.xcl5 -/
/-! both sides: closure -/
section ICL
variable {w : Nat → Nat} {lp : Nat → Bool} {n : Nat} {T : ow_NT} {Rs : List (List Nat)}
theorem pn_pl_b {c : Nat} {S : ow_NP} {b b' : Nat → Bool} (hv : vn c S) (e : ∀ v, v < 2 * c → b' v = b v) (h : pn_pl c S b) : pn_pl c S b' := by
  obtain ⟨R, h1, f, X, h2, h3⟩ := h
  refine ⟨R, h1, f, X, fun d hd => ?_, h3⟩
  have : pn_ph S b' d = pn_ph S b d := by
    have := pn_al_lt hv hd
    unfold pn_ph pn_rt
    rw [e (pn_al S d / 2) (by omega)]
  rw [this]
  exact h2 d hd
theorem cl_ok {l : Nat} (hw : ∀ i, i < l → w i + 1 < n) (hQ : clQ w n l Rs) (hall : ∀ s, s < n → s ∈ Rs.flatten) : okF (rgS w lp l Rs).flatten l := by
  rw [rgS_fl]
  refine ⟨fmR_nd hQ.1, fun p => ⟨fun hp => fmR_in hp, fun ⟨h1, h2⟩ => ?_⟩⟩
  obtain ⟨s, hs, hp⟩ := rnL_all (lp := lp) hw h1 h2
  exact List.mem_flatMap.mpr ⟨s, hall s hs, hp⟩
theorem cl_iso (hl : T.1 ≤ 12) (hv : vn T.1 T.2.2.1) (hw : ∀ i, i < T.1 → w i + 1 < n) (hJ : clJ w lp n T.1 n T.2.2.1) (hG : ∀ i, i < T.1 → T.2.2.2 i = if lp i = true then 1 else -1) (hci : T.2.1 = cntB (fun s => (rnL w lp s T.1).isEmpty) n) (hQ : clQ w n T.1 Rs) (hall : ∀ s, s < n → s ∈ Rs.flatten) : isoV (rgS w lp T.1 Rs) (fun i => !lp i) (fun x => x) T := by
  have ok := cl_ok (lp := lp) hw hQ hall
  refine isoV_of (isoS_iff.mp ⟨okF_wk (by omega) ok, okF_len ok, hl, fun p hp => ((ok.2 p).mp hp).1, fun p q _ _ e => e, fun L hL p hp => ?_, fun p hp => ?_, ?_⟩) hv
  · obtain ⟨R, hR, rfl⟩ := List.mem_map.mp hL
    obtain ⟨h1, j, h2⟩ := hQ.2.2 R hR
    have hin : ∀ s, s ∈ R → s < n := fun s hs => hQ.2.1 s (List.mem_flatten.mpr ⟨R, hR, hs⟩)
    have nd : R.Nodup := by
      have := hQ.1
      rw [List.nodup_iff_pairwise_ne, List.pairwise_flatten] at this
      exact this.1 R hR
    exact cl_shw h2 (fmR_nd nd) (fun s hs => hJ.1 s (hin s hs)) (fun s hs => hJ.2 s (hin s hs) (psn_lt (hin s hs) T.1 hw)) hp
  · have hx := ((ok.2 p).mp hp).1
    rw [hG _ hx]
    show _ ↔ (!lp p.1) = true
    cases lp p.1
    · exact ⟨fun _ => rfl, fun _ => by decide⟩
    · exact ⟨fun h9 => absurd h9 (by decide), fun h9 => by cases h9⟩
  · rw [hci]
    unfold rgS
    rw [cl_cirs (fun R hR => ?_)]
    · exact cnt_perm hQ.1 (fun s => ⟨fun h => hQ.2.1 s h, hall s⟩)
    · obtain ⟨h1, j, h2⟩ := hQ.2.2 R hR
      have nd : R.Nodup := by
        have := hQ.1
        rw [List.nodup_iff_pairwise_ne, List.pairwise_flatten] at this
        exact this.1 R hR
      exact ⟨j, h2, h1, nd⟩
theorem cl_pl (hl : T.1 ≤ 12) (hv : vn T.1 T.2.2.1) (hw : ∀ i, i < T.1 → w i + 1 < n) (hJ : clJ w lp n T.1 n T.2.2.1) (hG : ∀ i, i < T.1 → T.2.2.2 i = if lp i = true then 1 else -1) : pm1 T ∧ nt_plane T = true := by
  refine ⟨fun x hx => ?_, ?_⟩
  · rw [hG x hx]
    cases lp x
    · exact Or.inr rfl
    · exact Or.inl rfl
  · rw [plane_iff hv hl]
    refine pn_pl_b hv (fun v hvl => ?_) (cl_plane (by omega) hw hv (fun v hvl => cl_nxG hw hJ hvl))
    unfold stG rsg
    rw [hG (v / 2) (by omega)]
    cases lp (v / 2) <;> rfl
end ICL
section XCO
variable {X : (Nat → Nat → Int32) → Prop} {z y : ow_MS} {St : plT} {x : Int32} {vl : Nat → Nat}
theorem xq_closure {b n l : Nat} {w : Nat → Nat} {lp : Nat → Bool} (h : gI X z) (hR : relR z St) (hb : b < 20) (hB : hBr z b n l) (hw : ltX 94 z b n l w lp) : Te (fun K => qe_X13_closure K (nI b) z) (fun r => rFl X z 2 r ∧ 12 < l ∨ l ≤ 12 ∧ (rFl X z 3 r ∧ allF St ∨ ∃ e Rs z4, lstF St e ∧ clQ w n l Rs ∧ Rs.length ≤ n ∧ (∀ s, s < n → s ∈ Rs.flatten) ∧ fr (fun g => g = 1 ∨ frK g) z z4 ∧ rKp X z4 e (rgS w lp l Rs) (fun i => !lp i) r)) := by
  have h1 := gI_1 (c := 0) h
  have hR1 := relR_1 (c := 0) hR
  have p1 := hB.1
  have p2 := hB.2.1
  have p3 := hB.2.2.1
  refine e_X13_closure ?_; unfold qm_X13_closure_0
  refine w_wrF (w_hasBX h1.2.2.2.2.2.1 (fun h0 => ?_) (fun c n' l' hc hx hh => w_ifF (by decide) ?_))
  · have := h0 b hb rfl
    have e : (usF z 1 0).2.1 96 b = nI n := hB.2.2.2.1
    rw [e] at this
    exact absurd this (nI_ne0 (by omega) (by omega))
  · have ec : b = c := nI_inj9 (by omega) (by omega) hx
    subst ec
    have e5 : (usF z 1 0).2.1 95 b = nI l := hB.2.2.2.2.1
    refine w_rdI ml95 rfl (by omega) e5 (w_le (b := 12) (by omega) (by omega) (fun h12 => ?_) (fun h12 => w_mono (w_failX (k := 2) h1 fr_1) (fun r hr => Or.inl ⟨hr, h12⟩)))
    refine w_freeX hR1 (fun hall => w_ifT rfl (w_mono (w_failX (k := 3) h1 fr_1) (fun r hr => Or.inr ⟨h12, Or.inl ⟨hr, hall⟩⟩))) (fun f hf => w_ifF (rn_neg1 (by have := hf.1; omega)) ?_)
    have hB1 : hBr (usF z 1 0) b n l := hB
    refine w_cs0 (xr_close hb hB1 (w := w) (lp := lp) hw) ?_
    rintro z4 ⟨f4, Rs, k1, k2, k3, k4, k5⟩
    have hwn : ∀ i, i < l → w i + 1 < n := fun i hi => (hw i hi).1
    have ok := cl_ok (lp := lp) hwn k1 k3
    have hz1 : z4.1 1 = 0 := by
      rw [(f4 1 (by unfold frK; omega)).1]
      exact po_usF_at
    refine w_mono (w_keepX (z0 := z4) (sg2 := fun i => !lp i) (gI_fr f4 (fun g hg => by unfold frK at hg; unfold per; omega) h1) (relR_fr f4 (by unfold frK; omega) hR1) hf hz1 fr_rf k4 k5 (okF_wk (by omega) ok) (by rw [okF_len ok]; omega) (by unfold rgS; rw [List.length_map]; omega)) (fun r hr => Or.inr ⟨h12, Or.inr ⟨f, Rs, z4, hf, k1, k2, k3, ?_, hr⟩⟩)
    exact fr_tr (fr_F rfl |> fr_mono (P := fun g => g = 1) (fun g hg => Or.inl hg)) (fr_mono (fun g hg => Or.inr hg) f4)
theorem xq_closure0 (h : gI X z) (hn : noB (z.2.1 96) x) : Te (fun K => qe_X13_closure K x z) (fun r => rFl X z 1 r) := by
  have h1 := gI_1 (c := 0) h
  refine e_X13_closure ?_; unfold qm_X13_closure_0
  refine w_wrF (w_hasBX h1.2.2.2.2.2.1 (fun h0 => w_ifT rfl (w_failX (k := 1) h1 fr_1)) (fun c n' l' hc hx hh => ?_))
  have h9 := hn c hc hx
  have e : z.2.1 96 c = nI n' := hh.2.2.2.1
  have := hh.1
  have := hh.2.1
  rw [e] at h9
  exact absurd h9 (nI_ne0 (by omega) (by omega))
theorem xc_closure0 (hN : gN y) (hC : relC y St) (hB : brC y) (hn : noB (y.2.1 15) x) : Te (fun K => ce_X11_closure vl K 0 x y) (fun r => r.1 = 1 ∧ r.2.2 = y) := by
  refine e_X11_closure ?_; unfold cm_X11_closure_0
  refine w_tc0 (tc_needBraid (brC_E hB)) ?_ ?_
  · rintro y1 ⟨h1, rfl⟩
    rcases h1 with ⟨-, hb⟩ | h1
    · obtain ⟨b, n, l, hb20, rfl, hn2, hn5, e15, -⟩ := isB_w hB hb
      have := hn b hb20 rfl
      rw [e15] at this
      exact absurd this (nI_ne0 (by omega) (by omega))
    · exact absurd (show (0 : Nat) = 1 from h1.1) (by decide)
  · rintro a y1 ha ⟨h1, rfl⟩
    rcases h1 with h1 | h1
    · exact absurd h1.1 ha
    · exact w_some ⟨h1.1, rfl⟩
theorem xc_closure {b n l : Nat} {w : Nat → Nat} {lp : Nat → Bool} {Rs : List (List Nat)} (hN : gN y) (hC : relC y St) (hS : okS St) (hB : brC y) (hb : b < 20) (hn2 : 2 ≤ n) (hn5 : n ≤ 5) (h15 : y.2.1 15 b = nI n) (hl : l ≤ 16) (h14 : y.2.1 14 b = nI l) (hw : ltX 13 y b n l w lp) : Te (fun K => ce_X11_closure vl K 0 (nI b) y) (fun r => r.1 = 4 ∧ r.2.2 = y ∧ 12 < l ∨ l ≤ 12 ∧ (r.1 = 3 ∧ r.2.2 = y ∧ allF St ∨ r.1 = 0 ∧ ∃ e, lstF St e ∧ (clQ w n l Rs → (∀ s, s < n → s ∈ Rs.flatten) → cKp y e (rgS w lp l Rs) (fun i => !lp i) r.2))) := by
  have hwn : ∀ i, i < l → w i + 1 < n := fun i hi => (hw i hi).1
  refine e_X11_closure ?_; unfold cm_X11_closure_0
  refine w_tc0 (tc_needBraid (brC_E hB)) ?_ ?_
  · rintro y1 ⟨h1, rfl⟩
    refine w_crI ch_14 rfl hb h14 (w_le (b := 12) (by omega) (by omega) (fun h12 => ?_) (fun h12 => w_some (Or.inl ⟨rfl, rfl, h12⟩)))
    refine w_tc1 (xc_free hN.1 hC hS) ?_ ?_
    · rintro v y2 ⟨h2, rfl⟩
      rcases h2 with h2 | ⟨-, e, rfl, he⟩
      · exact absurd (show (0 : Nat) = 3 from h2.1) (by decide)
      · obtain ⟨T, t1, t2⟩ := hN.2.1 4000 nH4
        refine w_crI ch_14 rfl hb h14 (w_crI ch_15 rfl hb h15 ?_)
        rw [m16]
        refine w_cs0 (xc_close t1 t2 hb hn2 hn5 h12 hw) ?_
        rintro y3 ⟨⟨T1, g1, g2, g3, g4, g5, g6⟩, f3⟩
        have hN3 : gN y3 := gN_net nH4 f3 (fun g hg => by unfold clR cP at hg; omega) ⟨T1, g1, g2.2.2.1⟩ hN
        have f3u : fr uP y2 y3 := fr_mono (fun g hg => by unfold clR cP at hg; unfold uP; omega) f3
        refine w_cs1 (tc_keep hN3 he.1 g1 g2) ?_
        rintro r y4 ⟨q0, q1, q2, ⟨Cs, os, q3, q4⟩, q5, -⟩
        subst g3
        refine w_some (Or.inr ⟨h12, Or.inr ⟨rfl, e, he, fun hQ hall => ?_⟩⟩)
        obtain ⟨m1, m2⟩ := cl_pl h12 g2.1 hwn g5 g4
        exact ⟨q0, q1, fr_tr f3u q2, ⟨T1, _, Cs, os, g2, m1, cl_iso h12 g2.1 hwn g5 g4 g6 hQ hall, m2, q3, q4⟩, fun d' C' h1 h2 h3 => q5 d' C' h1 h2 (slC_fr f3 (fun q hq h9 => by unfold cW at hq; unfold clR cP at h9; omega) h3)⟩
    · rintro a v y2 ha ⟨h2, rfl⟩
      rcases h2 with h2 | h2
      · exact w_some (Or.inr ⟨h12, Or.inl ⟨h2.1, rfl, h2.2⟩⟩)
      · exact absurd h2.1 ha
  · rintro a y1 ha ⟨h1, rfl⟩
    rcases h1 with h1 | h1
    · exact absurd h1.1 ha
    · have := h1.2 b hb rfl
      rw [h15] at this
      exact absurd this (nI_ne0 (by omega) (by omega))
/-- both sides, with other frames -/
def bothF (em : List (Nat × Nat)) (X : (Nat → Nat → Int32) → Prop) (P : Nat → Prop) (z y : ow_MS) (rr : Int32 × ow_MS) (rc : Nat × Int32 × ow_MS) : Prop := (∃ St, rel1 X rr.2 rc.2.2 St) ∧ fr P z rr.2 ∧ fr uP y rc.2.2 ∧ ansI em rr rc
theorem ltX_of {b n l : Nat} (hz : hBr z b n l) (hb : b < 20) (h : relB z y) : ∃ w lp, ltX 94 z b n l w lp ∧ ltX 13 y b n l w lp ∧ y.2.1 15 b = nI n ∧ y.2.1 14 b = nI l := by
  obtain ⟨w, lp, hw⟩ := br_let hz
  have p1 := hz.1
  have p2 := hz.2.1
  obtain ⟨k1, k2⟩ := h b hb
  obtain ⟨k3, k4⟩ := k2 (by rw [hz.2.2.2.1]; exact nI_ne0 (by omega) (by omega))
  refine ⟨w, lp, hw, fun i hi => ⟨(hw i hi).1, ?_⟩, k1.symm.trans hz.2.2.2.1, k3.symm.trans hz.2.2.2.2.1⟩
  rw [← k4 l hz.2.2.1 hz.2.2.2.2.1 i hi]
  exact (hw i hi).2
theorem br_cs (hz : gI X z) (x : Int32) : noB (z.2.1 96) x ∨ ∃ b n l, b < 20 ∧ x = nI b ∧ hBr z b n l := by
  by_cases h : ∃ b n l, b < 20 ∧ x = nI b ∧ hBr z b n l
  · exact Or.inr h
  · refine Or.inl (fun b hb e => ?_)
    rcases gBr_h (hz.2.2.2.2.2.1 b hb) with e9 | ⟨n, l, hh⟩
    · exact e9
    · exact absurd ⟨b, n, l, hb, e, hh⟩ h
theorem b_closure (h : rel1 X z y St) (hB : brC y) (hb : relB z y) : Te (fun K => qe_X13_closure K x z) (fun rr => Te (fun K => ce_X11_closure vl K 0 x y) (fun rc => bothF [(1, 1), (2, 4), (3, 3)] X (fun g => g = 120 ∨ rPk g) z y rr rc)) := by
  have up : ∀ {rr rc}, bothI [(1, 1), (2, 4), (3, 3)] X z y rr rc → bothF [(1, 1), (2, 4), (3, 3)] X (fun g => g = 120 ∨ rPk g) z y rr rc := fun ⟨a1, a2, a3, a4⟩ => ⟨a1, fr_mono (fun g hg => Or.inr hg) a2, a3, a4⟩
  rcases br_cs h.1 x with hn | ⟨b, n, l, hb20, rfl, hh⟩
  · refine te_two (xq_closure0 h.1 hn) (xc_closure0 (St := St) h.2.1 h.2.2.2.1 hB (noB_iff hb hn)) (fun rr rc hr hc => up ?_)
    refine bo_fail h hr (by simp) hc.1 ?_ ?_ ?_
    · rw [hc.2]
      exact h.2.1
    · rw [hc.2]
      exact fr_rf
    · rw [hc.2]
      exact h.2.2.2.1
  · obtain ⟨w, lp, w1, w2, w3, w4⟩ := ltX_of hh hb20 hb
    refine w_monoE (xq_closure h.1 h.2.2.1 hb20 hh w1) (fun rr hr => ?_)
    have p1 := hh.1
    have p2 := hh.2.1
    have p3 := hh.2.2.1
    have same : ∀ {j k : Nat} {rc : Nat × Int32 × ow_MS}, rFl X z j rr → (j, k) ∈ [(1, 1), (2, 4), (3, 3)] → rc.1 = k → rc.2.2 = y → bothF [(1, 1), (2, 4), (3, 3)] X (fun g => g = 120 ∨ rPk g) z y rr rc := fun hf hm e1 e2 => up (bo_fail h hf hm e1 (by rw [e2]; exact h.2.1) (by rw [e2]; exact fr_rf) (by rw [e2]; exact h.2.2.2.1))
    rcases hr with ⟨r1, r2⟩ | ⟨r0, hr⟩
    · refine w_monoE (xc_closure (Rs := []) h.2.1 h.2.2.2.1 h.2.2.2.2 hB hb20 p1 p2 w3 p3 w4 w2) (fun rc hc => ?_)
      rcases hc with ⟨c1, c2, -⟩ | ⟨c1, -⟩
      · exact same r1 (by simp) c1 c2
      · omega
    · rcases hr with ⟨r1, r2⟩ | ⟨e, Rs, z4, r1, r2, r3, r4, r5, r6⟩
      · refine w_monoE (xc_closure (Rs := []) h.2.1 h.2.2.2.1 h.2.2.2.2 hB hb20 p1 p2 w3 p3 w4 w2) (fun rc hc => ?_)
        rcases hc with ⟨-, -, c3⟩ | ⟨-, hc⟩
        · omega
        · rcases hc with ⟨c1, c2, -⟩ | ⟨-, f, c1, -⟩
          · exact same r1 (by simp) c1 c2
          · exact (all_lst r2 c1).elim
      · refine w_monoE (xc_closure (Rs := Rs) h.2.1 h.2.2.2.1 h.2.2.2.2 hB hb20 p1 p2 w3 p3 w4 w2) (fun rc hc => ?_)
        rcases hc with ⟨-, -, c3⟩ | ⟨-, hc⟩
        · omega
        · rcases hc with ⟨-, -, c3⟩ | ⟨c0, f, c1, c2⟩
          · exact (all_lst c3 r1).elim
          · have hc := c2 r2 r4
            have ef := lst_uni2 c1 r1
            subst ef
            have hne : rgS w lp l Rs ≠ [] := fun e9 => by
              have h0 := r4 0 (by omega)
              unfold rgS at e9
              rw [List.map_eq_nil_iff.mp e9] at h0
              cases h0
            have hR4 : relR z4 St := relR_fr r5 (by unfold frK; omega) h.2.2.1
            obtain ⟨k1, A', sg', k2, k3, k4⟩ := kp_join h.2.1.1 h.2.2.2.1 hR4 h.2.2.2.2 c1 (by unfold rgS; rw [List.length_map]; omega) hne hc r6
            refine ⟨⟨_, r6.1, hc.2.1, k3, k2, k4⟩, fr_tr (fr_mono (fun g hg => ?_) r5) (fr_mono (fun g hg => Or.inr hg) r6.2.2.2.1), hc.2.2.1, Or.inl ⟨r6.2.2.1, c0, k1.symm⟩⟩
            rcases hg with hg | hg
            · exact Or.inr (Or.inl hg)
            · unfold frK at hg
              rcases hg with hg | hg
              · exact Or.inl hg
              · exact Or.inr (Or.inr (Or.inr (Or.inr (by omega))))
end XCO
/-! what rests on what: the handles that rel2 speaks of -/
def r2Z (g : Nat) : Prop := g = 10 ∨ g = 11 ∨ 20 ≤ g ∧ g ≤ 22 ∨ g = 35 ∨ g = 36 ∨ g = 39 ∨ 94 ≤ g ∧ g ≤ 96
def r2Y (g : Nat) : Prop := 13 ≤ g ∧ g ≤ 15 ∨ g = 11001 ∨ g = 11002 ∨ 2001 ≤ g ∧ g ≤ 3005
theorem rel2_h {P Q : Nat → Prop} {z z1 y y1 : ow_MS} (hz : fr P z z1) (hy : fr Q y y1) (h1 : ∀ g, P g → ¬ r2Z g) (h2 : ∀ g, Q g → ¬ r2Y g) (h : rel2 z y) : rel2 z1 y1 := by
  obtain ⟨k1, k2, k3, ⟨Ms, k4, k5, k6⟩, Ns, k7, k8, k9⟩ := h
  have no : ∀ g, r2Z g → ¬ P g := fun g g1 h9 => h1 g h9 g1
  have no2 : ∀ g, r2Y g → ¬ Q g := fun g g1 h9 => h2 g h9 g1
  refine ⟨relT_k hz hy ⟨no _ (by unfold r2Z; omega), no _ (by unfold r2Z; omega)⟩ ⟨no2 _ (by unfold r2Y; omega), no2 _ (by unfold r2Y; omega)⟩ k1, relB_k hz hy ⟨no _ (by unfold r2Z; omega), no _ (by unfold r2Z; omega), no _ (by unfold r2Z; omega)⟩ ⟨no2 _ (by unfold r2Y; omega), no2 _ (by unfold r2Y; omega), no2 _ (by unfold r2Y; omega)⟩ k2, brC_fr hy ⟨no2 _ (by unfold r2Y; omega), no2 _ (by unfold r2Y; omega), no2 _ (by unfold r2Y; omega)⟩ k3, ⟨Ms, rlR_k hz ⟨no _ (by unfold r2Z; omega), no _ (by unfold r2Z; omega), no _ (by unfold r2Z; omega)⟩ k4, rlC_k hy (fun q hq => no2 q (by unfold cV at hq; unfold r2Y; omega)) k5, k6⟩, Ns, rlR_k hz ⟨no _ (by unfold r2Z; omega), no _ (by unfold r2Z; omega), no _ (by unfold r2Z; omega)⟩ k7, rlC_k hy (fun q hq => no2 q (by unfold cV at hq; unfold r2Y; omega)) k8, k9⟩
theorem c_closure {X : (Nat → Nat → Int32) → Prop} {z y : ow_MS} {vl : Nat → Nat} {x : Int32} (h : rel3 X z y) : Te (fun K => qe_X13_closure K x z) (fun rr => Te (fun K => ce_X11_closure vl K 0 x y) (fun rc => rel3 X rr.2 rc.2.2 ∧ ansI [(1, 1), (2, 4), (3, 3)] rr rc)) := by
  obtain ⟨⟨St, k⟩, hM, h2⟩ := id h
  exact w_monoE (b_closure k h2.2.2.1 h2.2.1) (fun rr hr => w_monoE hr (fun rc ⟨⟨St', b1⟩, b2, b3, b4⟩ => ⟨⟨⟨St', b1⟩, gM_u3 b1.2.1 b3 hM, rel2_h b2 b3 (fun g hg h9 => by unfold rPk rSc at hg; unfold r2Z at h9; omega) (fun g hg h9 => by unfold uP at hg; unfold r2Y at h9; omega) h2⟩, b4⟩))
end
