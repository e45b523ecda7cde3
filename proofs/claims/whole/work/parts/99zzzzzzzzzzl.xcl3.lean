/-! the reference's closed braid, exactly -/
def rgS (w : Nat → Nat) (lp : Nat → Bool) (l : Nat) (Rs : List (List Nat)) : rn_L := Rs.map (fun R => R.flatMap (fun s => rnL w lp s l))
def clQ (w : Nat → Nat) (n l : Nat) (Rs : List (List Nat)) : Prop := Rs.flatten.Nodup ∧ (∀ s, s ∈ Rs.flatten → s < n) ∧ ∀ R, R ∈ Rs → R ≠ [] ∧ ∃ j, opR (fun s => psn w s l) j R j
section RGS
variable {w : Nat → Nat} {lp : Nat → Bool} {n l : Nat}
theorem fmR_nd : ∀ {L : List Nat}, L.Nodup → (L.flatMap (fun s => rnL w lp s l)).Nodup
  | [], _ => List.nodup_nil
  | a :: L, h => by
    rw [List.flatMap_cons]
    obtain ⟨h1, h2⟩ := List.nodup_cons.mp h
    refine List.nodup_append.mpr ⟨rnL_nd l, fmR_nd h2, fun p hp q hq e => ?_⟩
    obtain ⟨t, ht, hq2⟩ := List.mem_flatMap.mp hq
    rw [e] at hp
    have e2 := rnL_uni hp hq2
    rw [← e2] at ht
    exact h1 ht
theorem fmR_in {L : List Nat} {p : vT} (hp : p ∈ L.flatMap (fun s => rnL w lp s l)) : p.1 < l ∧ p.2 < 2 := by
  obtain ⟨t, ht, h2⟩ := List.mem_flatMap.mp hp
  obtain ⟨a1, a2, a3⟩ := rnL_mem.mp h2
  exact ⟨a1, by rw [a3]; exact ubn_lt⟩
theorem fmR_len {L : List Nat} (h : L.Nodup) : (L.flatMap (fun s => rnL w lp s l)).length ≤ 2 * l := by
  have h1 := nodup_le _ (aL l).flatten (fmR_nd (w := w) (lp := lp) (l := l) h) (fun p hp => ((aL_ok l).2 p).mpr (fmR_in hp))
  rw [aL_len] at h1
  exact h1
theorem rgS_fl : ∀ Rs : List (List Nat), (rgS w lp l Rs).flatten = Rs.flatten.flatMap (fun s => rnL w lp s l)
  | [] => rfl
  | R :: Rs => by
    have h1 := rgS_fl Rs
    show (R.flatMap (fun s => rnL w lp s l) :: rgS w lp l Rs).flatten = _
    rw [List.flatten_cons, List.flatten_cons, List.flatMap_append, h1]
theorem cyc_pre {π : Nat → Nat} {j x : Nat} {R : List Nat} (hne : R ≠ []) (h : opR π j R j) (hx : x ∈ R) : ∃ c, c ∈ R ∧ π c = x := by
  by_cases e : x = j
  · rcases List.eq_nil_or_concat R with q | ⟨X, c, q⟩
    · exact absurd q hne
    · rw [List.concat_eq_append] at q
      exact ⟨c, by rw [q]; simp, (h.2.1 X c q).trans e.symm⟩
  · exact opR_pre h hx e
theorem clQ_pre {Rs : List (List Nat)} (h : clQ w n l Rs) {a : Nat} (ha : psn w a l ∈ Rs.flatten) : a ∈ Rs.flatten := by
  obtain ⟨R, hR, hx⟩ := List.mem_flatten.mp ha
  obtain ⟨h1, j, h2⟩ := h.2.2 R hR
  obtain ⟨c, c1, c2⟩ := cyc_pre h1 h2 hx
  have e : c = a := psn_inj l c2
  rw [← e]
  exact List.mem_flatten.mpr ⟨R, hR, c1⟩
end RGS
section XRC
variable {X : (Nat → Nat → Int32) → Prop} {z : ow_MS}
theorem xr_run {b n l s : Nat} {w : Nat → Nat} {lp : Nat → Bool} {A : rn_L} {B : List vT} (hb : b < 20) (hB : hBr z b n l) (hw : ltX 94 z b n l w lp) (hs : s < n) (hA : rn_At z 3000 A B) (hG : rn_sg z 3000 (A.flatten ++ B) (fun i => !lp i)) (hlen : (A.flatten ++ B).length + (rnL w lp s l).length ≤ 39) : Te (fun K => qe_X13_run K (nI b) (nI s) z) (fun r => r.1 = nI (psn w s l) ∧ fr (fun g => 3001 ≤ g ∧ g ≤ 3006) z r.2 ∧ rn_At r.2 3000 A (B ++ rnL w lp s l) ∧ rn_sg r.2 3000 (A.flatten ++ (B ++ rnL w lp s l)) (fun i => !lp i)) := by
  obtain ⟨p1, p2, p3, p4, p5, p6⟩ := hB
  let Q : Int32 × ow_MS → Prop := fun r => r.1 = nI (psn w s l) ∧ fr (fun g => 3001 ≤ g ∧ g ≤ 3006) z r.2 ∧ rn_At r.2 3000 A (B ++ rnL w lp s l) ∧ rn_sg r.2 3000 (A.flatten ++ (B ++ rnL w lp s l)) (fun i => !lp i)
  have key : ∀ (d k : Nat) (y : ow_MS), k + d = l → fr (fun g => 3001 ≤ g ∧ g ≤ 3006) z y → rn_At y 3000 A (B ++ rnL w lp s k) → rn_sg y 3000 (A.flatten ++ (B ++ rnL w lp s k)) (fun i => !lp i) → Tt (fun K i9 => q_X13_run K i9 1 (nI b) (nI s) (nI (psn w s k)) (nI k) 0 0 0 0 0 y) Q := by
    intro d
    induction d with
    | zero =>
      intro k y hk hf ha hg
      have hkl : k = l := by omega
      rw [hkl] at ha hg ⊢
      refine u_X13_run_1 ?_; unfold qm_X13_run_1
      exact w_rdI ml95 rfl (by omega) (x := nI l) (by rw [(hf 95 (by omega)).2.1]; exact p5) (w_leT (by omega) (Nat.le_refl _) (w_some ⟨rfl, hf, ha, hg⟩))
    | succ d ih =>
      intro k y hk hf ha hg
      have hkl : k < l := by omega
      obtain ⟨w1, w2⟩ := hw k hkl
      have hps := psn_lt (w := w) hs k (fun j hj => (hw j (by omega)).1)
      obtain ⟨x, hx⟩ : ∃ x, x = z.2.1 94 (16 * b + k) := ⟨_, rfl⟩
      have ex : y.2.1 94 (16 * b + k) = x := by rw [(hf 94 (by omega)).2.1, hx]
      rw [← hx] at w2
      have eab : (if 0 ≤ x then x else 0 - x) - 1 = nI (w k) := by
        cases hl : lp k with
        | true =>
          rw [hl] at w2
          have w2 : x = nI (w k + 1) := w2
          rw [w2, if_pos (nI_pos' (by omega))]
          exact nI_pred _
        | false =>
          rw [hl] at w2
          have w2 : x = -1 - nI (w k) := w2
          rw [w2, if_neg (Int32.not_le.mpr (neg_lt (by omega))), i32_b]
          have := nI_pred (w k)
          rw [nI_succ] at this
          exact this
      have xpos : x ≤ 0 ↔ lp k = false := by
        cases hl : lp k with
        | true =>
          rw [hl] at w2
          have w2 : x = nI (w k + 1) := w2
          rw [w2]
          exact ⟨fun h9 => absurd h9 (nI_nle (by omega) (by omega)), fun h9 => by cases h9⟩
        | false =>
          rw [hl] at w2
          have w2 : x = -1 - nI (w k) := w2
          rw [w2]
          exact ⟨fun _ => rfl, fun _ => Int32.le_of_lt (neg_lt (by omega))⟩
      have c7 : ∀ (x5 x6 : Int32) (y2 : ow_MS), fr (fun g => 3001 ≤ g ∧ g ≤ 3006) z y2 → rn_At y2 3000 A (B ++ rnL w lp s (k + 1)) → rn_sg y2 3000 (A.flatten ++ (B ++ rnL w lp s (k + 1))) (fun i => !lp i) → Tt (fun K i9 => q_X13_run K i9 7 (nI b) (nI s) (nI (psn w s (k + 1))) (nI k) x5 x6 0 0 0 y2) Q := by
        intro x5 x6 y2 hf2 hb2 hs2
        refine u_X13_run_7 ?_; unfold qm_X13_run_7
        rw [nI_1]
        exact ih (k + 1) y2 (by omega) hf2 hb2 hs2
      have c2 : onL w s k → Tt (fun K i9 => q_X13_run K i9 2 (nI b) (nI s) (nI (psn w s k)) (nI k) x (nI (w k)) 0 0 0 y) Q := by
        intro hon
        have c6 : ∀ (t0 : Int32) (y2 : ow_MS), t0 = (if (!lp k) = true then -1 else 1) → fr (fun g => 3001 ≤ g ∧ g ≤ 3006) z y2 → y2.2.1 3006 = y.2.1 3006 → rn_At y2 3000 A (B ++ rnL w lp s (k + 1)) → Tt (fun K i9 => q_X13_run K i9 6 (nI b) (nI s) (nI (psn w s k)) (nI k) x (nI (w k)) t0 (nI k) 0 y2) Q := by
          intro t0 y2 ht0 hf2 e6 hb2
          refine u_X13_run_6 ?_; unfold qm_X13_run_6
          refine w_wrI (pl6 pn3) rfl (by omega) ?_
          have ep : 2 * nI (w k) + 1 - nI (psn w s k) = nI (psn w s (k + 1)) := by
            rw [rn_mul2, nI_1, pk_sub (by rcases hon with h9 | h9 <;> omega)]
            congr 1
            show _ = sw2 (w k) (w k + 1) (psn w s k)
            unfold sw2
            rcases hon with h9 | h9
            · rw [if_pos h9]; omega
            · rw [if_neg (by omega), if_pos h9]; omega
          rw [ep]
          refine c7 _ _ _ (fr_I2 hf2 (by omega)) (fr_At (P := fun g => g = 3006) (fr_I rfl) (fun g hg => by omega) hb2) (fun p hp => ?_)
          show (usI y2 3006 k t0).2.1 3006 p.1 = if (!lp p.1) = true then -1 else 1
          by_cases hpk : p.1 = k
          · rw [hpk, po_usI_at]
            exact ht0
          · rw [po_usI_ne hpk, e6]
            refine hg p ?_
            rw [rnL_on hon, ← List.append_assoc, ← List.append_assoc] at hp
            rcases List.mem_append.mp hp with h9 | h9
            · rw [List.append_assoc] at h9
              exact h9
            · rw [List.mem_singleton.mp h9] at hpk
              exact absurd rfl hpk
        have c5 : ∀ (t0 : Int32), t0 = nI (ubn w lp s k) → Tt (fun K i9 => q_X13_run K i9 5 (nI b) (nI s) (nI (psn w s k)) (nI k) x (nI (w k)) t0 (nI k) 0 y) Q := by
          intro t0 ht0
          rw [ht0]
          have hle := rnL_le (w := w) (lp := lp) (s := s) (l - k) k
          rw [show k + (l - k) = l by omega] at hle
          refine u_X13_run_5 ?_; unfold qm_X13_run_5
          refine w_cs0 (tn_add (x := k) (u := ubn w lp s k) pn3 ha (by rw [← List.append_assoc, List.length_append]; omega)) (fun y2 ⟨g1, g2⟩ => ?_)
          have hf2 : fr (fun g => 3001 ≤ g ∧ g ≤ 3006) z y2 := fr_tr hf (fr_mono (fun g hg => by omega) g2)
          have e6 : y2.2.1 3006 = y.2.1 3006 := (g2 3006 (by omega)).2.1
          rw [List.append_assoc, ← rnL_on hon] at g1
          refine w_if (fun h9 => c6 _ y2 ?_ hf2 e6 g1) (fun h9 => c6 _ y2 ?_ hf2 e6 g1)
          · rw [xpos.mp h9]
            rfl
          · cases hl : lp k with
            | true => rfl
            | false => exact absurd (xpos.mpr hl) h9
        have c3 : ∀ (eqb : Bool), decide (psn w s k = w k) = eqb → Tt (fun K i9 => q_X13_run K i9 3 (nI b) (nI s) (nI (psn w s k)) (nI k) x (nI (w k)) (bZ eqb) (nI k) 0 y) Q := by
          intro eqb heq
          have eu : ubn w lp s k = if eqb = lp k then 0 else 1 := by
            unfold ubn
            rw [heq]
          have c4 : ∀ (pb : Bool), lp k = pb → Tt (fun K i9 => q_X13_run K i9 4 (nI b) (nI s) (nI (psn w s k)) (nI k) x (nI (w k)) (bZ pb) (bZ eqb) (nI k) y) Q := by
            intro pb hpb
            rw [hpb] at eu
            refine u_X13_run_4 ?_; unfold qm_X13_run_4
            refine w_if (fun h9 => c5 0 ?_) (fun h9 => c5 1 ?_)
            · have : eqb = pb := by
                cases eqb <;> cases pb <;> first | rfl | exact absurd h9 (by decide)
              rw [eu, if_pos this]
              rfl
            · have : eqb ≠ pb := fun e => h9 (by rw [e])
              rw [eu, if_neg this]
              rfl
          refine u_X13_run_3 ?_; unfold qm_X13_run_3
          refine w_if (fun h9 => c4 false (xpos.mp h9)) (fun h9 => c4 true ?_)
          cases hl : lp k with
          | true => rfl
          | false => exact absurd (xpos.mpr hl) h9
        refine u_X13_run_2 ?_; unfold qm_X13_run_2
        exact w_eqN (by omega) (by omega) (fun h9 => c3 true (decide_eq_true h9)) (fun h9 => c3 false (decide_eq_false h9))
      refine u_X13_run_1 ?_; unfold qm_X13_run_1
      rw [show (16 : Int32) * nI b = nI (16 * b) from pk_mul 16 b, nI_add]
      refine w_rdI ml95 rfl (by omega) (x := nI l) (by rw [(hf 95 (by omega)).2.1]; exact p5) (w_leF (by omega) (by omega) (w_rdI ml94 rfl (by omega) ex ?_))
      rw [eab, nI_1]
      refine w_eqN (by omega) (by omega) (fun h9 => c2 (Or.inl h9)) (fun h9 => w_eqN (by omega) (by omega) (fun h8 => c2 (Or.inr h8)) (fun h8 => ?_))
      have hnon : ¬ onL w s k := fun h7 => h7.elim h9 h8
      obtain ⟨er, ep⟩ := rnL_off (lp := lp) hnon
      rw [← ep]
      exact c7 _ _ y hf (by rw [er]; exact ha) (by rw [er]; exact hg)
  refine e_X13_run ?_
  refine u_X13_run_0 ?_; unfold qm_X13_run_0
  refine key l 0 z (by omega) fr_rf ?_ ?_
  · show rn_At z 3000 A (B ++ [])
    rw [List.append_nil]
    exact hA
  · show rn_sg z 3000 (A.flatten ++ (B ++ [])) _
    rw [List.append_nil]
    exact hG
theorem xr_close {b n l : Nat} {w : Nat → Nat} {lp : Nat → Bool} (hb : b < 20) (hB : hBr z b n l) (hw : ltX 94 z b n l w lp) : Te (fun K => qe_X13_close K (nI b) z) (fun z1 => fr frK z z1 ∧ ∃ Rs, clQ w n l Rs ∧ Rs.length ≤ n ∧ (∀ s, s < n → s ∈ Rs.flatten) ∧ rn_At z1 3000 (rgS w lp l Rs) [] ∧ rn_sg z1 3000 (rgS w lp l Rs).flatten (fun i => !lp i)) := by
  have p1 := hB.1
  have p2 := hB.2.1
  have p3 := hB.2.2.1
  have hwn : ∀ i, i < l → w i + 1 < n := fun i hi => (hw i hi).1
  let Q : ow_MS → Prop := fun z1 => fr frK z z1 ∧ ∃ Rs, clQ w n l Rs ∧ Rs.length ≤ n ∧ (∀ s, s < n → s ∈ Rs.flatten) ∧ rn_At z1 3000 (rgS w lp l Rs) [] ∧ rn_sg z1 3000 (rgS w lp l Rs).flatten (fun i => !lp i)
  have bY : ∀ {y : ow_MS}, fr frK z y → hBr y b n l := fun hf => hBr_fr hf (by unfold frK; omega) (by unfold frK; omega) (by unfold frK; omega) hB
  have wY : ∀ {y : ow_MS}, fr frK z y → ltX 94 y b n l w lp := fun hf i hi => ⟨(hw i hi).1, by rw [(hf 94 (by unfold frK; omega)).2.1]; exact (hw i hi).2⟩
  have l2 : ∀ (k j : Nat) (Rs : List (List Nat)) (y : ow_MS), j + k = n → Rs.length ≤ j → fr frK z y → clQ w n l Rs → fD y n (fun s => s ∈ Rs.flatten) → (∀ s, s < j → s ∈ Rs.flatten) → rn_At y 3000 (rgS w lp l Rs) [] → rn_sg y 3000 (rgS w lp l Rs).flatten (fun i => !lp i) → Tt (fun K i => q_X13_close K i 2 (nI b) (nI j) 0 y) Q := by
    intro k
    induction k with
    | zero =>
      intro j Rs y hj hq hf hcl hfd hall ha hg
      refine u_X13_close_2 ?_; unfold qm_X13_close_2
      exact w_rdI ml96 rfl (by omega) (bY hf).2.2.2.1 (w_leT (by omega) (by omega) (w_some ⟨hf, Rs, hcl, by omega, fun s hs => hall s (by omega), ha, hg⟩))
    | succ k ih =>
      intro j Rs y hj hq hf hcl hfd hall ha hg
      have hjn : j < n := by omega
      have c4 : ∀ (Rs2 : List (List Nat)) (y2 : ow_MS), Rs2.length ≤ j + 1 → fr frK z y2 → clQ w n l Rs2 → fD y2 n (fun s => s ∈ Rs2.flatten) → (∀ s, s < j + 1 → s ∈ Rs2.flatten) → rn_At y2 3000 (rgS w lp l Rs2) [] → rn_sg y2 3000 (rgS w lp l Rs2).flatten (fun i => !lp i) → Tt (fun K i => q_X13_close K i 4 (nI b) (nI j) 0 y2) Q := by
        intro Rs2 y2 hq2 hf2 hcl2 hfd2 hall2 ha2 hg2
        refine u_X13_close_4 ?_; unfold qm_X13_close_4
        rw [nI_1]
        exact ih (j + 1) Rs2 y2 (by omega) hq2 hf2 hcl2 hfd2 hall2 ha2 hg2
      have l3 : ∀ (d a : Nat) (R : List Nat) (y : ow_MS), R.length + d = n → opR (fun s => psn w s l) j R a → (Rs.flatten ++ R).Nodup → (∀ s, s ∈ R → s < n) → a < n → a ∉ Rs.flatten ++ R → fr frK z y → fD y n (fun s => s ∈ Rs.flatten ++ R) → rn_At y 3000 (rgS w lp l Rs) (R.flatMap (fun s => rnL w lp s l)) → rn_sg y 3000 ((rgS w lp l Rs).flatten ++ R.flatMap (fun s => rnL w lp s l)) (fun i => !lp i) → Tt (fun K i => q_X13_close K i 3 (nI b) (nI j) (nI a) y) Q := by
        intro d
        induction d with
        | zero =>
          intro a R y ht hop hnd hRn han hno hf hfd ha hg
          exfalso
          have nd : (a :: R).Nodup := List.nodup_cons.mpr ⟨fun h9 => hno (List.mem_append_right _ h9), (List.nodup_append.mp hnd).2.1⟩
          have := nodup_le _ (List.range n) nd (fun s hs => by
            rcases List.mem_cons.mp hs with h9 | h9
            · rw [h9]
              exact List.mem_range.mpr han
            · exact List.mem_range.mpr (hRn s h9))
          rw [List.length_cons, List.length_range] at this
          omega
        | succ d ihd =>
          intro a R y ht hop hnd hRn han hno hf hfd ha hg
          have f1 : fr (fun g => g = 120) y (usI y 120 a (vp_nar .boolean 1)) := fr_I rfl
          have hf1 : fr frK z (usI y 120 a (vp_nar .boolean 1)) := fr_tr hf (fr_mono (fun g hg => Or.inl hg) f1)
          have nd2 : (Rs.flatten ++ (R ++ [a])).Nodup := by
            rw [← List.append_assoc]
            refine List.nodup_append.mpr ⟨hnd, List.nodup_cons.mpr ⟨List.not_mem_nil, List.nodup_nil⟩, fun s hs t ht9 e => ?_⟩
            rw [List.mem_singleton.mp ht9] at e
            rw [e] at hs
            exact hno hs
          have hlen := fmR_len (w := w) (lp := lp) (l := l) nd2
          rw [List.flatMap_append, List.flatMap_append, ← rgS_fl, List.length_append, List.length_append, List.flatMap_cons, List.flatMap_nil, List.append_nil] at hlen
          refine u_X13_close_3 ?_; unfold qm_X13_close_3
          refine w_wrZ ml120 rfl (by omega) (w_cs1 (xr_run hb (bY hf1) (wY hf1) han (fr_At (P := fun g => g = 120) f1 (fun g hg => by omega) ha) (fun p hp => by
            rw [po_usI_ot (by decide)]
            exact hg p hp) (by rw [List.length_append]; omega)) (fun v y2 ⟨r1, r2, r3, r4⟩ => ?_))
          have r1 : v = nI (psn w a l) := r1
          have r2 : fr (fun g => 3001 ≤ g ∧ g ≤ 3006) (usI y 120 a (vp_nar .boolean 1)) y2 := r2
          have hf2 : fr frK z y2 := fr_tr hf1 (fr_mono (fun g hg => Or.inr hg) r2)
          have hal : psn w a l < n := psn_lt han l hwn
          have eF : (R ++ [a]).flatMap (fun s => rnL w lp s l) = R.flatMap (fun s => rnL w lp s l) ++ rnL w lp a l := by
            rw [List.flatMap_append, List.flatMap_cons, List.flatMap_nil, List.append_nil]
          have r3 : rn_At y2 3000 (rgS w lp l Rs) ((R ++ [a]).flatMap (fun s => rnL w lp s l)) := by rw [eF]; exact r3
          have r4 : rn_sg y2 3000 ((rgS w lp l Rs).flatten ++ (R ++ [a]).flatMap (fun s => rnL w lp s l)) (fun i => !lp i) := by rw [eF]; exact r4
          have hop2 := opR_snoc hop
          have hop2 : opR (fun s => psn w s l) j (R ++ [a]) (psn w a l) := hop2
          have hRn2 : ∀ s, s ∈ R ++ [a] → s < n := fun s hs => by
            rcases List.mem_append.mp hs with h9 | h9
            · exact hRn s h9
            · rw [List.mem_singleton.mp h9]
              exact han
          have hfd2 : fD y2 n (fun s => s ∈ Rs.flatten ++ (R ++ [a])) := by
            intro s hs
            rw [(r2 120 (by omega)).2.1]
            by_cases hsa : s = a
            · exact Or.inl ⟨by rw [hsa]; exact po_usI_at, by rw [hsa]; simp⟩
            · rw [po_usI_ne hsa]
              rcases hfd s hs with ⟨g1, g2⟩ | ⟨g1, g2⟩
              · refine Or.inl ⟨g1, ?_⟩
                rw [← List.append_assoc]
                exact List.mem_append_left _ g2
              · refine Or.inr ⟨g1, fun h9 => ?_⟩
                rw [← List.append_assoc] at h9
                rcases List.mem_append.mp h9 with h8 | h8
                · exact g2 h8
                · exact hsa (List.mem_singleton.mp h8)
          rw [r1]
          refine w_eqN (by omega) (by omega) (fun hret => w_cs0 (tn_end pn3 r3 (by unfold rgS; rw [List.length_map]; omega)) (fun y3 ⟨k1, k2⟩ => ?_)) (fun hret => ihd (psn w a l) (R ++ [a]) y2 (by rw [List.length_append]; show R.length + 1 + d = n; omega) hop2 nd2 hRn2 hal (fun h9 => ?_) hf2 hfd2 r3 r4)
          · have eR : rgS w lp l Rs ++ [(R ++ [a]).flatMap (fun s => rnL w lp s l)] = rgS w lp l (Rs ++ [R ++ [a]]) := by
              unfold rgS
              rw [List.map_append]
              rfl
            have eFl : (Rs ++ [R ++ [a]]).flatten = Rs.flatten ++ (R ++ [a]) := by
              rw [List.flatten_append, List.flatten_cons, List.flatten_nil, List.append_nil]
            rw [eR] at k1
            rw [hret] at hop2
            refine c4 (Rs ++ [R ++ [a]]) y3 (by rw [List.length_append]; show Rs.length + 1 ≤ _; omega) (fr_tr hf2 (fr_mono (fun g hg => Or.inr (by omega)) k2)) ⟨by rw [eFl]; exact nd2, fun s hs => ?_, fun R' hR' => ?_⟩ (fun s hs => by rw [eFl, (k2 120 (by omega)).2.1]; exact hfd2 s hs) (fun s hs => ?_) k1 (fun p hp => ?_)
            · rw [eFl] at hs
              rcases List.mem_append.mp hs with h9 | h9
              · exact hcl.2.1 s h9
              · exact hRn2 s h9
            · rcases List.mem_append.mp hR' with h9 | h9
              · exact hcl.2.2 R' h9
              · rw [List.mem_singleton.mp h9]
                exact ⟨by simp, j, hop2⟩
            · rw [eFl]
              by_cases hsj : s = j
              · refine List.mem_append_right _ ?_
                rw [hsj]
                cases R with
                | nil =>
                  rw [hop.2.2.1 rfl]
                  exact List.mem_singleton.mpr rfl
                | cons r R' =>
                  rw [hop.2.2.2 r R' rfl]
                  simp
              · exact List.mem_append_left _ (hall s (by omega))
            · rw [(k2 3006 (by omega)).2.1]
              refine r4 p ?_
              rw [← eR, List.flatten_append, List.flatten_cons, List.flatten_nil, List.append_nil] at hp
              exact hp
          · rcases List.mem_append.mp h9 with h8 | h8
            · exact hno (List.mem_append_left _ (clQ_pre hcl h8))
            · obtain ⟨c, c1, c2⟩ := opR_pre hop2 h8 hret
              have ec : c = a := psn_inj l c2
              -- its predecessor in the row is not the last one
              obtain ⟨X1, Y1, e1⟩ := List.append_of_mem h8
              rcases List.eq_nil_or_concat X1 with q | ⟨X2, c3, q⟩
              · rw [q] at e1
                exact hret (hop2.2.2.2 _ _ e1)
              · rw [List.concat_eq_append] at q
                have e2 : R ++ [a] = X2 ++ c3 :: psn w a l :: Y1 := by rw [e1, q]; simp
                have e3 : c3 = a := psn_inj l (hop2.1 _ _ _ _ e2)
                rcases snoc2 e2 with ⟨-, q1, -⟩ | ⟨Y', -, q1⟩
                · exact hno (List.mem_append_right _ (by rw [q1, e3]; simp))
                · exact hno (List.mem_append_right _ (by rw [q1, e3]; simp))
      refine u_X13_close_2 ?_; unfold qm_X13_close_2
      refine w_rdI ml96 rfl (by omega) (bY hf).2.2.2.1 (w_leF (by omega) (by omega) (w_rdI ml120 rfl (by omega) rfl ?_))
      rcases hfd j hjn with ⟨g1, g2⟩ | ⟨g1, g2⟩
      · refine w_ifF (by rw [g1]; decide) (c4 Rs y (by omega) hf hcl hfd (fun s hs => ?_) ha hg)
        by_cases hsj : s = j
        · rw [hsj]; exact g2
        · exact hall s (by omega)
      · refine w_ifT g1 (l3 n j [] y (by show 0 + n = n; omega) opR_nil (by rw [List.append_nil]; exact hcl.1) (fun s hs => (by cases hs)) hjn (by rw [List.append_nil]; exact g2) hf (fun s hs => by rw [List.append_nil]; exact hfd s hs) ha (by
          show rn_sg y 3000 ((rgS w lp l Rs).flatten ++ []) _
          rw [List.append_nil]
          exact hg))
  have l1 : ∀ (k j : Nat) (y : ow_MS), j + k = 5 → fr frK z y → rn_At y 3000 [] [] → (∀ s, s < j → y.2.1 120 s = 0) → Tt (fun K i => q_X13_close K i 1 (nI b) (nI j) 0 y) Q := by
    intro k
    induction k with
    | zero =>
      intro j y hj hf ha h0
      refine u_X13_close_1 ?_; unfold qm_X13_close_1
      refine w_leT (a := 5) (by omega) (by omega) (l2 n 0 [] y (by omega) (Nat.le_refl _) hf ⟨List.nodup_nil, fun s hs => (by cases hs), fun R hR => (by cases hR)⟩ (fun s hs => Or.inr ⟨h0 s (by omega), fun h9 => (by cases h9)⟩) (fun s hs => by omega) ha (fun p hp => (by cases hp)))
    | succ k ih =>
      intro j y hj hf ha h0
      refine u_X13_close_1 ?_; unfold qm_X13_close_1
      rw [nI_1]
      refine w_leF (a := 5) (by omega) (by omega) (w_wrZ ml120 rfl (by omega) (ih (j + 1) _ (by omega) (fr_I2 hf (Or.inl rfl)) (fr_At (P := fun g => g = 120) (fr_I rfl) (fun g hg => by omega) ha) (fun s hs => ?_)))
      by_cases hsj : s = j
      · rw [hsj]
        exact po_usI_at
      · exact rd_ne hsj (h0 s (by omega))
  refine e_X13_close ?_
  refine u_X13_close_0 ?_; unfold qm_X13_close_0
  exact w_cs0 (tn_clear pn3) (fun y ⟨g1, g2⟩ => l1 5 0 y (by omega) (fr_mono (fun g hg => Or.inr (by omega)) g2) g1 (fun s hs => by omega))
end XRC
