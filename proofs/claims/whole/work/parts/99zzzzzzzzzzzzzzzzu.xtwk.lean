/-! two: the reference's skein, exactly -/
def sgt9 (t : Nat) : Int := if t % 2 = 0 then 1 else -1
def tmz (k : Nat) : Nat → pz9
  | 0 => fun _ _ => 0
  | t + 1 => fun p q => tmz k t p q + (if p = 2 * (t : Int) - k ∧ q = -(k : Int) then sgt9 t * (binN k t : Int) else 0)
theorem sgt9_s (t : Nat) : sgt9 (t + 1) = -sgt9 t := by
  unfold sgt9
  by_cases h : t % 2 = 0
  · rw [if_pos h, if_neg (by omega)]
  · rw [if_neg h, if_pos (by omega)]
    decide
theorem tmz_cr (k : Nat) : ∀ (m : Nat) (p q : Int), tmz (k + 1) (m + 1) p q = (tmz k m (p + 1) (q + 1) - tmz k m (p - 1) (q + 1)) + (if p = 2 * (m : Int) - ((k : Int) + 1) ∧ q = -((k : Int) + 1) then sgt9 m * (binN k m : Int) else 0)
  | 0, p, q => by
    show (0 : Int) + (if p = 2 * ((0 : Nat) : Int) - ((k + 1 : Nat) : Int) ∧ q = -((k + 1 : Nat) : Int) then sgt9 0 * (binN (k + 1) 0 : Int) else 0) = ((0 : Int) - 0) + (if p = 2 * ((0 : Nat) : Int) - ((k : Int) + 1) ∧ q = -((k : Int) + 1) then sgt9 0 * (binN k 0 : Int) else 0)
    rw [binN_z, binN_z]
    by_cases c : p = 2 * ((0 : Nat) : Int) - ((k : Int) + 1) ∧ q = -((k : Int) + 1)
    · rw [if_pos c, if_pos ⟨by omega, by omega⟩]
      rfl
    · rw [if_neg c, if_neg (fun h => c ⟨by omega, by omega⟩)]
      rfl
  | m + 1, p, q => by
    have ih := tmz_cr k m p q
    show tmz (k + 1) (m + 1) p q + (if p = 2 * ((m + 1 : Nat) : Int) - ((k + 1 : Nat) : Int) ∧ q = -((k + 1 : Nat) : Int) then sgt9 (m + 1) * (binN (k + 1) (m + 1) : Int) else 0) = ((tmz k m (p + 1) (q + 1) + (if p + 1 = 2 * (m : Int) - k ∧ q + 1 = -(k : Int) then sgt9 m * (binN k m : Int) else 0)) - (tmz k m (p - 1) (q + 1) + (if p - 1 = 2 * (m : Int) - k ∧ q + 1 = -(k : Int) then sgt9 m * (binN k m : Int) else 0))) + (if p = 2 * ((m + 1 : Nat) : Int) - ((k : Int) + 1) ∧ q = -((k : Int) + 1) then sgt9 (m + 1) * (binN k (m + 1) : Int) else 0)
    rw [ih]
    have eb : sgt9 (m + 1) * ((binN (k + 1) (m + 1) : Nat) : Int) = -(sgt9 m * (binN k m : Int)) + sgt9 (m + 1) * (binN k (m + 1) : Int) := by
      show sgt9 (m + 1) * ((binN k m + binN k (m + 1) : Nat) : Int) = _
      rw [Int.natCast_add, Int.mul_add, sgt9_s, Int.neg_mul]
    rw [eb]
    generalize sgt9 m * (binN k m : Int) = X
    generalize sgt9 (m + 1) * (binN k (m + 1) : Int) = Y
    generalize tmz k m (p + 1) (q + 1) = u
    generalize tmz k m (p - 1) (q + 1) = v
    by_cases cq : q = -((k : Int) + 1)
    · by_cases c1 : p = 2 * (m : Int) - ((k : Int) + 1)
      · rw [if_pos ⟨c1, cq⟩, if_neg (fun h => by omega), if_pos (show p + 1 = 2 * (m : Int) - k ∧ q + 1 = -(k : Int) from ⟨by omega, by omega⟩), if_neg (fun h => by omega), if_neg (fun h => by omega)]
        omega
      · by_cases c2 : p = 2 * ((m + 1 : Nat) : Int) - ((k : Int) + 1)
        · rw [if_neg (fun h => c1 h.1), if_pos (show p = 2 * ((m + 1 : Nat) : Int) - ((k + 1 : Nat) : Int) ∧ q = -((k + 1 : Nat) : Int) from ⟨by omega, by omega⟩), if_neg (fun h => by omega), if_pos (show p - 1 = 2 * (m : Int) - k ∧ q + 1 = -(k : Int) from ⟨by omega, by omega⟩), if_pos ⟨c2, cq⟩]
          omega
        · rw [if_neg (fun h => c1 h.1), if_neg (fun h => c2 (by omega)), if_neg (fun h => c1 (by omega)), if_neg (fun h => c2 (by omega)), if_neg (fun h => c2 h.1)]
          omega
    · rw [if_neg (fun h => cq h.2), if_neg (fun h => cq (by omega)), if_neg (fun h => cq (by omega)), if_neg (fun h => cq (by omega)), if_neg (fun h => cq h.2)]
      omega
theorem tmz_l : ∀ (k : Nat) (p q : Int), tmz k (k + 1) p q = lfz k p q
  | 0, p, q => by
    show (0 : Int) + (if p = 2 * ((0 : Nat) : Int) - ((0 : Nat) : Int) ∧ q = -((0 : Nat) : Int) then sgt9 0 * (binN 0 0 : Int) else 0) = (if p = 0 ∧ q = 0 then 1 else 0)
    by_cases c : p = 0 ∧ q = 0
    · rw [if_pos c, if_pos ⟨by omega, by omega⟩]
      rfl
    · rw [if_neg c, if_neg (fun h => c ⟨by omega, by omega⟩)]
      rfl
  | k + 1, p, q => by
    rw [tmz_cr k (k + 1) p q, binN_0 (Nat.lt_succ_self k), tmz_l k, tmz_l k]
    show _ + (if p = 2 * ((k + 1 : Nat) : Int) - ((k : Int) + 1) ∧ q = -((k : Int) + 1) then sgt9 (k + 1) * (0 : Int) else 0) = lfz k (p + 1) (q + 1) - lfz k (p - 1) (q + 1)
    rw [Int.mul_zero]
    split
    · omega
    · omega
theorem lf_tab : ∀ m : Fin 18, ∀ t : Fin 18, t.val ≤ m.val → (Int64.ofInt (1 * (binN m.val t.val : Int)) * (nI m.val - nI t.val).toInt64) / (nI (t.val + 1)).toInt64 = Int64.ofInt (1 * (binN m.val (t.val + 1) : Int)) ∧ (Int64.ofInt (-1 * (binN m.val t.val : Int)) * (nI m.val - nI t.val).toInt64) / (nI (t.val + 1)).toInt64 = Int64.ofInt (-1 * (binN m.val (t.val + 1) : Int)) := by decide +kernel
theorem lf_par : ∀ t : Fin 18, (nI t.val &&& 1) = 0 ↔ t.val % 2 = 0 := by decide +kernel
/-- the reference's table -/
def twA (z : ow_MS) (n : pz9) : Prop := ∀ a b : Nat, a < 129 → b < 41 → z.2.2 44 (129 * b + a) = Int64.ofInt (n ((a : Int) - 64) ((b : Int) - 20))
theorem twA_fr {P : Nat → Prop} {z z1 : ow_MS} {n : pz9} (hf : fr P z z1) (hP : ¬ P 44) (h : twA z n) : twA z1 n := fun a b ha hb => by
  rw [(hf 44 hP).2.2]
  exact h a b ha hb
theorem twA_cg {z : ow_MS} {n n' : pz9} (h : twA z n) (e : ∀ p q, n p q = n' p q) : twA z n' := fun a b ha hb => by
  rw [← e]
  exact h a b ha hb
section XTWK1
variable {z : ow_MS}
theorem xr_leaf2 {c j a : Nat} {σ : Int} {n : pz9} (hc : 1 ≤ c) (hcj : c ≤ j + 6) (hj : j ≤ 12) (ha : 16 ≤ a) (ha2 : a ≤ 64) (hσ : σ = 1 ∨ σ = -1) (h46 : z.1 46 = 1) (hn : twA z n) : Te (fun K => qe_X13_leaf K (nI c) (Int64.ofInt σ) (nI a - 40) (nI j) z) (fun z1 => fr (fun g => g = 44) z z1 ∧ twA z1 (fun p q => n p q + σ * lfz (c - 1) (p - ((a : Int) - 40)) (q - (j : Int)))) := by
  let Q : ow_MS → Prop := fun z1 => fr (fun g => g = 44) z z1 ∧ twA z1 (fun p q => n p q + σ * lfz (c - 1) (p - ((a : Int) - 40)) (q - (j : Int)))
  have key : ∀ (d t : Nat) (y : ow_MS), t + d = c → fr (fun g => g = 44) z y → twA y (fun p q => n p q + σ * tmz (c - 1) t (p - ((a : Int) - 40)) (q - (j : Int))) → Tt (fun K i => q_X13_leaf K i 1 (nI c) (nI a - 40) (nI j) (nI (c - 1)) (nI t) (Int64.ofInt σ) (Int64.ofInt (σ * (binN (c - 1) t : Int))) 0 0 0 y) Q := by
    intro d
    induction d with
    | zero =>
      intro t y ht hf hy
      refine u_X13_leaf_1 ?_; unfold qm_X13_leaf_1
      refine w_ltT (by omega) (by omega) (w_some ⟨hf, twA_cg hy (fun p q => ?_)⟩)
      rw [show t = (c - 1) + 1 by omega, tmz_l]
    | succ d ih =>
      intro t y ht hf hy
      have ix := lf_ix (j := j) (k := c - 1) (t := t) (a := a) hj (by omega) (by omega) ha ha2
      have e9 : 129 * (j + 20 - (c - 1)) + a + 2 * t + 24 - (c - 1) = 129 * (j + 20 - (c - 1)) + (a + 2 * t + 24 - (c - 1)) := by omega
      rw [e9] at ix
      have hlt : 129 * (j + 20 - (c - 1)) + (a + 2 * t + 24 - (c - 1)) < 5289 := by omega
      have rd := hy (a + 2 * t + 24 - (c - 1)) (j + 20 - (c - 1)) (by omega) (by omega)
      have many : (Int64.ofInt (σ * (binN (c - 1) t : Int)) * (nI (c - 1) - nI t).toInt64) / (nI (t + 1)).toInt64 = Int64.ofInt (σ * (binN (c - 1) (t + 1) : Int)) := by
        have tb := lf_tab ⟨c - 1, by omega⟩ ⟨t, by omega⟩ (show t ≤ c - 1 by omega)
        rcases hσ with e | e
        · rw [e]
          exact tb.1
        · rw [e]
          exact tb.2
      have c2 : Tt (fun K i => q_X13_leaf K i 2 (nI c) (nI a - 40) (nI j) (nI (c - 1)) (nI t) (Int64.ofInt σ) (Int64.ofInt (σ * (binN (c - 1) t : Int))) (nI (129 * (j + 20 - (c - 1)) + (a + 2 * t + 24 - (c - 1)))) (Int64.ofInt (σ * (sgt9 t * (binN (c - 1) t : Int)))) (Int64.ofInt (n (((a + 2 * t + 24 - (c - 1) : Nat) : Int) - 64) (((j + 20 - (c - 1) : Nat) : Int) - 20) + σ * tmz (c - 1) t (((a + 2 * t + 24 - (c - 1) : Nat) : Int) - 64 - ((a : Int) - 40)) (((j + 20 - (c - 1) : Nat) : Int) - 20 - (j : Int)))) y) Q := by
        refine u_X13_leaf_2 ?_; unfold qm_X13_leaf_2
        rw [nI_1, many]
        have hnz : (nI (t + 1)).toInt64 ≠ 0 := by
          rw [nI_l (by omega)]
          exact fun e => by
            have := (pk_lEQ (a := t + 1) (b := 0) (by omega) (by omega)).mp e
            omega
        refine w_wrJ ml44 rfl hlt (w_nzJ hnz (ih (t + 1) _ (by omega) (fr_J2 hf rfl) (fun a2 b2 h1 h2 => ?_)))
        show _ = Int64.ofInt (n ((a2 : Int) - 64) ((b2 : Int) - 20) + σ * (tmz (c - 1) t ((a2 : Int) - 64 - ((a : Int) - 40)) ((b2 : Int) - 20 - (j : Int)) + (if (a2 : Int) - 64 - ((a : Int) - 40) = 2 * (t : Int) - ((c - 1 : Nat) : Int) ∧ (b2 : Int) - 20 - (j : Int) = -((c - 1 : Nat) : Int) then sgt9 t * (binN (c - 1) t : Int) else 0)))
        by_cases cs : a2 = a + 2 * t + 24 - (c - 1) ∧ b2 = j + 20 - (c - 1)
        · rw [if_pos ⟨by omega, by omega⟩, cs.1, cs.2, usJ_at, ← Int64.ofInt_add, Int.mul_add, Int.add_assoc]
        · rw [if_neg (fun h => cs ⟨by omega, by omega⟩), usJ_ne (by omega), Int.add_zero]
          exact hy a2 b2 h1 h2
      have par := lf_par ⟨t, by omega⟩
      dsimp only at par
      refine u_X13_leaf_1 ?_; unfold qm_X13_leaf_1
      rw [ix]
      refine w_ltF (by omega) (by omega) (w_rdJ ml44 rfl hlt rd (w_if (fun h9 => ?_) (fun h9 => ?_)))
      · have es : sgt9 t = 1 := if_pos (par.mp h9)
        rw [es, Int.one_mul] at c2
        exact c2
      · have es : sgt9 t = -1 := if_neg (fun h8 => h9 (par.mpr h8))
        rw [es, show σ * (-1 * (binN (c - 1) t : Int)) = 0 - σ * (binN (c - 1) t : Int) by rw [Int.neg_one_mul, Int.mul_neg, Int.zero_sub], Int64.ofInt_sub] at c2
        exact c2
  refine e_X13_leaf ?_
  refine u_X13_leaf_0 ?_; unfold qm_X13_leaf_0
  rw [show nI c - 1 = nI (c - 1) from pk_sub (b := 1) hc]
  have k0 := key c 0 z (by omega) fr_rf (twA_cg hn (fun p q => by show _ = n p q + σ * 0; rw [Int.mul_zero, Int.add_zero]))
  rw [show σ * ((binN (c - 1) 0 : Nat) : Int) = σ by rw [binN_z]; exact Int.mul_one σ] at k0
  exact w_rdF h46 (w_ifF (by decide) k0)
end XTWK1
theorem bd_len {n : Nat} {W : wd9} {ov sg : Nat → Bool} {A : rn_L} (hn : 1 ≤ n) (h : bdz n W ov A sg) : 1 ≤ A.length := by
  obtain ⟨-, ⟨L, hL, eA⟩, -⟩ := h
  have m : (0, 2) ∈ L.flatten := (hL.2.2 _).mpr (Or.inl ⟨rfl, hn⟩)
  obtain ⟨c, hc, -⟩ := List.mem_flatten.mp m
  rw [eA, List.length_map]
  exact List.length_pos_of_mem hc
/-- the skein relation, shifted -/
theorem tw_st {P P1 P2 : pz9} {b : Bool} {σ : Int} (h : P = skz b P2 P1) (p q a j : Int) (n : Int) : n + (if b then σ else 0 - σ) * P1 (p - (a + sgz b)) (q - (j + 1)) + σ * P2 (p - (a + 2 * sgz b)) (q - j) = n + σ * P (p - a) (q - j) := by
  rw [h]
  show _ = n + σ * (P2 (p - a - 2 * sgz b) (q - j) + sgz b * P1 (p - a - sgz b) (q - j - 1))
  rw [show p - (a + sgz b) = p - a - sgz b by omega, show q - (j + 1) = q - j - 1 by omega, show p - (a + 2 * sgz b) = p - a - 2 * sgz b by omega]
  generalize P1 (p - a - sgz b) (q - j - 1) = u
  generalize P2 (p - a - 2 * sgz b) (q - j) = v
  cases b
  · rw [if_neg (by decide), sgz_f, Int.mul_add, Int.neg_one_mul, Int.mul_neg, Int.zero_sub, Int.neg_mul]
    omega
  · rw [if_pos rfl, sgz_t, Int.mul_add, Int.one_mul]
    omega
theorem xr_skein2 {nn : Nat} (hnn : 1 ≤ nn) : ∀ (f depth dd k j a : Nat) (A : rn_L) (sg : Nat → Bool) (σ : Int) (n : pz9) (Wd : wd9) (ov : Nat → Bool) (z : ow_MS), f < dd → depth + f ≤ 12 → j ≤ depth → wkF A.flatten → A.flatten.length ≤ 24 → A.length ≤ 6 + j → rn_At z (1000 * (depth + 4)) A [] → rn_sg z (1000 * (depth + 4)) A.flatten sg → gPre A k → ouT A k f → 40 ≤ a + 2 * depth → a ≤ 40 + 2 * depth → (σ = 1 ∨ σ = -1) → z.1 46 = 1 → twA z n → bdz nn Wd ov A sg → Te (fun K => qd_X13_skein K dd (nI depth) (Int64.ofInt σ) (nI a - 40) (nI j) z) (fun z1 => fr (skH depth) z z1 ∧ twA z1 (fun p q => n p q + σ * Fz nn Wd ov (p - ((a : Int) - 40)) (q - (j : Int)))) := by
  intro f
  induction f using Nat.strongRecOn with
  | ind f ih =>
  intro depth dd k j a A sg σ n Wd ov z hdd hdf hj hF hl hC hA hS hg ho ha1 ha2 hσ h46 hcw hbz
  obtain ⟨dd, rfl⟩ : ∃ d', dd = d' + 1 := ⟨dd - 1, by omega⟩
  have hd := wkF_ok hF
  have hn : mw_net (1000 * (depth + 4)) := pnL (by omega)
  have hn2 : mw_net (1000 * (depth + 1 + 4)) := pnL (by omega)
  have cx : ∀ {i}, i < A.flatten.length → crs A i < 40 ∧ uns A i < 2 := fun hi => by
    obtain ⟨g1, g2, -⟩ := hF.2 _ (List.mem_of_getElem? (vAt_of hi))
    exact ⟨g1, g2⟩
  let Q : ow_MS → Prop := fun z1 => fr (skH depth) z z1 ∧ twA z1 (fun p q => n p q + σ * Fz nn Wd ov (p - ((a : Int) - 40)) (q - (j : Int)))
  have mono41 : ∀ {y : ow_MS}, fr (fun g => g = 41) z y → fr (skH depth) z y := fun hf => fr_mono (fun g hg => Or.inr (Or.inl hg)) hf
  have aA : ∀ {y : ow_MS}, fr (fun g => g = 41) z y → rn_At y (1000 * (depth + 4)) A [] := fun hf => fr_At hf (fun g hg => by omega) hA
  have aV : ∀ {y : ow_MS}, fr (fun g => g = 41) z y → y.1 (1000 * (depth + 4) + 1) = nI A.flatten.length := fun hf => by rw [(aA hf).1, List.append_nil]
  have c5 : gPre A A.flatten.length → ∀ (x8 : Int32) (y : ow_MS), fr (fun g => g = 41) z y → Tt (fun K i => q_X13_skein K (qd_X13_skein K dd) i 5 (nI depth) (nI a - 40) (nI j) (-1) x8 0 0 0 (Int64.ofInt σ) (1000 * (depth + 4)) 0 0 0 0 0 0 0 0 y) Q := by
    intro hno x8 y hf
    have hl1 := bd_len hnn hbz
    refine u_X13_skein_5 ?_; unfold qm_X13_skein_5
    refine w_ifT rfl (w_rdF (aA hf).2.1 (w_cs0 (xr_leaf2 (n := n) hl1 (by omega) (by omega) (by omega) (by omega) hσ (by rw [(hf 46 (by decide)).1]; exact h46) (twA_fr hf (by decide) hcw)) (fun z1 ⟨h9, h8⟩ => w_some ⟨?_, twA_cg h8 (fun p q => ?_)⟩)))
    · exact fr_tr (mono41 hf) (fr_mono (fun g hg => Or.inr (Or.inr (Or.inr hg))) h9)
    · rw [bd_lf hbz hno]
  have bad : ∀ (v : Nat) (x8 : Int32) (y : ow_MS), fr (fun g => g = 41) z y → v < A.flatten.length → (∀ u, u < v → crs A u ≠ crs A v) → uns A v ≠ 0 → (∀ u, u < v → (∀ t, t < u → crs A t ≠ crs A u) → uns A u = 0) → Tt (fun K i => q_X13_skein K (qd_X13_skein K dd) i 5 (nI depth) (nI a - 40) (nI j) (nI v) x8 0 0 0 (Int64.ofInt σ) (1000 * (depth + 4)) 0 0 0 0 0 0 0 0 y) Q := by
    intro v x8 y hf hv hfst hb hgood
    have hAy := aA hf
    obtain ⟨g1, g2, g3⟩ := rn_c_in A v hv
    have hml := mtf_lt hd hv
    have hmc := crs_mtf hd hv
    have hmn := mtf_ne hd hv
    have hvm : v < mtf A v := by
      rcases Nat.lt_or_ge (mtf A v) v with h8 | h8
      · exact absurd hmc (hfst _ h8)
      · omega
    obtain ⟨fc, hfc, kF, kg, ko⟩ := sk_ch (x := crs A v) hF hg ho hv rfl hfst hb hgood
    obtain ⟨q1, q2, q3⟩ := smC_ok hF hvm hml
    obtain ⟨fs, hfs, mF, mg, mo, ml⟩ := sk_sm hF hg ho hv hml hvm hmc hfst hb hgood q1 q2 q3
    have two9 : vAt A v = (crs A v, 0) ∧ vAt A (mtf A v) = (crs A v, 1) ∨ vAt A v = (crs A v, 1) ∧ vAt A (mtf A v) = (crs A v, 0) := by
      have u1 : uns A v = 1 := by
        have := (cx hv).2
        omega
      have u2 := (cx hml).2
      have e1 : vAt A v = (crs A v, 1) := Prod.ext rfl u1
      have e2 : uns A (mtf A v) = 0 := by
        rcases (show uns A (mtf A v) = 0 ∨ uns A (mtf A v) = 1 by omega) with h9 | h9
        · exact h9
        · exfalso
          have e3 : vAt A (mtf A v) = (crs A v, 1) := Prod.ext hmc h9
          exact hmn (nd_pos hF.1 (p := (crs A v, 1)) (by rw [← e3]; exact vAt_of hml) (by rw [← e1]; exact vAt_of hv))
      exact Or.inr ⟨e1, Prod.ext hmc e2⟩
    have hxm : crs A v ∈ nmz Wd := bd_nm hbz (vAt_mem hv)
    have hosg : ov (crs A v) = !sg (crs A v) := by
      rw [hbz.2.2 _ hxm, Bool.not_not]
    have hsk := bd_sk hbz hxm
    have bsm := bd_sm hbz hvm hml two9
    have bch := bd_ch (crs A v) hbz
    have hσ1 : (if ov (crs A v) then σ else 0 - σ) = 1 ∨ (if ov (crs A v) then σ else 0 - σ) = -1 := by
      cases ov (crs A v)
      · rw [if_neg (by decide)]
        omega
      · rw [if_pos rfl]
        exact hσ
    have c13 : ∀ (a' : Nat) (x : Int32) (x11 : Int32) (y5 : ow_MS), x = nI a' - 40 → (a' : Int) = a + 2 * sgz (ov (crs A v)) → 40 ≤ a' + 2 * (depth + 1) → a' ≤ 40 + 2 * (depth + 1) → fr (skH depth) z y5 → rn_At y5 (1000 * (depth + 1 + 4)) (chA A (crs A v)) [] → rn_sg y5 (1000 * (depth + 1 + 4)) (chA A (crs A v)).flatten (chS sg (crs A v)) → twA y5 (fun p q => n p q + (if ov (crs A v) then σ else 0 - σ) * Fz nn (dlz (crs A v) Wd) ov (p - ((a : Int) - 40 + sgz (ov (crs A v)))) (q - ((j : Int) + 1))) → Tt (fun K i => q_X13_skein K (qd_X13_skein K dd) i 13 (nI depth) (nI a - 40) (nI j) (nI v) (nI (rn_c A v)) (nI (crs A v)) (nI (mtf A v)) x11 (Int64.ofInt σ) (1000 * (depth + 4)) (1000 * (depth + 1 + 4)) x 0 (nI (depth + 1)) 0 0 (Int64.ofInt σ) 0 y5) Q := by
      intro a' x x11 y5 hx ha9 h1 h2 hf5 hA5 hS5 hc5
      rw [hx]
      refine u_X13_skein_13 ?_; unfold qm_X13_skein_13
      refine w_cs0 (ih fc (by omega) (depth + 1) dd (v + 1) j a' (chA A (crs A v)) (chS sg (crs A v)) σ _ Wd (flz ov (crs A v)) y5 (by omega) (by omega) (by omega) kF (by rw [ch_len]; exact hl) (by unfold chA; rw [List.length_map]; exact hC) hA5 hS5 kg ko h1 h2 hσ (by rw [(hf5 46 (by unfold skH; omega)).1]; exact h46) hc5 bch) (fun z6 ⟨h6, h7⟩ => w_some ⟨fr_tr hf5 (fr_mono (fun g hg => by unfold skH at hg ⊢; omega) h6), twA_cg h7 (fun p q => ?_)⟩)
      rw [ha9, show (a : Int) + 2 * sgz (ov (crs A v)) - 40 = (a : Int) - 40 + 2 * sgz (ov (crs A v)) by omega]
      exact tw_st hsk p q _ _ _
    have c8 : ∀ (t0 : Int32), t0 = (if sg (crs A v) then 0 else 1) → Tt (fun K i => q_X13_skein K (qd_X13_skein K dd) i 8 (nI depth) (nI a - 40) (nI j) (nI v) (nI (rn_c A v)) (nI (crs A v)) (nI (mtf A v)) 0 (Int64.ofInt σ) (1000 * (depth + 4)) 0 t0 0 0 0 0 0 0 y) Q := by
      intro t0 ht0
      have hSy : rn_sg y (1000 * (depth + 4)) A.flatten sg := fun p hp => by
        rw [(hf _ (by omega)).2.1]
        exact hS p hp
      refine u_X13_skein_8 ?_; unfold qm_X13_skein_8
      rw [show nI depth + 1 = nI (depth + 1) from nI_1 _]
      refine w_rdN rfl (by omega) (w_cs0 (xr_smoothIn hn hn2 (by omega) hl (by omega) hAy g1 g2 g3 hvm hml) (fun z2 ⟨b2, s2, f2⟩ => ?_))
      have b2 : rn_At z2 (1000 * (depth + 1 + 4)) (smV A v (mtf A v)) [] := b2
      have hz2 : fr (skH depth) z z2 := fr_tr (mono41 hf) (fr_mono (fun g hg => Or.inl (by omega)) f2)
      have hA2 : rn_At z2 (1000 * (depth + 4)) A [] := fr_At f2 (fun g hg => by omega) hAy
      have hS2 : rn_sg z2 (1000 * (depth + 4)) A.flatten sg := fun p hp => by
        rw [(f2 _ (by omega)).2.1]
        exact hSy p hp
      have hs1 : (if t0 = 0 then (0 - Int64.ofInt σ) else Int64.ofInt σ) = Int64.ofInt (if ov (crs A v) then σ else 0 - σ) := by
        rw [ht0, hosg]
        cases sg (crs A v)
        · exact if_neg (by decide)
        · refine (if_pos (by decide)).trans ?_
          show 0 - Int64.ofInt σ = Int64.ofInt (0 - σ)
          rw [Int64.ofInt_sub]
          rfl
      have h462 : z2.1 46 = 1 := by
        rw [(hz2 46 (by unfold skH; omega)).1]
        exact h46
      have c11 : ∀ (a' : Nat) (x : Int32), x = nI a' - 40 → (a' : Int) = a + sgz (ov (crs A v)) → 40 ≤ a' + 2 * (depth + 1) → a' ≤ 40 + 2 * (depth + 1) → Tt (fun K i => q_X13_skein K (qd_X13_skein K dd) i 11 (nI depth) (nI a - 40) (nI j) (nI v) (nI (rn_c A v)) (nI (crs A v)) (nI (mtf A v)) t0 (Int64.ofInt σ) (1000 * (depth + 4)) (1000 * (depth + 1 + 4)) x 0 (nI (depth + 1)) 0 0 (Int64.ofInt (if ov (crs A v) then σ else 0 - σ)) 0 z2) Q := by
        intro a' x hx ha9 h1 h2
        rw [hx]
        refine u_X13_skein_11 ?_; unfold qm_X13_skein_11
        rw [show nI depth + 1 = nI (depth + 1) from nI_1 _, show nI j + 1 = nI (j + 1) from nI_1 _]
        refine w_cs0 (ih fs (by omega) (depth + 1) dd v (j + 1) a' (smV A v (mtf A v)) sg (if ov (crs A v) then σ else 0 - σ) n (dlz (crs A v) Wd) ov z2 (by omega) (by omega) (by omega) mF (Nat.le_trans ml hl) (by have := smV_n hvm hml; omega) b2 (sg_sm hF hvm hml hSy s2) mg mo h1 h2 hσ1 h462 (twA_fr f2 (by omega) (twA_fr hf (by decide) hcw)) bsm) (fun z3 ⟨h3, h3c⟩ => ?_)
        have h3d : twA z3 (fun p q => n p q + (if ov (crs A v) then σ else 0 - σ) * Fz nn (dlz (crs A v) Wd) ov (p - ((a : Int) - 40 + sgz (ov (crs A v)))) (q - ((j : Int) + 1))) := twA_cg h3c (fun p q => by
          rw [ha9, show (a : Int) + sgz (ov (crs A v)) - 40 = (a : Int) - 40 + sgz (ov (crs A v)) by omega]
          rfl)
        have hA3 : rn_At z3 (1000 * (depth + 4)) A [] := fr_At h3 (fun g hg => by unfold skH at hg; omega) hA2
        have hS3 : rn_sg z3 (1000 * (depth + 4)) A.flatten sg := fun p hp => by
          rw [(h3 _ (by unfold skH; omega)).2.1]
          exact hS2 p hp
        refine w_cs0 (tn_copy hn2 hn (by omega) (by omega) (by omega) hA3) (fun z4 ⟨hA4, f4, s4⟩ => w_cs0 (tp_changeIn hn2 (by omega) (cx hv).1 (fun u hu => ⟨(cx hu).2, (cx hu).1⟩) hA4) (fun z5 ⟨hA5, f5, e5, e6⟩ => ?_))
        have hz5 : fr (skH depth) z z5 := fr_tr hz2 (fr_tr (fr_mono (fun g hg => by unfold skH at hg ⊢; omega) h3) (fr_tr (fr_mono (fun g hg => Or.inl (by omega)) f4) (fr_mono (fun g hg => Or.inl (by omega)) f5)))
        have hS5 := sg_ch hF hS3 s4 e5 e6
        have hc5 := twA_fr f5 (by omega) (twA_fr f4 (by omega) h3d)
        have h465 : z5.1 46 = 1 := by
          rw [(hz5 46 (by unfold skH; omega)).1]
          exact h46
        refine w_rdF h465 (w_ifF (by decide) ?_)
        cases e9 : sg (crs A v)
        · rw [e9] at hosg ht0
          refine w_ifF (by rw [ht0]; decide) ?_
          refine u_X13_skein_12 ?_; unfold qm_X13_skein_12
          exact c13 (a + 2) _ _ z5 (sk_pw2 (by omega)).2 (by rw [hosg]; show ((a + 2 : Nat) : Int) = a + 2 * 1; omega) (by omega) (by omega) hz5 hA5 hS5 hc5
        · rw [e9] at hosg ht0
          refine w_ifT (by rw [ht0]; decide) ?_
          refine u_X13_skein_12 ?_; unfold qm_X13_skein_12
          exact c13 (a - 2) _ _ z5 (sk_pw2 (by omega)).1 (by rw [hosg]; show ((a - 2 : Nat) : Int) = a + 2 * (-1); omega) (by omega) (by omega) hz5 hA5 hS5 hc5
      have c9 : Tt (fun K i => q_X13_skein K (qd_X13_skein K dd) i 9 (nI depth) (nI a - 40) (nI j) (nI v) (nI (rn_c A v)) (nI (crs A v)) (nI (mtf A v)) t0 (Int64.ofInt σ) (1000 * (depth + 4)) (1000 * (depth + 1 + 4)) 0 (nI (depth + 1)) 0 0 (Int64.ofInt (if ov (crs A v) then σ else 0 - σ)) 0 0 z2) Q := by
        refine u_X13_skein_9 ?_; unfold qm_X13_skein_9
        refine w_rdF h462 (w_ifF (by decide) ?_)
        cases e9 : sg (crs A v)
        · have ho9 : ov (crs A v) = true := by rw [hosg, e9]; rfl
          refine w_ifF (by rw [ht0, e9]; decide) ?_
          refine u_X13_skein_10 ?_; unfold qm_X13_skein_10
          exact c11 (a + 1) _ (sk_pw (by omega)).2 (by rw [ho9]; show ((a + 1 : Nat) : Int) = a + 1; omega) (by omega) (by omega)
        · have ho9 : ov (crs A v) = false := by rw [hosg, e9]; rfl
          refine w_ifT (by rw [ht0, e9]; decide) ?_
          refine u_X13_skein_10 ?_; unfold qm_X13_skein_10
          exact c11 (a - 1) _ (sk_pw (by omega)).1 (by rw [ho9]; show ((a - 1 : Nat) : Int) = a + (-1); omega) (by omega) (by omega)
      refine w_if (fun h0 => ?_) (fun h0 => ?_)
      · rw [if_pos h0] at hs1
        rw [hs1]
        exact c9
      · rw [if_neg h0] at hs1
        rw [← hs1] at c9
        exact c9
    have c7 : ∀ (d w : Nat), w + d = mtf A v → v < w → Tt (fun K i => q_X13_skein K (qd_X13_skein K dd) i 7 (nI depth) (nI a - 40) (nI j) (nI v) (nI (rn_c A v)) (nI (crs A v)) (nI w) 0 (Int64.ofInt σ) (1000 * (depth + 4)) 0 0 0 0 0 0 0 0 y) Q := by
      intro d
      induction d with
      | zero =>
        intro w hw hvw
        have hw : w = mtf A v := by omega
        subst hw
        refine u_X13_skein_7 ?_; unfold qm_X13_skein_7
        refine w_rdI (pl4 hn) rfl (by omega) (at_cu hAy hml).1 (w_ifT (by rw [hmc]) (w_rdI (pl6 hn) rfl (cx hv).1 (x := if sg (crs A v) then -1 else 1) (by rw [(hf _ (by omega)).2.1]; exact hS _ (vAt_mem hv)) ?_))
        cases e9 : sg (crs A v)
        · exact w_ifF (by decide) (c8 1 (by rw [e9]; rfl))
        · exact w_ifT (by decide) (c8 0 (by rw [e9]; rfl))
      | succ d ih7 =>
        intro w hw hvw
        have hwl : w < A.flatten.length := by omega
        refine u_X13_skein_7 ?_; unfold qm_X13_skein_7
        rw [show nI w + 1 = nI (w + 1) from nI_1 _]
        refine w_rdI (pl4 hn) rfl (by omega) (at_cu hAy hwl).1 (w_ifF (fun e9 => ?_) (ih7 (w + 1) (by omega) (by omega)))
        have e8 := (nI_eq (by have := (cx hwl).1; omega) (by have := (cx hv).1; omega)).mp e9
        exact sk_two hd hv hml hwl (by omega) hmc (by omega) (by omega) e8
    have c6 : ∀ (d c : Nat), c + d = rn_c A v → Tt (fun K i => q_X13_skein K (qd_X13_skein K dd) i 6 (nI depth) (nI a - 40) (nI j) (nI v) (nI c) 0 0 0 (Int64.ofInt σ) (1000 * (depth + 4)) 0 0 0 0 0 0 0 0 y) Q := by
      intro d
      induction d with
      | zero =>
        intro c hc
        have hc : c = rn_c A v := by omega
        subst hc
        refine u_X13_skein_6 ?_; unfold qm_X13_skein_6
        rw [show nI (rn_c A v) + 1 = nI (rn_c A v + 1) from nI_1 _, show nI v + 1 = nI (v + 1) from nI_1 _]
        exact w_rdI (pl3 hn) rfl (by omega) (hAy.2.2.1 _ (by omega)) (w_ltT (by have := rn_b_le A (rn_c A v + 1); unfold rn_b at this; omega) g3 (w_rdI (pl4 hn) rfl (by omega) (at_cu hAy hv).1 (c7 (mtf A v - (v + 1)) (v + 1) (by omega) (by omega))))
      | succ d ih6 =>
        intro c hc
        refine u_X13_skein_6 ?_; unfold qm_X13_skein_6
        rw [show nI c + 1 = nI (c + 1) from nI_1 _]
        have hle : rn_b A (c + 1) ≤ rn_b A (rn_c A v) := rn_b_mono2 (by omega)
        exact w_rdI (pl3 hn) rfl (by omega) (hAy.2.2.1 _ (by omega)) (w_ltF (by omega) (show rn_b A (c + 1) ≤ v by omega) (ih6 (c + 1) (by omega)))
    refine u_X13_skein_5 ?_; unfold qm_X13_skein_5
    exact w_ifF (rn_neg1 (by omega)) (c6 (rn_c A v) 0 (by omega))
  have scan : ∀ (d v : Nat) (y : ow_MS), v + d = A.flatten.length → fr (fun g => g = 41) z y → metR A v y → (∀ u, u < v → (∀ t, t < u → crs A t ≠ crs A u) → uns A u = 0) → Tt (fun K i => q_X13_skein K (qd_X13_skein K dd) i 2 (nI depth) (nI a - 40) (nI j) (-1) (nI v) 0 0 0 (Int64.ofInt σ) (1000 * (depth + 4)) 0 0 0 0 0 0 0 0 y) Q := by
    intro d
    induction d with
    | zero =>
      intro v y hv hf hm hgd
      refine u_X13_skein_2 ?_; unfold qm_X13_skein_2
      exact w_rdF (aV hf) (w_leT (by omega) (by omega) (c5 (fun u _ hu hfu => hgd u (by omega) hfu) _ y hf))
    | succ d ihs =>
      intro v y hv hf hm hgd
      have hvl : v < A.flatten.length := by omega
      have hcv := cx hvl
      have next : ∀ (y2 : ow_MS), fr (fun g => g = 41) z y2 → metR A (v + 1) y2 → (∀ u, u < v + 1 → (∀ t, t < u → crs A t ≠ crs A u) → uns A u = 0) → Tt (fun K i => q_X13_skein K (qd_X13_skein K dd) i 4 (nI depth) (nI a - 40) (nI j) (-1) (nI v) (nI (crs A v)) 0 0 (Int64.ofInt σ) (1000 * (depth + 4)) 0 0 0 0 0 0 0 0 y2) Q := by
        intro y2 hf2 hm2 hg2
        refine u_X13_skein_4 ?_; unfold qm_X13_skein_4
        rw [show nI v + 1 = nI (v + 1) from nI_1 _]
        exact ihs (v + 1) y2 (by omega) hf2 hm2 hg2
      refine u_X13_skein_2 ?_; unfold qm_X13_skein_2
      refine w_rdF (aV hf) (w_leF (by omega) hvl (w_ifT rfl (w_rdI (pl4 hn) rfl (by omega) (at_cu (aA hf) hvl).1 (w_rdI ml41 rfl hcv.1 rfl ?_))))
      rcases hm _ hcv.1 with ⟨e0, hno⟩ | ⟨e1, u, hu, hue⟩
      · rw [e0]
        have hf2 : fr (fun g => g = 41) z (usI y 41 (crs A v) (vp_nar .boolean 1)) := fr_I2 hf rfl
        refine w_ifT rfl (w_wrZ ml41 rfl hcv.1 (w_rdI (pl5 hn) rfl (by omega) (at_cu (aA hf2) hvl).2 (w_if (fun h9 => ?_) (fun h9 => ?_))))
        · have hb : uns A v ≠ 0 := fun e => by rw [e] at h9; exact absurd h9 (by decide)
          refine u_X13_skein_3 ?_; unfold qm_X13_skein_3
          refine u_X13_skein_4 ?_; unfold qm_X13_skein_4
          rw [show nI v + 1 = nI (v + 1) from nI_1 _]
          refine u_X13_skein_2 ?_; unfold qm_X13_skein_2
          exact w_rdF (aV hf2) (w_le (by omega) (by omega) (fun _ => bad v _ _ hf2 hvl hno hb hgd) (fun _ => w_ifF (rn_neg1 (by omega)) (bad v _ _ hf2 hvl hno hb hgd)))
        · have hb : uns A v = 0 := by
            rcases Nat.eq_zero_or_pos (uns A v) with h8 | h8
            · exact h8
            · exact absurd (show nI (uns A v) = 1 by rw [show uns A v = 1 by omega]; rfl) h9
          refine u_X13_skein_3 ?_; unfold qm_X13_skein_3
          refine next _ hf2 (fun x hx => ?_) (fun u hu hfu => ?_)
          · by_cases hxv : x = crs A v
            · rw [hxv]
              exact Or.inr ⟨po_usI_at.trans (by decide), v, by omega, rfl⟩
            · rcases hm x hx with ⟨a1, a2⟩ | ⟨a1, u, hu, a2⟩
              · refine Or.inl ⟨rd_ne hxv a1, fun u hu e => ?_⟩
                by_cases huv : u = v
                · rw [huv] at e
                  exact hxv e.symm
                · exact a2 u (by omega) e
              · exact Or.inr ⟨rd_ne hxv a1, u, by omega, a2⟩
          · by_cases huv : u = v
            · rw [huv]; exact hb
            · exact hgd u (by omega) hfu
      · rw [e1]
        refine w_ifF (by decide) (next y hf (fun x hx => ?_) (fun t ht hft => ?_))
        · rcases hm x hx with ⟨a1, a2⟩ | ⟨a1, t, ht, a2⟩
          · refine Or.inl ⟨a1, fun t ht e => ?_⟩
            by_cases htv : t = v
            · rw [htv] at e
              exact a2 u hu (hue.trans e)
            · exact a2 t (by omega) e
          · exact Or.inr ⟨a1, t, by omega, a2⟩
        · by_cases htv : t = v
          · rw [htv] at hft
            exact absurd hue (hft u hu)
          · exact hgd t (by omega) hft
  have clr : ∀ (d i : Nat) (y : ow_MS), i + d = 40 → fr (fun g => g = 41) z y → (∀ x, x < i → y.2.1 41 x = 0) → Tt (fun K t => q_X13_skein K (qd_X13_skein K dd) t 1 (nI depth) (nI a - 40) (nI j) (nI i) 0 0 0 0 (Int64.ofInt σ) (1000 * (depth + 4)) 0 0 0 0 0 0 0 0 y) Q := by
    intro d
    induction d with
    | zero =>
      intro i y hi hf hx
      refine u_X13_skein_1 ?_; unfold qm_X13_skein_1
      exact w_leT (a := 40) (by omega) (by omega) (scan A.flatten.length 0 y (by omega) hf (fun x h9 => Or.inl ⟨hx x (by omega), fun u hu => absurd hu (by omega)⟩) (fun u hu => absurd hu (by omega)))
    | succ d ihc =>
      intro i y hi hf hx
      refine u_X13_skein_1 ?_; unfold qm_X13_skein_1
      rw [show nI i + 1 = nI (i + 1) from nI_1 _]
      refine w_leF (a := 40) (by omega) (by omega) (w_wrZ ml41 rfl (by omega) (ihc (i + 1) _ (by omega) (fr_I2 hf rfl) (fun x h9 => ?_)))
      by_cases hxi : x = i
      · rw [hxi]
        exact po_usI_at.trans (by decide)
      · exact rd_ne hxi (hx x (by omega))
  refine w_qd ?_
  refine u_X13_skein_0 ?_; unfold qm_X13_skein_0
  exact w_rdN rfl (by omega) (clr 40 0 z (by omega) fr_rf (fun x hx => absurd hx (by omega)))
