/-! exact calls: join, of the reference -/
theorem ring_seg {B : rn_L} {w n : Nat} (hw : w < B.flatten.length) : (List.range (rlen B (rn_c B w))).map (fun s => n + rv B w (s + 1)) = seg (n + w + 1) (n + rn_b B (rn_c B w + 1)) ++ seg (n + rn_b B (rn_c B w)) (n + w + 1) := by
  obtain ⟨j1, j2, j3⟩ := rn_c_in B w hw
  have l1 := seg_len (n + w + 1) (n + rn_b B (rn_c B w + 1))
  have l2 := seg_len (n + rn_b B (rn_c B w)) (n + w + 1)
  have er : rlen B (rn_c B w) = rn_b B (rn_c B w + 1) - rn_b B (rn_c B w) := rfl
  apply List.ext_getElem?
  intro i
  rw [List.getElem?_map]
  by_cases h : i < rlen B (rn_c B w)
  · rw [List.getElem?_range h]
    show some (n + rv B w (i + 1)) = _
    unfold rv
    by_cases h2 : w + (i + 1) < rn_b B (rn_c B w + 1)
    · rw [if_pos h2, List.getElem?_append_left (by omega)]
      unfold seg
      rw [List.getElem?_map, List.getElem?_range (by omega)]
      show _ = some (n + w + 1 + i)
      congr 1
      omega
    · rw [if_neg h2, List.getElem?_append_right (by omega), l1]
      unfold seg
      rw [List.getElem?_map, List.getElem?_range (by omega)]
      show _ = some (n + rn_b B (rn_c B w) + (i - (n + rn_b B (rn_c B w + 1) - (n + w + 1))))
      congr 1
      omega
  · rw [List.getElem?_eq_none (by rw [List.length_range]; omega), List.getElem?_eq_none (by rw [List.length_append]; omega)]
    rfl
/-- both diagrams and both visits are there -/
def joG (St : plT) (d v0 e w0 : Int32) (A : rn_L) (sg : Nat → Bool) (B : rn_L) (sg' : Nat → Bool) (v w : Nat) : Prop := (∃ d', d' < 40 ∧ d = nI d' ∧ St d' = some (A, sg)) ∧ (∃ e', e' < 40 ∧ e = nI e' ∧ St e' = some (B, sg')) ∧ v < A.flatten.length ∧ v0 = nI v ∧ w < B.flatten.length ∧ w0 = nI w
def joN (St : plT) (d v0 e w0 : Int32) : Prop := ∀ A sg B sg' v w, ¬ joG St d v0 e w0 A sg B sg' v w
def joS (A : rn_L) (sg sg' : Nat → Bool) (k : Nat) : Bool := if k < A.flatten.length / 2 then sg k else sg' (k - A.flatten.length / 2)
theorem pl_uni {St : plT} {d : Int32} {d1 d2 : Nat} {A1 A2 : rn_L} {s1 s2 : Nat → Bool} (h1 : d1 < 40) (h2 : d2 < 40) (e1 : d = nI d1) (e2 : d = nI d2) (q1 : St d1 = some (A1, s1)) (q2 : St d2 = some (A2, s2)) : A1 = A2 ∧ s1 = s2 := by
  have e : d1 = d2 := nI_inj9 (by omega) (by omega) (e1.symm.trans e2)
  rw [e, q2] at q1
  have := Option.some.inj q1
  exact ⟨(Prod.mk.inj this).1.symm, (Prod.mk.inj this).2.symm⟩
section XJ
variable {X : (Nat → Nat → Int32) → Prop} {z : ow_MS} {St : plT}
theorem xq_join {d v0 e w0 : Int32} (h : gI X z) (hR : relR z St) : Te (fun K => qe_X13_join K d v0 e w0 z) (fun r => rFl X z 1 r ∧ joN St d v0 e w0 ∨ ∃ A sg B sg' v w, joG St d v0 e w0 A sg B sg' v w ∧ (rFl X z 2 r ∧ (24 < A.flatten.length + B.flatten.length ∨ 6 < A.length + B.length - 1) ∨ A.flatten.length + B.flatten.length ≤ 24 ∧ A.length + B.length - 1 ≤ 6 ∧ (rFl X z 3 r ∧ allF St ∨ ∃ f, lstF St f ∧ rKp X z f (joV A B (A.flatten.length / 2) v w) (joS A sg sg') r))) := by
  let Q : Int32 × ow_MS → Prop := fun r => rFl X z 1 r ∧ joN St d v0 e w0 ∨ ∃ A sg B sg' v w, joG St d v0 e w0 A sg B sg' v w ∧ (rFl X z 2 r ∧ (24 < A.flatten.length + B.flatten.length ∨ 6 < A.length + B.length - 1) ∨ A.flatten.length + B.flatten.length ≤ 24 ∧ A.length + B.length - 1 ≤ 6 ∧ (rFl X z 3 r ∧ allF St ∨ ∃ f, lstF St f ∧ rKp X z f (joV A B (A.flatten.length / 2) v w) (joS A sg sg') r))
  have h1 := gI_1 (c := 0) h
  have hR1 := relR_1 (c := 0) hR
  have c1 : joN St d v0 e w0 → Tt (fun K k => q_X13_join K k 1 d v0 e w0 0 0 0 0 0 0 (usF z 1 0)) Q := by
    intro hno
    refine u_X13_join_1 ?_; unfold qm_X13_join_1
    exact w_mono (w_failX (k := 1) h1 fr_1) (fun r hr => Or.inl ⟨hr, hno⟩)
  refine e_X13_join ?_
  refine u_X13_join_0 ?_; unfold qm_X13_join_0
  refine w_wrF (w_hasX hR1 (fun h0 => w_ifT rfl (c1 (fun A sg B sg' v w ⟨⟨d', a1, a2, a3⟩, _⟩ => by rw [h0 d' a1 a2] at a3; cases a3))) (fun d9 A sg hd9 hx hs hv hne => w_ifF (by decide) (w_hasX hR1 (fun h0 => w_ifT rfl (c1 (fun A sg B sg' v w ⟨_, ⟨d', a1, a2, a3⟩, _⟩ => by rw [h0 d' a1 a2] at a3; cases a3))) (fun e9 B sg2 he9 hy hs2 hw hne2 => w_ifF (by decide) ?_))))
  have op1 := to_open pn1 hd9 hv
  rw [← hx] at op1
  refine w_cs0 op1 (fun z2 ⟨o1, f1⟩ => ?_)
  have h2 : gI X z2 := gI_net pn1 f1 (fun g hg => by omega) h1
  have hw2 : vRow z2 12 (32 * e9) B sg2 := ⟨rc_fr f1 (by omega) hw.1, hw.2⟩
  have op2 := to_open pn2 he9 hw2
  rw [← hy] at op2
  refine w_cs0 op2 (fun z3 ⟨o2, f2⟩ => ?_)
  have h3 : gI X z3 := gI_net pn2 f2 (fun g hg => by omega) h2
  have o1' := oNet_fr f2 (fun g hg => by omega) o1
  have l1 := o1.len
  have l2 := o2.len
  have k1 := o1.2.2.2
  have k2 := o2.2.2.2
  obtain ⟨a, ha, ha12⟩ := o1.2.2.1
  obtain ⟨b, hb, hb12⟩ := o2.2.2.1
  have hVa := okF_len ha
  have hVb := okF_len hb
  have f03 : fr rPs z z3 := fr_tr fr_1 (fr_tr (fr_mono (fun g hg => Or.inr (by unfold rSc; omega)) f1) (fr_mono (fun g hg => Or.inr (by unfold rSc; omega)) f2))
  have hR3 : relR z3 St := relR_fr f2 (by omega) (relR_fr f1 (by omega) hR1)
  have z31 : z3.1 1 = 0 := by
    rw [(f2 1 (by omega)).1, (f1 1 (by omega)).1]
    exact po_usF_at
  have c2 : joN St d v0 e w0 → Tt (fun K k => q_X13_join K k 2 d v0 e w0 0 0 0 0 0 0 z3) Q := by
    intro hno
    refine u_X13_join_2 ?_; unfold qm_X13_join_2
    exact w_mono (w_failX (k := 1) h3 f03) (fun r hr => Or.inl ⟨hr, hno⟩)
  have noV : (∀ v, v < A.flatten.length → v0 ≠ nI v) → joN St d v0 e w0 := fun hno A1 sg1 B1 sg1' v w hG => by
    obtain ⟨⟨d', a1, a2, a3⟩, -, b1, b2, -⟩ := hG
    have e1 := (pl_uni a1 hd9 a2 hx a3 hs).1
    rw [e1] at b1
    exact hno v b1 b2
  have noW : (∀ w, w < B.flatten.length → w0 ≠ nI w) → joN St d v0 e w0 := fun hno A1 sg1 B1 sg1' v w hG => by
    obtain ⟨-, ⟨d', a1, a2, a3⟩, -, -, b1, b2⟩ := hG
    have e1 := (pl_uni a1 he9 a2 hy a3 hs2).1
    rw [e1] at b1
    exact hno w b1 b2
  refine w_if (fun hv0 => c2 (noV (fun v hv9 ev => ?_))) (fun hv0 => w_rdF o1'.1.V (w_if (fun hv1 => c2 (noV (fun v hv9 ev => ?_))) (fun hv1 => w_if (fun hw0 => c2 (noW (fun v hv9 ev => ?_))) (fun hw0 => w_rdF o2.1.V (w_if (fun hw1 => w_rdF o1'.1.V (w_rdF o2.1.V ?_)) (fun hw1 => c2 (noW (fun v hv9 ev => ?_))))))))
  · rw [ev] at hv0
    exact absurd hv0 (nI_pos (by omega))
  · rw [ev] at hv1
    have h9 := (nI_ltI (show v < 2147483648 by omega) (show A.flatten.length < 2147483648 by omega)).mpr hv9
    exact absurd h9 (Int32.not_lt.mpr hv1)
  · rw [ev] at hw0
    exact absurd hw0 (nI_pos (by omega))
  rotate_left
  · rw [ev] at hw1
    exact hw1 ((nI_ltI (by omega) (by omega)).mpr hv9)
  obtain ⟨v, hv31, rfl⟩ := nI_of hv0
  obtain ⟨w, hw31, rfl⟩ := nI_of hw0
  have hvl : v < A.flatten.length := by
    rcases Nat.lt_or_ge v A.flatten.length with h9 | h9
    · exact h9
    · exact absurd (nI_le h9 hv31) hv1
  have hwl : w < B.flatten.length := (nI_ltI hw31 (by omega)).mp hw1
  have hG : joG St d (nI v) e (nI w) A sg B sg2 v w := ⟨⟨d9, hd9, hx, hs⟩, ⟨e9, he9, hy, hs2⟩, hvl, rfl, hwl, rfl⟩
  have fin : ∀ {r}, (rFl X z 2 r ∧ (24 < A.flatten.length + B.flatten.length ∨ 6 < A.length + B.length - 1) ∨ A.flatten.length + B.flatten.length ≤ 24 ∧ A.length + B.length - 1 ≤ 6 ∧ (rFl X z 3 r ∧ allF St ∨ ∃ f, lstF St f ∧ rKp X z f (joV A B (A.flatten.length / 2) v w) (joS A sg sg2) r)) → Q r := fun hr => Or.inr ⟨A, sg, B, sg2, v, w, hG, hr⟩
  have c3 : (24 < A.flatten.length + B.flatten.length ∨ 6 < A.length + B.length - 1) → Tt (fun K k => q_X13_join K k 3 d (nI v) e (nI w) 0 0 0 0 0 0 z3) Q := by
    intro hno
    refine u_X13_join_3 ?_; unfold qm_X13_join_3
    exact w_mono (w_failX (k := 2) h3 f03) (fun r hr => fin (Or.inl ⟨hr, hno⟩))
  rw [nI_add]
  obtain ⟨g1, g2, g3⟩ := rn_c_in A v hvl
  obtain ⟨p1, p2, p3⟩ := rn_c_in B w hwl
  have hne1 : 1 ≤ A.length + B.length := by omega
  refine w_lt (a := 24) (by omega) (by omega) (fun h9 => c3 (Or.inl h9)) (fun h24 => w_rdF (lk_C o1'.1) (w_rdF (lk_C o2.1) ?_))
  rw [nI_add, show nI (A.length + B.length) - 1 = nI (A.length + B.length - 1) from pk_sub (b := 1) hne1]
  refine w_le (b := 6) (by omega) (by omega) (fun h6 => w_freeX hR3 (fun hall => w_ifT rfl (w_mono (w_failX (k := 3) h3 f03) (fun r hr => fin (Or.inr ⟨by omega, h6, Or.inl ⟨hr, hall⟩⟩)))) (fun f hfr => w_ifF (rn_neg1 (by have := hfr.1; omega)) (w_rdF o1'.1.V (w_nzI (by decide) (w_cs0 (tn_clear pn3) (fun z4 ⟨b4, f4⟩ => ?_)))))) (fun h9 => c3 (Or.inr h9))
  have ea : A.flatten.length / 2 = a := by omega
  rw [show nI A.flatten.length / 2 = nI a from by rw [show nI A.flatten.length / 2 = nI (A.flatten.length / 2) from pk_div (d := 2) (by omega) (by omega) (by omega), ea]]
  rw [ea] at fin
  have hlen := A12_len (A := A) (B := B) (s := a)
  have evA : ∀ i, i < A.flatten.length → crs (A12 A B a) i = crs A i ∧ uns (A12 A B a) i = uns A i := fun i hi => by
    unfold crs uns
    rw [A12_l hi]
    exact ⟨rfl, rfl⟩
  have evB : ∀ i, i < B.flatten.length → crs (A12 A B a) (A.flatten.length + i) = crs B i + a ∧ uns (A12 A B a) (A.flatten.length + i) = uns B i := fun i hi => by
    unfold crs uns
    rw [A12_r hi]
    exact ⟨rfl, rfl⟩
  have nD := A12_n (A := A) (B := B) (s := a)
  have bA : ∀ m, m ≤ A.length → rn_b (A12 A B a) m = rn_b A m := fun m hm => A12_bl hm
  have bB : ∀ m, rn_b (A12 A B a) (A.length + m) = A.flatten.length + rn_b B m := fun m => A12_br m
  have bJ1 : rn_b (A12 A B a) (A.length + rn_c B w + 1) = A.flatten.length + rn_b B (rn_c B w + 1) := A12_br (rn_c B w + 1)
  have ok12 := A12_ok ha hb
  have wk12 := okF_wk (by omega) ok12
  obtain ⟨pm, pml⟩ := jo_perm (s := a) hvl hwl
  have eV : joV A B a v w = (joC (A12 A B a) (rn_c A v) v (A.flatten.length + w) (A.length + rn_c B w)).map (List.map (vAt (A12 A B a))) := rfl
  have dsg : ∀ p, p ∈ (A12 A B a).flatten → (p ∈ A.flatten ∨ ∃ q, q ∈ B.flatten ∧ p = (q.1 + a, q.2)) := fun p hp => by
    unfold A12 at hp
    rw [List.flatten_append] at hp
    rcases List.mem_append.mp hp with h9 | h9
    · exact Or.inl h9
    · rw [shN_fl] at h9
      obtain ⟨q, q1, q2⟩ := List.mem_map.mp h9
      exact Or.inr ⟨q, q1, q2.symm⟩
  generalize A12 A B a = D at hlen evA evB nD bA bB bJ1 ok12 wk12 pm eV dsg
  obtain ⟨c, hc⟩ : ∃ c, c = rn_c A v := ⟨_, rfl⟩
  obtain ⟨J, hJ⟩ : ∃ J, J = A.length + rn_c B w := ⟨_, rfl⟩
  have bJ := bB (rn_c B w)
  rw [← hJ] at bJ bJ1 eV
  rw [← hc] at g1 g2 g3 eV
  have m0 := rn_b_mono A c
  have hb1 := rn_b_le A (c + 1)
  have hb2 := rn_b_le B (rn_c B w + 1)
  have bc := bA c (by omega)
  have bc1 := bA (c + 1) (by omega)
  have bn := bA A.length (Nat.le_refl _)
  rw [rn_b_len] at bn
  let M : List Nat := ((seg (rn_b D c) (v + 1) ++ seg (A.flatten.length + w + 1) (rn_b D (J + 1))) ++ seg (rn_b D J) (A.flatten.length + w + 1)) ++ seg (v + 1) (rn_b D (c + 1))
  have hM : M.length = (rn_b A (c + 1) - rn_b A c) + (rn_b B (rn_c B w + 1) - rn_b B (rn_c B w)) := by
    show (((seg (rn_b D c) (v + 1) ++ seg (A.flatten.length + w + 1) (rn_b D (J + 1))) ++ seg (rn_b D J) (A.flatten.length + w + 1)) ++ seg (v + 1) (rn_b D (c + 1))).length = _
    rw [List.length_append, List.length_append, List.length_append, seg_len, seg_len, seg_len, seg_len]
    omega
  let I : ow_MS → Prop := fun y => fr (fun g => 3001 ≤ g ∧ g ≤ 3006) z3 y
  have oA : ∀ {y : ow_MS}, I y → oNet y 1000 A sg := fun hf => oNet_fr hf (fun g hg => by omega) o1'
  have oB : ∀ {y : ow_MS}, I y → oNet y 2000 B sg2 := fun hf => oNet_fr hf (fun g hg => by omega) o2
  have addI : ∀ {y y2 : ow_MS}, I y → fr (fun g => g = 3000 + 1 ∨ g = 3000 + 4 ∨ g = 3000 + 5) y y2 → I y2 := fun hI hf => fr_tr hI (fr_mono (fun g hg => by omega) hf)
  have endI : ∀ {y y2 : ow_MS}, I y → fr (fun g => g = 3000 + 2 ∨ g = 3000 + 3) y y2 → I y2 := fun hI hf => fr_tr hI (fr_mono (fun g hg => by omega) hf)
  -- the signs, and the end
  have l11 : ∀ (k x : Nat) (y : ow_MS), x + k = 20 → I y → bmX y 3000 D (joC D c v (A.flatten.length + w) J) [] → (∀ x', x' < x → y.2.1 3006 x' = if x' < a then z3.2.1 1006 x' else z3.2.1 2006 (x' - a)) → Tt (fun K i => q_X13_join K i 11 d (nI v) e (nI w) (nI a) (nI x) 0 0 0 0 y) Q := by
    intro k
    induction k with
    | zero =>
      intro x y hx9 hI hb9 hs9
      have hb9 : rn_At y 3000 (joV A B a v w) [] := by rw [eV]; exact hb9
      refine u_X13_join_11 ?_; unfold qm_X13_join_11
      refine w_leT (a := 20) (by omega) (by omega) (w_mono (w_keepX (z0 := z) (sg2 := joS A sg sg2) (gI_net pn3 hI (fun g hg => by omega) h3) (relR_fr hI (by omega) hR3) hfr (by rw [(hI 1 (by omega)).1]; exact z31) (fr_tr f03 (fr_mono (fun g hg => Or.inr (by unfold rSc; omega)) hI)) hb9 (fun p hp => ?_) (wkF_perm pm wk12) (by rw [pm.length_eq, hlen]; omega) (by omega)) (fun r hr => fin (Or.inr ⟨by omega, h6, Or.inr ⟨f, hfr, hr⟩⟩)))
      show y.2.1 3006 p.1 = if joS A sg sg2 p.1 = true then -1 else 1
      unfold joS
      rw [ea]
      rcases dsg p (pm.mem_iff.mp hp) with hpa | ⟨q, hq, rfl⟩
      · have hlt := ((ha.2 p).mp hpa).1
        rw [if_pos hlt, hs9 _ (by omega), if_pos hlt]
        exact o1'.2.1 p hpa
      · have hlt := ((hb.2 q).mp hq).1
        show y.2.1 3006 (q.1 + a) = if (if q.1 + a < a then sg (q.1 + a) else sg2 (q.1 + a - a)) = true then -1 else 1
        have e9 : (if q.1 + a < a then sg (q.1 + a) else sg2 (q.1 + a - a)) = sg2 q.1 := by rw [if_neg (by omega), Nat.add_sub_cancel]
        rw [e9, hs9 _ (by omega), if_neg (by omega), Nat.add_sub_cancel]
        exact o2.2.1 q hq
    | succ k ih =>
      intro x y hx9 hI hb9 hs9
      have c12 : ∀ t0 : Int32, t0 = (if x < a then z3.2.1 1006 x else z3.2.1 2006 (x - a)) → Tt (fun K i => q_X13_join K i 12 d (nI v) e (nI w) (nI a) (nI x) 0 0 t0 (nI x) y) Q := by
        intro t0 ht0
        refine u_X13_join_12 ?_; unfold qm_X13_join_12
        refine w_wrI (pl6 pn3) rfl (by omega) ?_
        rw [nI_1]
        refine ih (x + 1) _ (by omega) (fr_I2 hI (by omega)) (bmX_fr (P := fun g => g = 3006) (fr_I rfl) (fun g hg => by omega) hb9) (fun x' hx' => ?_)
        by_cases he : x' = x
        · rw [he, ← ht0]
          exact po_usI_at
        · exact rd_ne he (hs9 x' (by omega))
      refine u_X13_join_11 ?_; unfold qm_X13_join_11
      refine w_leF (a := 20) (by omega) (by omega) (w_le (by omega) (by omega) (fun h9 => ?_) (fun h9 => ?_))
      · rw [pk_sub h9]
        refine w_rdI (pl6 pn2) rfl (by omega) rfl (c12 _ ?_)
        rw [if_neg (by omega)]
        exact congrFun (hI 2006 (by omega)).2.1 _
      · refine w_rdI (pl6 pn1) rfl (by omega) rfl (c12 _ ?_)
        rw [if_pos h9]
        exact congrFun (hI 1006 (by omega)).2.1 _
  -- a component of the second net as it is
  have l9 : ∀ (m : Nat) (C : List (List Nat)), m < B.length → C.length < 39 → C.flatten.length + (rn_b B (m + 1) - rn_b B m) ≤ 39 → (∀ y2, I y2 → bmX y2 3000 D (C ++ [seg (rn_b D (A.length + m)) (rn_b D (A.length + m + 1))]) [] → Tt (fun K i => q_X13_join K i 8 d (nI v) e (nI w) (nI a) (nI (m + 1)) 0 0 0 0 y2) Q) → ∀ (k i : Nat) (y : ow_MS), i + k = rn_b B (m + 1) → rn_b B m ≤ i → I y → bmX y 3000 D C (seg (rn_b D (A.length + m)) (A.flatten.length + i)) → Tt (fun K i9 => q_X13_join K i9 9 d (nI v) e (nI w) (nI a) (nI m) (nI i) 0 0 0 y) Q := by
    intro m C hm hq hsz hout k
    have hbm := rn_b_le B (m + 1)
    have e1 := bB m
    have e2 : rn_b D (A.length + m + 1) = A.flatten.length + rn_b B (m + 1) := bB (m + 1)
    rw [e2] at hout
    induction k with
    | zero =>
      intro i y hi hlo hI hb9
      have hie : i = rn_b B (m + 1) := by omega
      rw [hie] at hb9 ⊢
      refine u_X13_join_9 ?_; unfold qm_X13_join_9
      rw [nI_1]
      refine w_rdI (pl3 pn2) rfl (by omega) (lk_b (oB hI).1 (by omega)) (w_leT (by omega) (Nat.le_refl _) (w_cs0 (bmX_end pn3 hb9 hq) (fun y2 ⟨g1, g2⟩ => ?_)))
      refine u_X13_join_10 ?_; unfold qm_X13_join_10
      rw [nI_1]
      exact hout y2 (endI hI g2) g1
    | succ k ihk =>
      intro i y hi hlo hI hb9
      have hil : i < B.flatten.length := by omega
      have ad := bmX_add (i := A.flatten.length + i) pn3 hb9 (by rw [seg_len, e1]; omega)
      rw [(evB i hil).1, (evB i hil).2] at ad
      refine u_X13_join_9 ?_; unfold qm_X13_join_9
      rw [nI_1]
      refine w_rdI (pl3 pn2) rfl (by omega) (lk_b (oB hI).1 (by omega)) (w_leF (by omega) (by omega) (w_rdI (pl4 pn2) rfl (by omega) (lk_cu (oB hI).1 hil).1 (w_rdI (pl5 pn2) rfl (by omega) (lk_cu (oB hI).1 hil).2 ?_)))
      rw [nI_add]
      refine w_cs0 ad (fun y2 ⟨g1, g2⟩ => ?_)
      rw [nI_1]
      refine ihk (i + 1) y2 (by omega) (by omega) (addI hI g2) ?_
      rw [← Nat.add_assoc, seg_s (by rw [e1]; omega)]
      exact g1
  -- the other components of the second net
  generalize hK : cps D 0 c ++ [M] ++ cps D (c + 1) A.length = K1
  have K1n : K1.length = A.length := by
    rw [← hK, List.length_append, List.length_append, cps_n, cps_n]
    show c - 0 + 1 + (A.length - (c + 1)) = _
    omega
  have s0c := cps_len (A := D) (Nat.zero_le c)
  rw [rn_b0, Nat.sub_zero] at s0c
  have K1l : K1.flatten.length = A.flatten.length + (rn_b B (rn_c B w + 1) - rn_b B (rn_c B w)) := by
    have sa := cps_len (A := D) (show c + 1 ≤ A.length by omega)
    rw [← hK, List.flatten_append, List.flatten_append, List.length_append, List.length_append, s0c, sa, List.flatten_cons, List.flatten_nil, List.append_nil, hM]
    omega
  have eJ : joC D c v (A.flatten.length + w) J = K1 ++ cps D A.length J ++ cps D (J + 1) D.length := by
    rw [← hK]
    show cps D 0 c ++ [M] ++ cps D (c + 1) J ++ cps D (J + 1) D.length = _
    rw [cps_app (A := D) (a := c + 1) (b := A.length) (d := J) (by omega) (by omega), ← List.append_assoc (cps D 0 c ++ [M])]
  have l8b : ∀ (k m : Nat) (y : ow_MS), m + k = B.length → rn_c B w < m → I y → bmX y 3000 D (K1 ++ cps D A.length J ++ cps D (J + 1) (A.length + m)) [] → Tt (fun K i => q_X13_join K i 8 d (nI v) e (nI w) (nI a) (nI m) 0 0 0 0 y) Q := by
    intro k
    induction k with
    | zero =>
      intro m y hm hcm hI hb9
      have hme : m = B.length := by omega
      rw [hme, ← nD, ← eJ] at hb9
      refine u_X13_join_8 ?_; unfold qm_X13_join_8
      exact w_rdF (lk_C (oB hI).1) (w_leT (by omega) (by omega) (l11 20 0 y (by omega) hI hb9 (fun x hx => by omega)))
    | succ k ih =>
      intro m y hm hcm hI hb9
      have hmB : m < B.length := by omega
      have m1 := rn_b_mono B m
      have m2 := rn_b_le B (m + 1)
      have m3 := rn_b_mono2 (A := B) (show rn_c B w + 1 ≤ m by omega)
      have sa := cps_len (A := D) (show A.length ≤ J by omega)
      have sb := cps_len (A := D) (show J + 1 ≤ A.length + m by omega)
      have e1 := bB m
      refine u_X13_join_8 ?_; unfold qm_X13_join_8
      refine w_rdF (lk_C (oB hI).1) (w_leF (by omega) (by omega) (w_rdI (pl8 pn2) rfl (by omega) (lk_c (oB hI).1 hwl) (w_ifF (fun e9 => by have := (nI_eq (by omega) (by omega)).mp e9; omega) (w_rdI (pl3 pn2) rfl (by omega) (lk_b (oB hI).1 (by omega)) (l9 m (K1 ++ cps D A.length J ++ cps D (J + 1) (A.length + m)) hmB ?_ ?_ (fun y2 hI2 hb8 => ih (m + 1) y2 (by omega) (by omega) hI2 ?_) (rn_b B (m + 1) - rn_b B m) (rn_b B m) y (by omega) (Nat.le_refl _) hI ?_)))))
      · rw [List.length_append, List.length_append, cps_n, cps_n, K1n]
        omega
      · rw [List.flatten_append, List.flatten_append, List.length_append, List.length_append, K1l, sa, sb]
        omega
      · rw [show A.length + (m + 1) = A.length + m + 1 by omega, cps_s (show J + 1 ≤ A.length + m by omega), ← List.append_assoc]
        exact hb8
      · rw [e1, seg_0]
        exact hb9
  have l8a : ∀ (k m : Nat) (y : ow_MS), m + k = rn_c B w → I y → bmX y 3000 D (K1 ++ cps D A.length (A.length + m)) [] → Tt (fun K i => q_X13_join K i 8 d (nI v) e (nI w) (nI a) (nI m) 0 0 0 0 y) Q := by
    intro k
    induction k with
    | zero =>
      intro m y hm hI hb9
      have hme : m = rn_c B w := by omega
      rw [hme, ← hJ] at hb9
      rw [hme]
      refine u_X13_join_8 ?_; unfold qm_X13_join_8
      refine w_rdF (lk_C (oB hI).1) (w_leF (by omega) (by omega) (w_rdI (pl8 pn2) rfl (by omega) (lk_c (oB hI).1 hwl) (w_ifT rfl ?_)))
      refine u_X13_join_10 ?_; unfold qm_X13_join_10
      rw [nI_1]
      refine l8b (B.length - (rn_c B w + 1)) (rn_c B w + 1) y (by omega) (by omega) hI ?_
      rw [show A.length + (rn_c B w + 1) = J + 1 by omega, cps_0, List.append_nil]
      exact hb9
    | succ k ih =>
      intro m y hm hI hb9
      have hmB : m < B.length := by omega
      have m1 := rn_b_mono B m
      have m3 := rn_b_mono2 (A := B) (show m + 1 ≤ rn_c B w by omega)
      have sa := cps_len (A := D) (show A.length ≤ A.length + m by omega)
      have e1 := bB m
      refine u_X13_join_8 ?_; unfold qm_X13_join_8
      refine w_rdF (lk_C (oB hI).1) (w_leF (by omega) (by omega) (w_rdI (pl8 pn2) rfl (by omega) (lk_c (oB hI).1 hwl) (w_ifF (fun e9 => by have := (nI_eq (by omega) (by omega)).mp e9; omega) (w_rdI (pl3 pn2) rfl (by omega) (lk_b (oB hI).1 (by omega)) (l9 m (K1 ++ cps D A.length (A.length + m)) hmB ?_ ?_ (fun y2 hI2 hb8 => ih (m + 1) y2 (by omega) hI2 ?_) (rn_b B (m + 1) - rn_b B m) (rn_b B m) y (by omega) (Nat.le_refl _) hI ?_)))))
      · rw [List.length_append, cps_n, K1n]
        omega
      · rw [List.flatten_append, List.length_append, K1l, sa]
        omega
      · rw [show A.length + (m + 1) = A.length + m + 1 by omega, cps_s (show A.length ≤ A.length + m by omega), ← List.append_assoc]
        exact hb8
      · rw [e1, seg_0]
        exact hb9
  -- a stretch of the first net without v
  have l5 : ∀ (m lo : Nat) (C : List (List Nat)) (Bo : List Nat), m < A.length → C.length < 39 → C.flatten.length + Bo.length + (rn_b A (m + 1) - lo) ≤ 39 → (v < lo ∨ rn_b A (m + 1) ≤ v) → (∀ y2, I y2 → bmX y2 3000 D (C ++ [Bo ++ seg lo (rn_b A (m + 1))]) [] → Tt (fun K i => q_X13_join K i 4 d (nI v) e (nI w) (nI a) (nI (m + 1)) 0 0 0 0 y2) Q) → ∀ (k i : Nat) (y : ow_MS), i + k = rn_b A (m + 1) → lo ≤ i → I y → bmX y 3000 D C (Bo ++ seg lo i) → Tt (fun K i9 => q_X13_join K i9 5 d (nI v) e (nI w) (nI a) (nI m) (nI i) 0 0 0 y) Q := by
    intro m lo C Bo hm hq hsz hvn hout k
    have hbm := rn_b_le A (m + 1)
    induction k with
    | zero =>
      intro i y hi hlo hI hb9
      have hie : i = rn_b A (m + 1) := by omega
      rw [hie] at hb9 ⊢
      refine u_X13_join_5 ?_; unfold qm_X13_join_5
      rw [nI_1]
      exact w_rdI (pl3 pn1) rfl (by omega) (lk_b (oA hI).1 (by omega)) (w_leT (by omega) (Nat.le_refl _) (w_cs0 (bmX_end pn3 hb9 hq) (fun y2 ⟨g1, g2⟩ => hout y2 (endI hI g2) g1)))
    | succ k ihk =>
      intro i y hi hlo hI hb9
      have hil : i < A.flatten.length := by omega
      have ad := bmX_add (i := i) pn3 hb9 (by rw [List.length_append, seg_len]; omega)
      rw [(evA i hil).1, (evA i hil).2] at ad
      refine u_X13_join_5 ?_; unfold qm_X13_join_5
      rw [nI_1]
      refine w_rdI (pl3 pn1) rfl (by omega) (lk_b (oA hI).1 (by omega)) (w_leF (by omega) (by omega) (w_rdI (pl4 pn1) rfl (by omega) (lk_cu (oA hI).1 hil).1 (w_rdI (pl5 pn1) rfl (by omega) (lk_cu (oA hI).1 hil).2 (w_cs0 ad (fun y2 ⟨g1, g2⟩ => w_ifF (fun e9 => by have := (nI_eq (by omega) (by omega)).mp e9; omega) ?_)))))
      refine u_X13_join_7 ?_; unfold qm_X13_join_7
      rw [nI_1]
      refine ihk (i + 1) y2 (by omega) (by omega) (addI hI g2) ?_
      rw [seg_s hlo, ← List.append_assoc]
      exact g1
  have l4b : ∀ (k m : Nat) (y : ow_MS), m + k = A.length → c < m → I y → bmX y 3000 D (cps D 0 c ++ [M] ++ cps D (c + 1) m) [] → Tt (fun K i => q_X13_join K i 4 d (nI v) e (nI w) (nI a) (nI m) 0 0 0 0 y) Q := by
    intro k
    induction k with
    | zero =>
      intro m y hm hcm hI hb9
      have hme : m = A.length := by omega
      rw [hme, hK] at hb9
      refine u_X13_join_4 ?_; unfold qm_X13_join_4
      refine w_rdF (lk_C (oA hI).1) (w_leT (by omega) (by omega) (l8a (rn_c B w) 0 y (by omega) hI ?_))
      rw [Nat.add_zero, cps_0, List.append_nil]
      exact hb9
    | succ k ih =>
      intro m y hm hcm hI hb9
      have m1 := rn_b_mono A m
      have m2 := rn_b_le A (m + 1)
      have m3 := rn_b_mono2 (A := A) (show c + 1 ≤ m by omega)
      have sa := cps_len (A := D) (show c + 1 ≤ m by omega)
      have e1 := bA m (by omega)
      have e2 := bA (m + 1) (by omega)
      refine u_X13_join_4 ?_; unfold qm_X13_join_4
      refine w_rdF (lk_C (oA hI).1) (w_leF (by omega) (by omega) (w_rdI (pl3 pn1) rfl (by omega) (lk_b (oA hI).1 (by omega)) (l5 m (rn_b A m) (cps D 0 c ++ [M] ++ cps D (c + 1) m) [] (by omega) ?_ ?_ (Or.inl (by omega)) (fun y2 hI2 hb8 => ih (m + 1) y2 (by omega) (by omega) hI2 ?_) (rn_b A (m + 1) - rn_b A m) (rn_b A m) y (by omega) (Nat.le_refl _) hI ?_)))
      · rw [List.length_append, List.length_append, cps_n, cps_n]
        show c - 0 + 1 + (m - (c + 1)) < 39
        omega
      · rw [List.flatten_append, List.flatten_append, List.length_append, List.length_append, s0c, sa, List.flatten_cons, List.flatten_nil, List.append_nil, hM]
        show _ + 0 + _ ≤ 39
        omega
      · rw [cps_s (show c + 1 ≤ m by omega), ← List.append_assoc, e1, e2]
        exact hb8
      · rw [seg_0]
        exact hb9
  -- the component with v
  have l6 : ∀ (k t : Nat) (y : ow_MS), t + 1 + k = rlen B (rn_c B w) → I y → bmX y 3000 D (cps D 0 c) (seg (rn_b D c) (v + 1) ++ (List.range t).map (fun s => A.flatten.length + rv B w (s + 1))) → Tt (fun K i9 => q_X13_join K i9 6 d (nI v) e (nI w) (nI a) (nI c) (nI v) (nI (rv B w t)) 0 0 y) Q := by
    have erl : rlen B (rn_c B w) = rn_b B (rn_c B w + 1) - rn_b B (rn_c B w) := rfl
    intro k
    induction k with
    | zero =>
      intro t y ht hI hb8
      have htl : t < rlen B (rn_c B w) := by omega
      have hnx := rv_nx hwl htl
      rw [if_pos (by omega)] at hnx
      have hrt := rv_lt hwl htl
      have ad := bmX_add (i := A.flatten.length + w) pn3 hb8 (by rw [s0c, List.length_append, seg_len, List.length_map, List.length_range]; omega)
      rw [(evB w hwl).1, (evB w hwl).2] at ad
      refine u_X13_join_6 ?_; unfold qm_X13_join_6
      refine w_rdI (pl9 pn2) rfl (by omega) (lk_n (oB hI).1 hrt) ?_
      rw [hnx]
      refine w_rdI (pl4 pn2) rfl (by omega) (lk_cu (oB hI).1 hwl).1 (w_rdI (pl5 pn2) rfl (by omega) (lk_cu (oB hI).1 hwl).2 ?_)
      rw [nI_add]
      refine w_cs0 ad (fun y2 ⟨g1, g2⟩ => w_ifT rfl ?_)
      have eL : (seg (rn_b D c) (v + 1) ++ (List.range t).map (fun s => A.flatten.length + rv B w (s + 1))) ++ [A.flatten.length + w] = (seg (rn_b D c) (v + 1) ++ seg (A.flatten.length + w + 1) (rn_b D (J + 1))) ++ seg (rn_b D J) (A.flatten.length + w + 1) := by
        rw [bJ1, bJ, List.append_assoc, List.append_assoc, ← ring_seg hwl, show rlen B (rn_c B w) = t + 1 by omega, List.range_succ, List.map_append]
        show _ = _ ++ (_ ++ [A.flatten.length + rv B w (t + 1)])
        rw [show t + 1 = rlen B (rn_c B w) by omega, rv_len hwl]
      rw [eL] at g1
      refine u_X13_join_7 ?_; unfold qm_X13_join_7
      rw [nI_1]
      refine l5 c (v + 1) (cps D 0 c) ((seg (rn_b D c) (v + 1) ++ seg (A.flatten.length + w + 1) (rn_b D (J + 1))) ++ seg (rn_b D J) (A.flatten.length + w + 1)) (by omega) (by rw [cps_n]; omega) ?_ (Or.inl (by omega)) (fun y3 hI3 hb3 => l4b (A.length - (c + 1)) (c + 1) y3 (by omega) (by omega) hI3 ?_) (rn_b A (c + 1) - (v + 1)) (v + 1) y2 (by omega) (Nat.le_refl _) (addI hI g2) ?_
      · rw [s0c, List.length_append, List.length_append, seg_len, seg_len, seg_len]
        omega
      · rw [cps_0, List.append_nil]
        show bmX y3 3000 D (cps D 0 c ++ [((seg (rn_b D c) (v + 1) ++ seg (A.flatten.length + w + 1) (rn_b D (J + 1))) ++ seg (rn_b D J) (A.flatten.length + w + 1)) ++ seg (v + 1) (rn_b D (c + 1))]) []
        rw [bc1]
        exact hb3
      · rw [seg_0, List.append_nil]
        exact g1
    | succ k ihr =>
      intro t y ht hI hb8
      have htl : t < rlen B (rn_c B w) := by omega
      have hnx := rv_nx hwl htl
      rw [if_neg (by omega)] at hnx
      have hrt := rv_lt hwl htl
      have hr1 := rv_lt hwl (show t + 1 < rlen B (rn_c B w) by omega)
      have hrn := rv_ne hwl (show t + 1 < rlen B (rn_c B w) by omega) (by omega)
      have ad := bmX_add (i := A.flatten.length + rv B w (t + 1)) pn3 hb8 (by rw [s0c, List.length_append, seg_len, List.length_map, List.length_range]; omega)
      rw [(evB _ hr1).1, (evB _ hr1).2] at ad
      refine u_X13_join_6 ?_; unfold qm_X13_join_6
      refine w_rdI (pl9 pn2) rfl (by omega) (lk_n (oB hI).1 hrt) ?_
      rw [hnx]
      refine w_rdI (pl4 pn2) rfl (by omega) (lk_cu (oB hI).1 hr1).1 (w_rdI (pl5 pn2) rfl (by omega) (lk_cu (oB hI).1 hr1).2 ?_)
      rw [nI_add]
      refine w_cs0 ad (fun y2 ⟨g1, g2⟩ => w_ifF (fun e9 => hrn ((nI_eq (by omega) (by omega)).mp e9)) (ihr (t + 1) y2 (by omega) (addI hI g2) ?_))
      rw [List.range_succ, List.map_append, ← List.append_assoc]
      exact g1
  have l5v : ∀ (k i : Nat) (y : ow_MS), i + k = v → rn_b A c ≤ i → I y → bmX y 3000 D (cps D 0 c) (seg (rn_b D c) i) → Tt (fun K i9 => q_X13_join K i9 5 d (nI v) e (nI w) (nI a) (nI c) (nI i) 0 0 0 y) Q := by
    intro k
    induction k with
    | zero =>
      intro i y hi hlo hI hb9
      have hie : i = v := by omega
      rw [hie] at hb9 ⊢
      have ad := bmX_add (i := v) pn3 hb9 (by rw [s0c, seg_len]; omega)
      rw [(evA v hvl).1, (evA v hvl).2] at ad
      have hrl := rlen_pos hwl
      refine u_X13_join_5 ?_; unfold qm_X13_join_5
      rw [nI_1]
      refine w_rdI (pl3 pn1) rfl (by omega) (lk_b (oA hI).1 (by omega)) (w_leF (by omega) (by omega) (w_rdI (pl4 pn1) rfl (by omega) (lk_cu (oA hI).1 hvl).1 (w_rdI (pl5 pn1) rfl (by omega) (lk_cu (oA hI).1 hvl).2 (w_cs0 ad (fun y2 ⟨g1, g2⟩ => w_ifT rfl ?_)))))
      have := l6 (rlen B (rn_c B w) - 1) 0 y2 (by omega) (addI hI g2) (by
        rw [seg_s (by rw [bc]; omega)]
        show bmX y2 3000 D (cps D 0 c) ((seg (rn_b D c) v ++ [v]) ++ [])
        rw [List.append_nil]
        exact g1)
      rw [rv_0 hwl] at this
      exact this
    | succ k ihk =>
      intro i y hi hlo hI hb9
      have hil : i < A.flatten.length := by omega
      have ad := bmX_add (i := i) pn3 hb9 (by rw [s0c, seg_len]; omega)
      rw [(evA i hil).1, (evA i hil).2] at ad
      refine u_X13_join_5 ?_; unfold qm_X13_join_5
      rw [nI_1]
      refine w_rdI (pl3 pn1) rfl (by omega) (lk_b (oA hI).1 (by omega)) (w_leF (by omega) (by omega) (w_rdI (pl4 pn1) rfl (by omega) (lk_cu (oA hI).1 hil).1 (w_rdI (pl5 pn1) rfl (by omega) (lk_cu (oA hI).1 hil).2 (w_cs0 ad (fun y2 ⟨g1, g2⟩ => w_ifF (fun e9 => by have := (nI_eq (by omega) (by omega)).mp e9; omega) ?_)))))
      refine u_X13_join_7 ?_; unfold qm_X13_join_7
      rw [nI_1]
      refine ihk (i + 1) y2 (by omega) (by omega) (addI hI g2) ?_
      rw [seg_s (by rw [bc]; exact hlo)]
      exact g1
  have l4a : ∀ (k m : Nat) (y : ow_MS), m + k = c → I y → bmX y 3000 D (cps D 0 m) [] → Tt (fun K i => q_X13_join K i 4 d (nI v) e (nI w) (nI a) (nI m) 0 0 0 0 y) Q := by
    intro k
    induction k with
    | zero =>
      intro m y hm hI hb9
      have hme : m = c := by omega
      rw [hme] at hb9 ⊢
      refine u_X13_join_4 ?_; unfold qm_X13_join_4
      refine w_rdF (lk_C (oA hI).1) (w_leF (by omega) (by omega) (w_rdI (pl3 pn1) rfl (by omega) (lk_b (oA hI).1 (by omega)) (l5v (v - rn_b A c) (rn_b A c) y (by omega) (Nat.le_refl _) hI ?_)))
      rw [bc, seg_0]
      exact hb9
    | succ k ih =>
      intro m y hm hI hb9
      have m1 := rn_b_mono A m
      have m3 := rn_b_mono2 (A := A) (show m + 1 ≤ c by omega)
      have sm := cps_len (A := D) (Nat.zero_le m)
      rw [rn_b0, Nat.sub_zero] at sm
      have e1 := bA m (by omega)
      have e2 := bA (m + 1) (by omega)
      refine u_X13_join_4 ?_; unfold qm_X13_join_4
      refine w_rdF (lk_C (oA hI).1) (w_leF (by omega) (by omega) (w_rdI (pl3 pn1) rfl (by omega) (lk_b (oA hI).1 (by omega)) (l5 m (rn_b A m) (cps D 0 m) [] (by omega) (by rw [cps_n]; omega) (by rw [sm]; show _ + 0 + _ ≤ 39; omega) (Or.inr (by omega)) (fun y2 hI2 hb8 => ih (m + 1) y2 (by omega) hI2 ?_) (rn_b A (m + 1) - rn_b A m) (rn_b A m) y (by omega) (Nat.le_refl _) hI ?_)))
      · rw [cps_s (Nat.zero_le m), e1, e2]
        exact hb8
      · rw [seg_0]
        exact hb9
  refine l4a c 0 z4 (by omega) (fr_mono (fun g hg => by omega) f4) ?_
  rw [cps_0]
  exact b4
end XJ
