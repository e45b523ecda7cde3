/-! the two pieces of a parted list -/
def sg9 (a b : Nat) : List Nat := (List.range b).filter (fun j => decide (a ≤ j))
section XSR
variable {A : rn_L} {sg : Nat → Bool} {σ : Nat → Bool} {f : Nat → Nat} {T : ow_NT}
theorem sg9_0 {a : Nat} : sg9 a a = [] := by
  unfold sg9
  refine List.filter_eq_nil_iff.mpr (fun j hj => ?_)
  have := List.mem_range.mp hj
  rw [decide_eq_false (by omega)]
  decide
theorem sg9_s {a b : Nat} (h : a ≤ b) : sg9 a (b + 1) = sg9 a b ++ [b] := by
  unfold sg9
  rw [List.range_succ, List.filter_append, List.filter_cons_of_pos (p := fun j => decide (a ≤ j)) (a := b) (decide_eq_true h)]
  rfl
theorem sg9_m {a b j : Nat} : j ∈ sg9 a b ↔ a ≤ j ∧ j < b := by
  unfold sg9
  rw [List.mem_filter, List.mem_range, decide_eq_true_iff]
  exact ⟨fun h => ⟨h.2, h.1⟩, fun h => ⟨h.2, h.1⟩⟩
theorem sg9_app {a b : Nat} (h : a ≤ b) : ∀ d, sg9 a (b + d) = sg9 a b ++ sg9 b (b + d)
  | 0 => by
    rw [Nat.add_zero, sg9_0, List.append_nil]
  | d + 1 => by
    rw [show b + (d + 1) = b + d + 1 by omega, sg9_s (by omega), sg9_app h d, sg9_s (by omega), List.append_assoc]
theorem sg9_ap {a b c : Nat} (h : a ≤ b) (h2 : b ≤ c) : sg9 a c = sg9 a b ++ sg9 b c := by
  have := sg9_app h (c - b)
  rw [show b + (c - b) = c by omega] at this
  exact this
theorem sg9_nd {a b : Nat} : (sg9 a b).Nodup := nodup_filter List.nodup_range
theorem wfB_sg {c i : Nat} : wfB A σ c i = (sg9 (rn_b A c) i).filter σ := by
  unfold wfB sg9
  rw [List.filter_filter]
  refine List.filter_congr (fun j _ => ?_)
  rw [Bool.and_comm]
theorem fil_all {l : List Nat} (h : ∀ j, j ∈ l → σ j = true) : l.filter σ = l := List.filter_eq_self.mpr h
theorem fil_3 (U V W : List Nat) : (U ++ (V ++ W)).filter σ = U.filter σ ++ (V.filter σ ++ W.filter σ) := by rw [List.filter_append, List.filter_append]
theorem fil_no {l : List Nat} (h : ∀ j, j ∈ l → σ j = false) : l.filter σ = [] := List.filter_eq_nil_iff.mpr (fun j hj => by rw [h j hj]; decide)
/-- the ring k as it stands in the list -/
theorem ring_sg : ∀ (A : rn_L) (k : Nat), k < A.length → ∃ L, L ∈ A ∧ (sg9 (rn_b A k) (rn_b A (k + 1))).map (vAt A) = L := by
  intro A k hk
  refine ⟨A[k], List.getElem_mem hk, ?_⟩
  have e1 : rn_b A (k + 1) = rn_b A k + A[k].length := by
    unfold rn_b
    rw [List.take_succ_eq_append_getElem hk, List.flatten_append, List.length_append, List.flatten_cons, List.flatten_nil, List.append_nil]
  have at9 : ∀ i, i < A[k].length → vAt A (rn_b A k + i) = A[k][i]! := fun i hi => by
    have e2 : A.flatten = (A.take k).flatten ++ (A[k] ++ (A.drop (k + 1)).flatten) := by
      rw [← List.flatten_cons, ← List.flatten_append, ← List.drop_eq_getElem_cons hk, List.take_append_drop]
    have e3 : A.flatten[rn_b A k + i]? = some A[k][i] := by
      rw [e2, List.getElem?_append_right (by unfold rn_b; omega), show rn_b A k + i - (A.take k).flatten.length = i by unfold rn_b; omega, List.getElem?_append_left hi, List.getElem?_eq_getElem hi]
    rw [vAt_eq e3, getElem!_pos A[k] i hi]
  have sh : ∀ d, sg9 (rn_b A k) (rn_b A k + d) = (List.range d).map (fun i => rn_b A k + i) := by
    intro d
    induction d with
    | zero =>
      rw [Nat.add_zero, sg9_0]
      rfl
    | succ d ih => rw [show rn_b A k + (d + 1) = rn_b A k + d + 1 by omega, sg9_s (by omega), ih, List.range_succ, List.map_append]; rfl
  rw [e1, sh, List.map_map]
  refine List.ext_getElem (by rw [List.length_map, List.length_range]) (fun i h1 h2 => ?_)
  rw [List.getElem_map, List.getElem_range]
  show vAt A (rn_b A k + i) = _
  rw [at9 i h2, getElem!_pos A[k] i h2]
theorem wfW_in {L : List vT} : ∀ n, L ∈ wfW A σ n → ∃ k, k < n ∧ L = ((sg9 (rn_b A k) (rn_b A (k + 1))).filter σ).map (vAt A) ∧ (sg9 (rn_b A k) (rn_b A (k + 1))).filter σ ≠ []
  | 0, h => by
    exact absurd h List.not_mem_nil
  | n + 1, h => by
    have h : L ∈ (wfI A σ (n + 1)).map (List.map (vAt A)) := h
    rw [wfI, wfB_sg] at h
    by_cases e : ((sg9 (rn_b A n) (rn_b A (n + 1))).filter σ).isEmpty = true
    · rw [if_pos e] at h
      obtain ⟨k, k1, k2⟩ := wfW_in n h
      exact ⟨k, by omega, k2⟩
    · rw [if_neg e, List.map_append] at h
      rcases List.mem_append.mp h with h | h
      · obtain ⟨k, k1, k2⟩ := wfW_in n h
        exact ⟨k, by omega, k2⟩
      · have h : L ∈ [((sg9 (rn_b A n) (rn_b A (n + 1))).filter σ).map (vAt A)] := h
        exact ⟨n, by omega, List.mem_singleton.mp h, fun e9 => e (by rw [e9]; rfl)⟩
theorem em_to (h : emN A sg f T) : (∀ p, p ∈ A.flatten → f p.1 < T.1) ∧ (∀ p q, p ∈ A.flatten → q ∈ A.flatten → f p.1 = f q.1 → p.1 = q.1) ∧ shw T.2.2.1.1 (gl f) A ∧ (∀ p, p ∈ A.flatten → (T.2.2.2 (f p.1) < 0 ↔ sg p.1 = true)) := by
  obtain ⟨h1, h2, h3, h4, h5, h6, h7, h8⟩ := h
  refine ⟨fun p hp => ?_, fun p q hp hq => ?_, (shw_iff h1.1).mpr h6, fun p hp => ?_⟩
  · obtain ⟨v, hv, rfl⟩ := mem_vAt hp
    exact h4 v hv
  · obtain ⟨v, hv, rfl⟩ := mem_vAt hp
    obtain ⟨w, hw, rfl⟩ := mem_vAt hq
    exact h5 v w hv hw
  · obtain ⟨v, hv, rfl⟩ := mem_vAt hp
    exact h7 v hv
theorem em_of (h1 : wkF A.flatten) (h2 : A.flatten.length ≤ 2 * T.1) (h3 : T.1 ≤ 12) (h4 : ∀ p, p ∈ A.flatten → f p.1 < T.1) (h5 : ∀ p q, p ∈ A.flatten → q ∈ A.flatten → f p.1 = f q.1 → p.1 = q.1) (h6 : shw T.2.2.1.1 (gl f) A) (h7 : ∀ p, p ∈ A.flatten → (T.2.2.2 (f p.1) < 0 ↔ sg p.1 = true)) : emN A sg f T := ⟨h1, h2, h3, fun v hv => h4 _ (vAt_mem hv), fun v w hv hw => h5 _ _ (vAt_mem hv) (vAt_mem hw), fun v hv => (shw_iff h1.1).mp h6 v hv, fun v hv => h7 _ (vAt_mem hv), trivial⟩
theorem gl_inj (h : emN A sg f T) {p q : vT} (hp : p ∈ A.flatten) (hq : q ∈ A.flatten) (e : gl f p = gl f q) : p = q := by
  have u1 := (h.1.2 p hp).2.1
  have u2 := (h.1.2 q hq).2.1
  have e : 2 * f p.1 + p.2 = 2 * f q.1 + q.2 := e
  exact Prod.ext ((em_to h).2.1 p q hp hq (by omega)) (by omega)
/-- rings of the two pieces -/
theorem shw_prt (h : emN A sg f T) {c g k : Nat} (hc : c < A.length) (hg1 : rn_b A c ≤ g) (hgh : g < k) (hh : k < rn_b A (c + 1)) (hs1 : (∀ v, rn_b A c ≤ v → v < rn_b A (c + 1) → (σ v = true ↔ g < v ∧ v ≤ k)) ∨ ∀ v, rn_b A c ≤ v → v < rn_b A (c + 1) → (σ v = true ↔ ¬ (g < v ∧ v ≤ k))) (hs2 : ∀ a b, a < A.flatten.length → b < A.flatten.length → rn_c A a = rn_c A b → rn_c A a ≠ c → σ a = σ b) : shw (exN T.2.2.1.1 (lbv A f g) (lbv A f k)) (gl f) (wfW A σ A.length) := by
  intro L hL p hp
  obtain ⟨r, r1, r2, r3⟩ := wfW_in _ hL
  obtain ⟨R, R1, R2⟩ := ring_sg A r r1
  have hle := rn_b_le A (r + 1)
  have hle2 := rn_b_le A (c + 1)
  have inF : ∀ j, j < A.flatten.length → vAt A j ∈ A.flatten := fun j hj => vAt_mem hj
  have hsh := (em_to h).2.2.1
  have hnd : R.Nodup := L_nd h.1.1 R1
  have vinj : ∀ i j, i < A.flatten.length → j < A.flatten.length → vAt A i = vAt A j → i = j := fun i j hi hj e => nodup_at h.1.1 (vAt_of hi) (by rw [e]; exact vAt_of hj)
  have other : ∀ q, q ∈ A.flatten → q ≠ vAt A g → q ≠ vAt A k → exN T.2.2.1.1 (lbv A f g) (lbv A f k) (gl f q) = T.2.2.1.1 (gl f q) := fun q hq n1 n2 => exN_o (fun e => n1 (gl_inj h hq (inF g (by omega)) e)) (fun e => n2 (gl_inj h hq (inF k (by omega)) e))
  by_cases e : r = c
  · rw [e] at r2 r3 R2
    have sp : sg9 (rn_b A c) (rn_b A (c + 1)) = (sg9 (rn_b A c) g ++ [g]) ++ ((sg9 (g + 1) k ++ [k]) ++ sg9 (k + 1) (rn_b A (c + 1))) := by
      rw [sg9_ap (b := g + 1) (by omega) (by omega), sg9_s hg1, sg9_ap (a := g + 1) (b := k + 1) (by omega) (by omega), sg9_s (by omega)]
    rw [sp, List.map_append, List.map_append, List.map_append, List.map_append] at R2
    generalize hX : (sg9 (rn_b A c) g).map (vAt A) = X at R2
    generalize hY : (sg9 (g + 1) k).map (vAt A) = Y at R2
    generalize hZ : (sg9 (k + 1) (rn_b A (c + 1))).map (vAt A) = Z at R2
    have R2 : (X ++ [vAt A g]) ++ ((Y ++ [vAt A k]) ++ Z) = R := R2
    have nk : vAt A g ≠ vAt A k := fun e9 => by
      have := vinj g k (by omega) (by omega) e9
      omega
    have rot : ∀ q, q ∈ R → sc (((Z ++ X) ++ [vAt A g]) ++ (Y ++ [vAt A k])) q = sc R q := fun q hq => by
      have e1 : R = ((X ++ [vAt A g]) ++ (Y ++ [vAt A k])) ++ Z := by
        rw [← R2]
        simp only [List.append_assoc]
      have := sc_rot (p := q) (X := (X ++ [vAt A g]) ++ (Y ++ [vAt A k])) (Y := Z) (by rw [← e1]; exact hnd) (by rw [← e1]; exact hq)
      rw [← e1] at this
      rw [← this]
      simp only [List.append_assoc]
    have nd2 : (((Z ++ X) ++ [vAt A g]) ++ (Y ++ [vAt A k])).Nodup := by
      have e1 : R = ((X ++ [vAt A g]) ++ (Y ++ [vAt A k])) ++ Z := by
        rw [← R2]
        simp only [List.append_assoc]
      have := nd_rot (X := (X ++ [vAt A g]) ++ (Y ++ [vAt A k])) (Y := Z) (by rw [← e1]; exact hnd)
      simp only [List.append_assoc] at this ⊢
      exact this
    have mR : ∀ q, q ∈ R ↔ q ∈ X ∨ q = vAt A g ∨ q ∈ Y ∨ q = vAt A k ∨ q ∈ Z := fun q => by
      rw [← R2, List.mem_append, List.mem_append, List.mem_append, List.mem_append, List.mem_singleton, List.mem_singleton, or_assoc, or_assoc]
    have gR : vAt A g ∈ R := (mR _).mpr (Or.inr (Or.inl rfl))
    have kR : vAt A k ∈ R := (mR _).mpr (Or.inr (Or.inr (Or.inr (Or.inl rfl))))
    have Nat9 : ∀ q, q ∈ R → q ∈ A.flatten := fun q hq => List.mem_flatten.mpr ⟨R, R1, hq⟩
    have at_g : exN T.2.2.1.1 (lbv A f g) (lbv A f k) (gl f (vAt A g)) = gl f (sc R (vAt A k)) := by
      show exN T.2.2.1.1 (gl f (vAt A g)) (gl f (vAt A k)) (gl f (vAt A g)) = _
      rw [exN_v (fun e9 => nk (gl_inj h (Nat9 _ gR) (Nat9 _ kR) e9))]
      exact hsh R R1 _ kR
    have at_k : exN T.2.2.1.1 (lbv A f g) (lbv A f k) (gl f (vAt A k)) = gl f (sc R (vAt A g)) := by
      show exN T.2.2.1.1 (gl f (vAt A g)) (gl f (vAt A k)) (gl f (vAt A k)) = _
      rw [exN_w]
      exact hsh R R1 _ gR
    rcases hs1 with hs1 | hs1
    · have eL : L = Y ++ [vAt A k] := by
        rw [r2, sp, fil_3, fil_no (l := sg9 (rn_b A c) g ++ [g]) (fun j hj => ?_), fil_all (l := sg9 (g + 1) k ++ [k]) (fun j hj => ?_), fil_no (l := sg9 (k + 1) (rn_b A (c + 1))) (fun j hj => ?_), List.nil_append, List.append_nil, List.map_append, hY]
        · rfl
        · have hj := sg9_m.mp hj
          exact Bool.eq_false_iff.mpr (fun e9 => by have := (hs1 j (by omega) (by omega)).mp e9; omega)
        · have hj : g + 1 ≤ j ∧ j < k ∨ j = k := by
            rcases List.mem_append.mp hj with hj | hj
            · exact Or.inl (sg9_m.mp hj)
            · exact Or.inr (List.mem_singleton.mp hj)
          exact (hs1 j (by omega) (by omega)).mpr (by omega)
        · have hj : rn_b A c ≤ j ∧ j < g ∨ j = g := by
            rcases List.mem_append.mp hj with hj | hj
            · exact Or.inl (sg9_m.mp hj)
            · exact Or.inr (List.mem_singleton.mp hj)
          exact Bool.eq_false_iff.mpr (fun e9 => by have := (hs1 j (by omega) (by omega)).mp e9; omega)
      rw [eL] at hp ⊢
      have pR : p ∈ R := (mR p).mpr (by
        rcases List.mem_append.mp hp with hp | hp
        · exact Or.inr (Or.inr (Or.inl hp))
        · exact Or.inr (Or.inr (Or.inr (Or.inl (List.mem_singleton.mp hp)))))
      have ng : p ≠ vAt A g := fun e9 => (List.nodup_append.mp nd2).2.2 (vAt A g) (List.mem_append.mpr (Or.inr (List.mem_singleton.mpr rfl))) p hp e9.symm
      rw [sc_spl2 nd2 hp]
      by_cases ek : p = vAt A k
      · rw [if_pos ek, rot _ gR, ek, at_k]
      · rw [if_neg ek, rot _ pR, other p (Nat9 p pR) ng ek]
        exact hsh R R1 p pR
    · have eL : L = (X ++ [vAt A g]) ++ Z := by
        rw [r2, sp, fil_3, fil_all (l := sg9 (rn_b A c) g ++ [g]) (fun j hj => ?_), fil_no (l := sg9 (g + 1) k ++ [k]) (fun j hj => ?_), fil_all (l := sg9 (k + 1) (rn_b A (c + 1))) (fun j hj => ?_), List.nil_append, List.map_append, List.map_append, hX, hZ]
        · rfl
        · have hj := sg9_m.mp hj
          exact (hs1 j (by omega) (by omega)).mpr (by omega)
        · have hj : g + 1 ≤ j ∧ j < k ∨ j = k := by
            rcases List.mem_append.mp hj with hj | hj
            · exact Or.inl (sg9_m.mp hj)
            · exact Or.inr (List.mem_singleton.mp hj)
          exact Bool.eq_false_iff.mpr (fun e9 => by have := (hs1 j (by omega) (by omega)).mp e9; omega)
        · have hj : rn_b A c ≤ j ∧ j < g ∨ j = g := by
            rcases List.mem_append.mp hj with hj | hj
            · exact Or.inl (sg9_m.mp hj)
            · exact Or.inr (List.mem_singleton.mp hj)
          exact (hs1 j (by omega) (by omega)).mpr (by omega)
      have ndL : L.Nodup := by
        rw [r2]
        exact nodup_map (nodup_filter sg9_nd) (fun i j hi hj e9 => vinj i j (by have := sg9_m.mp (List.mem_filter.mp hi).1; omega) (by have := sg9_m.mp (List.mem_filter.mp hj).1; omega) e9)
      rw [eL] at hp ndL ⊢
      have hp2 : p ∈ (Z ++ X) ++ [vAt A g] := by
        rw [List.append_assoc]
        exact List.mem_append.mpr ((List.mem_append.mp hp).symm)
      have pR : p ∈ R := (mR p).mpr (by
        rcases List.mem_append.mp hp with hp | hp
        · rcases List.mem_append.mp hp with hp | hp
          · exact Or.inl hp
          · exact Or.inr (Or.inl (List.mem_singleton.mp hp))
        · exact Or.inr (Or.inr (Or.inr (Or.inr hp))))
      have nk2 : p ≠ vAt A k := fun e9 => (List.nodup_append.mp nd2).2.2 p hp2 (vAt A k) (List.mem_append.mpr (Or.inr (List.mem_singleton.mpr rfl))) e9
      rw [← sc_rot ndL hp, ← List.append_assoc, sc_spl1 nd2 hp2]
      by_cases eg : p = vAt A g
      · rw [if_pos eg, rot _ kR, eg, at_g]
      · rw [if_neg eg, rot _ pR, other p (Nat9 p pR) eg nk2]
        exact hsh R R1 p pR
  · have cR : ∀ j, j ∈ sg9 (rn_b A r) (rn_b A (r + 1)) → j < A.flatten.length ∧ rn_c A j = r := fun j hj => by
      have hj := sg9_m.mp hj
      exact ⟨by omega, rn_c_of A r j hj.1 hj.2⟩
    have all : ∀ j, j ∈ sg9 (rn_b A r) (rn_b A (r + 1)) → σ j = true := fun j hj => by
      obtain ⟨i, hi⟩ := List.exists_mem_of_ne_nil _ r3
      obtain ⟨i1, i2⟩ := List.mem_filter.mp hi
      rw [← i2]
      exact hs2 j i (cR j hj).1 (cR i i1).1 (by rw [(cR j hj).2, (cR i i1).2]) (by rw [(cR j hj).2]; exact e)
    rw [fil_all all, R2] at r2
    rw [r2] at hp ⊢
    have hpF : p ∈ A.flatten := List.mem_flatten.mpr ⟨R, R1, hp⟩
    have off : ∀ j, rn_b A c ≤ j → j < rn_b A (c + 1) → p ≠ vAt A j := fun j j1 j2 e9 => by
      rw [← R2] at hp
      obtain ⟨i, i1, i2⟩ := List.mem_map.mp hp
      have := vinj i j (cR i i1).1 (by omega) (i2.trans e9)
      rw [this] at i1
      exact e ((cR j i1).2.symm.trans (rn_c_of A c j j1 j2))
    rw [other p hpF (off g hg1 (by omega)) (off k (by omega) hh)]
    exact hsh R R1 p hp
end XSR
