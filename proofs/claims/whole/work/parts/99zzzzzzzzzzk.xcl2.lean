/-! the class's closed braid, exactly -/
/-- the letters of a braid -/
def ltX (g : Nat) (z : ow_MS) (b n l : Nat) (w : Nat → Nat) (lp : Nat → Bool) : Prop := ∀ i, i < l → w i + 1 < n ∧ z.2.1 g (16 * b + i) = if lp i = true then nI (w i + 1) else -1 - nI (w i)
theorem ltX_a {g b n l i : Nat} {z : ow_MS} {w : Nat → Nat} {lp : Nat → Bool} (hn5 : n ≤ 5) (h : ltX g z b n l w lp) (hi : i < l) : ∃ a : Int, z.2.1 g (16 * b + i) = iI a ∧ a.natAbs ≤ 4 ∧ a.natAbs = w i + 1 ∧ (a < 0 ↔ lp i = false) := by
  obtain ⟨h1, h2⟩ := h i hi
  cases e : lp i with
  | true =>
    rw [e] at h2
    refine ⟨((w i + 1 : Nat) : Int), h2.trans (nI_iI _), by omega, by omega, fun h9 => by omega, fun h9 => by cases h9⟩
  | false =>
    rw [e] at h2
    have h2 : z.2.1 g (16 * b + i) = -1 - nI (w i) := h2
    refine ⟨-((w i + 1 : Nat) : Int), ?_, by omega, by omega, fun _ => rfl, fun _ => by omega⟩
    rw [h2, nI_iI, show (-1 : Int32) = iI (-1) from by decide, iI_sub]
    congr 1
    omega
def cbL (w : Nat → Nat) (lp : Nat → Bool) (n i : Nat) (La Fi : Nat → Option Nat) : Prop := (∀ s, s < n → La (psn w s i) = ((rnL w lp s i).getLast?).map lb) ∧ ∀ s, s < n → Fi s = ((rnL w lp s i).head?).map lb
def cbI (w : Nat → Nat) (lp : Nat → Bool) (n i : Nat) (S : ow_NP) (La Fi : Nat → Option Nat) : Prop := (∀ s, s < n → La (psn w s i) = ((rnL w lp s i).getLast?).map lb) ∧ (∀ s, s < n → Fi s = ((rnL w lp s i).head?).map lb) ∧ ∀ s, s < n → ∀ X a b Y, rnL w lp s i = X ++ a :: b :: Y → S.1 (lb a) = lb b
def clJ (w : Nat → Nat) (lp : Nat → Bool) (n l k : Nat) (S : ow_NP) : Prop := (∀ s, s < n → ∀ X a b Y, rnL w lp s l = X ++ a :: b :: Y → S.1 (lb a) = lb b) ∧ ∀ s, s < n → psn w s l < k → ∀ X a, rnL w lp s l = X ++ [a] → ∃ b Y, rnL w lp (psn w s l) l = b :: Y ∧ S.1 (lb a) = lb b
theorem exS_ne {S : ow_NP} {o : Option Nat} {v k : Nat} (h : o ≠ some k) : (exS S o v).1 k = S.1 k := by
  cases o with
  | none => rfl
  | some u => exact if_neg (fun e => h (by rw [e]))
theorem exS_at {S : ow_NP} {u v : Nat} : (exS S (some u) v).1 u = v := if_pos rfl
section CLI
variable {w : Nat → Nat} {lp : Nat → Bool} {n i : Nat} {S : ow_NP} {La Fi : Nat → Option Nat}
theorem rn_lb {s t j k : Nat} {a b : vT} (ha : a ∈ rnL w lp s j) (hb : b ∈ rnL w lp t k) (e : lb a = lb b) : a = b ∧ s = t := by
  obtain ⟨-, -, a3⟩ := rnL_mem.mp ha
  obtain ⟨-, -, b3⟩ := rnL_mem.mp hb
  have u1 := ubn_lt (w := w) (lp := lp) (s := s) (i := a.1)
  have u2 := ubn_lt (w := w) (lp := lp) (s := t) (i := b.1)
  unfold lb at e
  have e2 : a = b := Prod.ext (by omega) (by omega)
  rw [e2] at ha
  exact ⟨e2, rnL_uni ha hb⟩
theorem cbI_0 : cbI w lp n 0 S (fun _ => none) (fun _ => none) := ⟨fun _ _ => rfl, fun _ _ => rfl, fun s _ X a b Y e => by
  have e : [] = X ++ a :: b :: Y := e
  simp at e⟩
theorem cl_last (hw : ∀ j, j < i → w j + 1 < n) (h : cbL w lp n i La Fi) {k u : Nat} (hk : k < n) (e : La k = some u) : ∃ s X a, s < n ∧ psn w s i = k ∧ rnL w lp s i = X ++ [a] ∧ lb a = u := by
  obtain ⟨s, hs, es⟩ := psn_sur (w := w) (n := n) i k hk hw
  have h1 := h.1 s hs
  rw [es, e] at h1
  obtain ⟨a, e1, e2⟩ := Option.map_eq_some_iff.mp h1.symm
  obtain ⟨X, e3⟩ := List.getLast?_eq_some_iff.mp e1
  exact ⟨s, X, a, hs, es, e3, e2⟩
theorem cl_nlast (hw : ∀ j, j < i → w j + 1 < n) (h : cbL w lp n i La Fi) {s : Nat} {X Y : List vT} {a b : vT} (e : rnL w lp s i = X ++ a :: b :: Y) {k : Nat} (hk : k < n) : La k ≠ some (lb a) := fun e9 => by
  obtain ⟨s', X', a', -, -, q2, q3⟩ := cl_last hw h hk e9
  obtain ⟨e1, e2⟩ := rn_lb (w := w) (lp := lp) (s := s') (t := s) (j := i) (k := i) (by rw [q2]; simp) (by rw [e]; simp) q3
  rw [e1, e2, e] at q2
  have nd := rnL_nd (w := w) (lp := lp) (s := s) i
  rw [e] at nd
  have nd2 := (List.nodup_cons.mp (List.nodup_append.mp nd).2.1).1
  rcases snoc2 q2.symm with ⟨q4, -, q5⟩ | ⟨Y', q4, -⟩
  · exact nd2 (by rw [q5]; exact List.mem_cons_self)
  · exact nd2 (by rw [q4]; simp)
theorem cl_none (hw : ∀ j, j < i → w j + 1 < n) (h : cbL w lp n i La Fi) {k : Nat} (hk : k < n) : La k = none ↔ rnL w lp k i = [] := by
  constructor
  · intro e
    obtain ⟨s, hs, es⟩ := psn_sur (w := w) (n := n) i k hk hw
    have h1 := h.1 s hs
    rw [es, e] at h1
    have h2 := List.getLast?_eq_none_iff.mp (Option.map_eq_none_iff.mp h1.symm)
    have h4 : s = k := (rnL_nil i h2).symm.trans es
    rw [← h4]
    exact h2
  · intro e
    have h1 := h.1 k hk
    rw [rnL_nil i e, e] at h1
    exact h1
theorem head_ap {α : Type} {L M : List α} (h : L ≠ []) : (L ++ M).head? = L.head? := by
  cases L with
  | nil => exact absurd rfl h
  | cons a L => rfl
theorem cbI_step (hw : ∀ j, j ≤ i → w j + 1 < n) (h : cbI w lp n i S La Fi) {r m : Nat} (hr : r = 2 * i + if lp i = true then 0 else 1) (hm : m = 2 * i + if lp i = true then 1 else 0) : cbI w lp n (i + 1) (exS (exS S (La (w i)) r) (La (w i + 1)) m) (uO (uO (uO (uO La (w i) (some r)) (w i + 1) (some m)) (w i) (some m)) (w i + 1) (some r)) (exF (exF Fi (w i) (La (w i)) r) (w i + 1) (La (w i + 1)) m) := by
  have hwi := hw i (Nat.le_refl _)
  have hlt : ∀ j, j < i → w j + 1 < n := fun j hj => hw j (by omega)
  have hL : cbL w lp n i La Fi := ⟨h.1, h.2.1⟩
  have vL : ∀ s, psn w s i = w i → lb (i, ubn w lp s i) = r := fun s e => by
    show 2 * i + ubn w lp s i = r
    unfold ubn
    rw [hr, decide_eq_true e]
    cases lp i <;> rfl
  have vR : ∀ s, psn w s i = w i + 1 → lb (i, ubn w lp s i) = m := fun s e => by
    show 2 * i + ubn w lp s i = m
    unfold ubn
    rw [hm, decide_eq_false (by omega)]
    cases lp i <;> rfl
  have emp : ∀ k, k < n → La k = none → rnL w lp k i = [] ∧ psn w k i = k := fun k hk e => by
    have h2 := (cl_none hlt hL hk).mp e
    exact ⟨h2, rnL_nil i h2⟩
  have nee : ∀ s u, s < n → La (psn w s i) = some u → rnL w lp s i ≠ [] := fun s u hs e e9 => by
    have h1 := h.1 s hs
    rw [e, e9] at h1
    cases h1
  refine ⟨fun s hs => ?_, fun s hs => ?_, fun s hs X a b Y e => ?_⟩
  · by_cases o1 : psn w s i = w i
    · have ep : psn w s (i + 1) = w i + 1 := by
        show sw2 (w i) (w i + 1) (psn w s i) = _
        unfold sw2
        rw [if_pos o1]
      rw [ep, uO_at, rnL_on (Or.inl o1), List.getLast?_concat, Option.map_some, vL s o1]
    · by_cases o2 : psn w s i = w i + 1
      · have ep : psn w s (i + 1) = w i := by
          show sw2 (w i) (w i + 1) (psn w s i) = _
          unfold sw2
          rw [if_neg o1, if_pos o2]
        rw [ep, uO_ne (by omega), uO_at, rnL_on (Or.inr o2), List.getLast?_concat, Option.map_some, vR s o2]
      · have off : ¬ onL w s i := fun h9 => h9.elim o1 o2
        rw [(rnL_off (lp := lp) off).1, (rnL_off (lp := lp) off).2, uO_ne o2, uO_ne o1, uO_ne o2, uO_ne o1]
        exact h.1 s hs
  · have hFs := h.2.1 s hs
    by_cases o1 : psn w s i = w i
    · rw [rnL_on (Or.inl o1)]
      cases e1 : La (w i) with
      | none =>
        obtain ⟨q1, q2⟩ := emp (w i) (by omega) e1
        have es : s = w i := psn_inj i (o1.trans q2.symm)
        rw [es, q1]
        show _ = some (lb (i, ubn w lp (w i) i))
        rw [vL (w i) q2]
        cases e2 : La (w i + 1) with
        | none =>
          show uO (uO Fi (w i) (some r)) (w i + 1) (some m) (w i) = _
          rw [uO_ne (by omega), uO_at]
        | some u => exact uO_at
      | some u =>
        rw [head_ap (nee s u hs (by rw [o1]; exact e1)), ← hFs]
        cases e2 : La (w i + 1) with
        | none =>
          obtain ⟨q1, q2⟩ := emp (w i + 1) hwi e2
          show uO Fi (w i + 1) (some m) s = Fi s
          exact uO_ne (fun e9 => by rw [e9, q2] at o1; omega)
        | some u' => rfl
    · by_cases o2 : psn w s i = w i + 1
      · rw [rnL_on (Or.inr o2)]
        cases e2 : La (w i + 1) with
        | none =>
          obtain ⟨q1, q2⟩ := emp (w i + 1) hwi e2
          have es : s = w i + 1 := psn_inj i (o2.trans q2.symm)
          rw [es, q1]
          show uO _ (w i + 1) (some m) (w i + 1) = some (lb (i, ubn w lp (w i + 1) i))
          rw [vR _ q2, uO_at]
        | some u =>
          rw [head_ap (nee s u hs (by rw [o2]; exact e2)), ← hFs]
          show exF Fi (w i) (La (w i)) r s = Fi s
          cases e1 : La (w i) with
          | none =>
            obtain ⟨q1, q2⟩ := emp (w i) (by omega) e1
            show uO Fi (w i) (some r) s = Fi s
            exact uO_ne (fun e9 => by rw [e9, q2] at o2; omega)
          | some u' => rfl
      · have off : ¬ onL w s i := fun h9 => h9.elim o1 o2
        rw [(rnL_off (lp := lp) off).1, ← hFs]
        have d1 : La (w i) = none → s ≠ w i := fun e1 e9 => by
          obtain ⟨q1, q2⟩ := emp (w i) (by omega) e1
          rw [e9] at o1
          exact o1 q2
        have d2 : La (w i + 1) = none → s ≠ w i + 1 := fun e1 e9 => by
          obtain ⟨q1, q2⟩ := emp (w i + 1) hwi e1
          rw [e9] at o2
          exact o2 q2
        cases e1 : La (w i) with
        | none =>
          cases e2 : La (w i + 1) with
          | none =>
            show uO (uO Fi (w i) (some r)) (w i + 1) (some m) s = _
            rw [uO_ne (d2 e2), uO_ne (d1 e1)]
          | some u => exact uO_ne (d1 e1)
        | some u =>
          cases e2 : La (w i + 1) with
          | none => exact uO_ne (d2 e2)
          | some u => rfl
  · have old : ∀ X a b Y, rnL w lp s i = X ++ a :: b :: Y → (exS (exS S (La (w i)) r) (La (w i + 1)) m).1 (lb a) = lb b := fun X a b Y e => by
      rw [exS_ne (cl_nlast hlt hL e hwi), exS_ne (cl_nlast hlt hL e (by omega))]
      exact h.2.2 s hs X a b Y e
    by_cases o1 : onL w s i
    · rw [rnL_on o1] at e
      rcases snoc2 e with ⟨-, q1, q2⟩ | ⟨Y', -, q1⟩
      · have hl := h.1 s hs
        rw [q1, List.getLast?_concat] at hl
        have hl : La (psn w s i) = some (lb a) := hl
        have aS : a ∈ rnL w lp s i := by rw [q1]; simp
        rcases o1 with o1 | o1
        · rw [o1] at hl
          have hne : La (w i + 1) ≠ some (lb a) := fun e9 => by
            obtain ⟨s', X', a', -, k1, k2, k3⟩ := cl_last hlt hL hwi e9
            obtain ⟨-, k4⟩ := rn_lb (w := w) (lp := lp) (s := s') (t := s) (j := i) (k := i) (by rw [k2]; simp) aS k3
            rw [k4] at k1
            omega
          rw [exS_ne hne, hl, exS_at, q2, vL s o1]
        · rw [o1] at hl
          rw [hl, exS_at, q2, vR s o1]
      · exact old X a b Y' q1
    · rw [(rnL_off (lp := lp) o1).1] at e
      exact old X a b Y e
theorem clJ_none {l k : Nat} (hw : ∀ j, j < l → w j + 1 < n) (h : cbL w lp n l La Fi) (e : La k = none) (hJ : clJ w lp n l k S) : clJ w lp n l (k + 1) S := ⟨hJ.1, fun s hs hk X a e2 => by
  by_cases q : psn w s l = k
  · have h1 := h.1 s hs
    rw [q, e, e2, List.getLast?_concat] at h1
    cases h1
  · exact hJ.2 s hs (by omega) X a e2⟩
theorem clJ_some {l k u v : Nat} (hw : ∀ j, j < l → w j + 1 < n) (h : cbL w lp n l La Fi) (hk : k < n) (e1 : La k = some u) (e2 : Fi k = some v) (hJ : clJ w lp n l k S) : clJ w lp n l (k + 1) (nl S u v) := by
  have n1 : ∀ x, x ≠ u → (nl S u v).1 x = S.1 x := fun x hx => if_neg hx
  refine ⟨fun s hs X a b Y e => ?_, fun s hs hlt X a e => ?_⟩
  · rw [n1 _ (fun e9 => cl_nlast hw h e hk (by rw [e1, e9]))]
    exact hJ.1 s hs X a b Y e
  · have h1 := h.1 s hs
    rw [e, List.getLast?_concat] at h1
    have h1 : La (psn w s l) = some (lb a) := h1
    by_cases q : psn w s l = k
    · rw [q, e1] at h1
      cases h1
      have h2 := h.2 k hk
      rw [e2] at h2
      obtain ⟨b, b1, b2⟩ := Option.map_eq_some_iff.mp h2.symm
      obtain ⟨Y, b3⟩ := List.head?_eq_some_iff.mp b1
      rw [q]
      exact ⟨b, Y, b3, (if_pos rfl : (nl S (lb a) v).1 (lb a) = v).trans b2.symm⟩
    · obtain ⟨b, Y, k1, k2⟩ := hJ.2 s hs (by omega) X a e
      refine ⟨b, Y, k1, ?_⟩
      rw [n1 _ (fun e9 => ?_)]
      · exact k2
      · rw [← e9] at e1
        obtain ⟨s', X', a', -, m1, m2, m3⟩ := cl_last hw h hk e1
        obtain ⟨-, m4⟩ := rn_lb (w := w) (lp := lp) (s := s') (t := s) (j := l) (k := l) (by rw [m2]; simp) (by rw [e]; simp) m3
        rw [m4] at m1
        exact q m1
theorem cbL_cnt {l : Nat} (hw : ∀ j, j < l → w j + 1 < n) (h : cbL w lp n l La Fi) : cntB (fun k => (La k).isSome) n + cntB (fun s => (rnL w lp s l).isEmpty) n = n := by
  have h1 := cntB_not (q := fun k => (La k).isSome) n
  rw [cntB_cg (q := fun k => !(La k).isSome) (r := fun s => (rnL w lp s l).isEmpty) n (fun k hk => ?_)] at h1
  · exact h1
  · have h2 := cl_none hw h hk
    cases e : La k with
    | none =>
      rw [h2.mp e]
      rfl
    | some u =>
      have : rnL w lp k l ≠ [] := fun e9 => by
        rw [h2.mpr e9] at e
        cases e
      cases e9 : rnL w lp k l with
      | nil => exact absurd e9 this
      | cons a L => rfl
end CLI
section XCC
variable {vl : Nat → Nat} {y : ow_MS}
theorem xc_close {T : ow_NT} {b n l : Nat} {w : Nat → Nat} {lp : Nat → Bool} (hT : cAt y 4000 T) (hb : ow_b24 T.2.2.1) (hb20 : b < 20) (hn : 2 ≤ n) (hn5 : n ≤ 5) (hl : l ≤ 12) (hw : ltX 13 y b n l w lp) : Te (fun K => ce_X7_close vl K 4000 13 (nI (16 * b)) (nI l) (nI n) y) (fun y1 => (∃ T1, cAt y1 4000 T1 ∧ nv T1 ∧ T1.1 = l ∧ (∀ i, i < l → T1.2.2.2 i = if lp i = true then 1 else -1) ∧ clJ w lp n l n T1.2.2.1 ∧ T1.2.1 = cntB (fun s => (rnL w lp s l).isEmpty) n) ∧ fr clR y y1) := by
  let Q : ow_MS → Prop := fun y1 => (∃ T1, cAt y1 4000 T1 ∧ nv T1 ∧ T1.1 = l ∧ (∀ i, i < l → T1.2.2.2 i = if lp i = true then 1 else -1) ∧ clJ w lp n l n T1.2.2.1 ∧ T1.2.1 = cntB (fun s => (rnL w lp s l).isEmpty) n) ∧ fr clR y y1
  have hw2 : ∀ {z : ow_MS}, fr clR y z → ltX 13 z b n l w lp := fun hf i hi => by
    rw [(hf 13 (by unfold clR cP; omega)).2.1]
    exact hw i hi
  have hwn : ∀ i, i < l → w i + 1 < n := fun i hi => (hw i hi).1
  -- the strands closed
  have c5 : ∀ (La0 Fi0 : Nat → Option Nat), cbL w lp n l La0 Fi0 → ∀ (d k : Nat) (z : ow_MS) (S : ow_NP) (G : Nat → Int32) (ci : Nat) (La Fi : Nat → Option Nat), k + d = n → fr clR y z → cAt z 4000 (l, ci, S, G) → ow_b24 S → oX (fun v => v < 2 * l) (fun v => ∃ k, k < n ∧ La0 k = some v) n S La Fi → (∀ j, j < n → (La j = none ↔ Fi j = none)) → (∀ j, j < k → La j = none) → (∀ j, k ≤ j → La j = La0 j) → (∀ j, k ≤ j → Fi j = Fi0 j) → clJ w lp n l k S → (∀ i, i < l → G i = if lp i = true then 1 else -1) → (∀ j, k ≤ j → j < n → z.2.1 4007 j = oNI (La j)) → (∀ j, k ≤ j → j < n → z.2.1 4004 j = oNI (Fi j)) → ci + cntB (fun k => (La0 k).isSome) k = k → Tt (fun K t => c_X7_close vl K t 5 (nI (16 * b)) (nI l) (nI n) (nI k) 0 0 0 0 4000 13 4004 4007 0 0 z) Q := by
    intro La0 Fi0 hLF d
    induction d with
    | zero =>
      intro k z S G ci La Fi hk hf h1 h2 h3 h4 h5 h6 hF6 hJ hG h7 h8 h9
      have e : k = n := by omega
      subst e
      obtain ⟨q1, q2⟩ := oX_vn hl h3 h5 (fun j hj => (h4 j hj).mp (h5 j hj))
      refine u_X7_close_5 ?_; unfold cm_X7_close_5
      refine w_leT (by omega) (by omega) (w_some ⟨⟨_, h1, ⟨q1, hl, h2, ?_⟩, rfl, hG, hJ, ?_⟩, hf⟩)
      · show np_rg l S + ci ≤ 6
        omega
      · have := cbL_cnt hwn hLF
        show ci = _
        omega
    | succ d ih =>
      intro k z S G ci La Fi hk hf h1 h2 h3 h4 h5 h6 hF6 hJ hG h7 h8 h9
      have hcs : cntB (fun k => (La0 k).isSome) (k + 1) = cntB (fun k => (La0 k).isSome) k + (if (La0 k).isSome = true then 1 else 0) := rfl
      refine u_X7_close_5 ?_; unfold cm_X7_close_5
      refine w_leF (by omega) (by omega) ?_
      cases e : La k with
      | none =>
        have e7 : z.2.1 4007 k = -1 := by
          rw [h7 k (Nat.le_refl _) (by omega), e]
          rfl
        have e0 : La0 k = none := by rw [← h6 k (Nat.le_refl _)]; exact e
        refine w_crI (nH_7 nH4) rfl (show k < 24 by omega) e7 (w_ifT rfl (w_rdF h1.2.1 (w_wrF ?_)))
        refine u_X7_close_6 ?_; unfold cm_X7_close_6
        rw [nI_1 k]
        refine ih (k + 1) _ S G (ci + 1) La Fi (by omega) (fr_F2 hf (by unfold clR cP; omega)) ⟨rf_ot (by omega) h1.1, po_usF_at.trans (nI_1 _), h1.2.2⟩ h2 h3 h4 (fun j hj => ?_) (fun j hj => h6 j (by omega)) (fun j hj => hF6 j (by omega)) (clJ_none hwn hLF e0 hJ) hG (fun j hj => h7 j (by omega)) (fun j hj => h8 j (by omega)) ?_
        · by_cases ej : j = k
          · rw [ej]
            exact e
          · exact h5 j (by omega)
        · rw [hcs, e0]
          show ci + 1 + (_ + 0) = k + 1
          omega
      | some u =>
        have e7 : z.2.1 4007 k = nI u := by
          rw [h7 k (Nat.le_refl _) (by omega), e]
          rfl
        have e0 : La0 k = some u := by rw [← h6 k (Nat.le_refl _)]; exact e
        obtain ⟨w', ew⟩ : ∃ w', Fi k = some w' := by
          cases e9 : Fi k with
          | none =>
            have := (h4 k (by omega)).mpr e9
            rw [e] at this
            cases this
          | some w' => exact ⟨w', rfl⟩
        have e4 : z.2.1 4004 k = nI w' := by
          rw [h8 k (Nat.le_refl _) (by omega), ew]
          rfl
        have ew0 : Fi0 k = some w' := by rw [← hF6 k (Nat.le_refl _)]; exact ew
        have hu : u < 2 * l := h3.1 k u (by omega) e
        have hw9 : w' < 2 * l := h3.2.1 k w' (by omega) ew
        refine w_crI (nH_7 nH4) rfl (show k < 24 by omega) e7 (w_ifF (nI_nm1 (by omega)) (w_crI (nH_7 nH4) rfl (show k < 24 by omega) e7 (w_crI (nH_4 nH4) rfl (show k < 24 by omega) e4 (w_cs0 (tc_link nH4 h1 (show u < 24 by omega) (show w' < 24 by omega)) ?_))))
        rintro z1 ⟨g1, g2⟩
        refine u_X7_close_6 ?_; unfold cm_X7_close_6
        rw [nI_1 k]
        refine ih (k + 1) z1 (nl S u w') G ci (uO La k none) (uO Fi k none) (by omega) (fr_tr hf (fr_mono (fun g hg => Or.inl hg) g2)) g1 (nl_b24 h2 (by omega) (by omega)) (oX_close h3 (by omega) e ew ⟨k, by omega, e0⟩) (fun j hj => ?_) (fun j hj => ?_) (fun j hj => ?_) (fun j hj => ?_) (clJ_some hwn hLF (by omega) e0 ew0 hJ) hG (fun j hj hj2 => ?_) (fun j hj hj2 => ?_) ?_
        · by_cases ej : j = k
          · rw [ej, uO_at, uO_at]
          · rw [uO_ne ej, uO_ne ej]
            exact h4 j hj
        · by_cases ej : j = k
          · rw [ej, uO_at]
          · rw [uO_ne ej]
            exact h5 j (by omega)
        · rw [uO_ne (by omega)]
          exact h6 j (by omega)
        · rw [uO_ne (by omega)]
          exact hF6 j (by omega)
        · rw [uO_ne (by omega), (g2 4007 (by unfold cP; omega)).2.1]
          exact h7 j (by omega) hj2
        · rw [uO_ne (by omega), (g2 4004 (by unfold cP; omega)).2.1]
          exact h8 j (by omega) hj2
        · rw [hcs, e0]
          show ci + (_ + 1) = k + 1
          omega
  -- letter after letter
  have c1 : ∀ (d i : Nat) (z : ow_MS) (S : ow_NP) (G : Nat → Int32) (La Fi : Nat → Option Nat), i + d = l → fr clR y z → cAt z 4000 (i, 0, S, G) → ow_b24 S → oX (fun v => v < 2 * i) (fun _ => False) n S La Fi → cbI w lp n i S La Fi → (∀ j, j < i → G j = if lp j = true then 1 else -1) → (∀ j, j < n → (La j = none ↔ Fi j = none)) → (∀ j, j < n → z.2.1 4007 j = oNI (La j)) → (∀ j, j < n → z.2.1 4004 j = oNI (Fi j)) → Tt (fun K t => c_X7_close vl K t 1 (nI (16 * b)) (nI l) (nI n) (nI i) 0 0 0 0 4000 13 4004 4007 0 0 z) Q := by
    intro d
    induction d with
    | zero =>
      intro i z S G La Fi hi hf h1 h2 h3 hI hG h4 h5 h6
      have e : i = l := by omega
      subst e
      refine u_X7_close_1 ?_; unfold cm_X7_close_1
      refine w_leT (by omega) (by omega) ?_
      refine u_X7_close_4 ?_; unfold cm_X7_close_4
      exact c5 La Fi ⟨hI.1, hI.2.1⟩ n 0 z S G 0 La Fi (by omega) hf h1 h2 (oX_D (fun _ => Iff.rfl) (fun _ h => h.elim) h3) h4 (fun j hj => absurd hj (Nat.not_lt_zero _)) (fun _ _ => rfl) (fun _ _ => rfl) ⟨hI.2.2, fun s _ h9 => absurd h9 (Nat.not_lt_zero _)⟩ hG (fun j _ hj => h5 j hj) (fun j _ hj => h6 j hj) rfl
    | succ d ih =>
      intro i z S G La Fi hi hf h1 h2 h3 hI hG h4 h5 h6
      obtain ⟨a, a1, a2, a3, a4⟩ := ltX_a hn5 (hw2 hf) (show i < l by omega)
      obtain ⟨p1, p2⟩ := lt_b (a := a) (by omega) (by omega)
      have hwi := hwn i (by omega)
      have c3 : ∀ (z1 : ow_MS) (S1 : ow_NP) (La1 Fi1 : Nat → Option Nat) (x8 x9 x10 x11 t0 : Int32), t0 = (if lp i = true then 1 else -1) → cbI w lp n (i + 1) S1 La1 Fi1 → fr clR y z1 → cAt z1 4000 (i, 0, S1, G) → ow_b24 S1 → oX (fun v => v < 2 * (i + 1)) (fun _ => False) n S1 La1 Fi1 → (∀ j, j < n → (La1 j = none ↔ Fi1 j = none)) → (∀ j, j < n → z1.2.1 4007 j = oNI (La1 j)) → (∀ j, j < n → z1.2.1 4004 j = oNI (Fi1 j)) → Tt (fun K t => c_X7_close vl K t 3 (nI (16 * b)) (nI l) (nI n) (nI i) x8 x9 x10 x11 4000 13 4004 4007 t0 (nI i) z1) Q := by
        intro z1 S1 La1 Fi1 x8 x9 x10 x11 t0 ht0 hI1 q1 q2 q3 q4 q5 q6 q7
        obtain ⟨s1, s2, s3, s4, s5⟩ := q2
        refine u_X7_close_3 ?_; unfold cm_X7_close_3
        refine w_ctI (nH_3 nH4) rfl (show i < 12 by omega) (w_rdF (x := nI i) s1 (w_wrF ?_))
        rw [nI_1]
        refine ih (i + 1) _ S1 (su G i t0) La1 Fi1 (by omega) (fr_F2 (fr_I2 q1 (by unfold clR cP; omega)) (by unfold clR cP; omega)) ⟨po_usF_at, ?_, fun v => ?_, fun v => ?_, fun v => ?_⟩ q3 q4 hI1 (fun j hj => ?_) q5 (fun j hj => ?_) (fun j hj => ?_)
        · exact rf_ot (by omega) s2
        · exact rd_ot (by omega) (s3 v)
        · exact rd_ot (by omega) (s4 v)
        · show (usI z1 4003 i t0).2.1 4003 v = su G i t0 v
          by_cases ev : v = i
          · rw [ev]
            exact po_usI_at.trans (if_pos rfl).symm
          · rw [show su G i t0 v = G v from if_neg ev]
            exact rd_ne ev (s5 v)
        · show su G i t0 j = _
          by_cases ej : j = i
          · rw [ej, ← ht0]
            exact if_pos rfl
          · rw [show su G i t0 j = G j from if_neg ej]
            exact hG j (by omega)
        · exact rd_ot (by omega) (q6 j hj)
        · exact rd_ot (by omega) (q7 j hj)
      have c2 : ∀ r : Nat, (r = 2 * i + if lp i = true then 0 else 1) → Tt (fun K t => c_X7_close vl K t 2 (nI (16 * b)) (nI l) (nI n) (nI i) (iI a) (nI (a.natAbs - 1)) 0 0 4000 13 4004 4007 (nI r) 0 z) Q := by
        intro r hr0
        have hr : r = 2 * i ∨ r = 2 * i + 1 := by
          cases e9 : lp i <;> rw [e9] at hr0
          · exact Or.inr hr0
          · exact Or.inl hr0
        have hr24 : r < 24 := by omega
        have hm : (r = 2 * i ∧ mt r = 2 * i + 1) ∨ (r = 2 * i + 1 ∧ mt r = 2 * i) := by
          unfold mt
          rcases hr with e | e
          · exact Or.inl ⟨e, by rw [if_pos (by omega)]; omega⟩
          · exact Or.inr ⟨e, by rw [if_neg (by omega)]; omega⟩
        have hm24 : mt r < 24 := by omega
        have hm0 : mt r = 2 * i + if lp i = true then 1 else 0 := by
          cases e9 : lp i <;> rw [e9] at hr0
          · show mt r = 2 * i
            have hr0 : r = 2 * i + 1 := hr0
            omega
          · show mt r = 2 * i + 1
            have hr0 : r = 2 * i := hr0
            omega
        have hst := cbI_step (fun j hj => hwn j (by omega)) hI hr0 hm0
        rw [show a.natAbs - 1 = w i by omega]
        obtain ⟨j, hj⟩ : ∃ j, j = w i := ⟨_, rfl⟩
        rw [← hj] at hst ⊢
        have hjn : j + 1 < n := by omega
        have hlt : ∀ k u, k < n → La k = some u → u < 2 * i := fun k u hk e => h3.1 k u hk e
        obtain ⟨o1, o2⟩ := oX_step (k := j) (v := r) h3 h4 (by omega) (by omega) (fun u e => by have := hlt j u (by omega) e; omega)
        have eL : uO La j (some r) (j + 1) = La (j + 1) := uO_ne (by omega)
        obtain ⟨o3, o4⟩ := oX_step (k := j + 1) (v := mt r) o1 o2 hjn (by intro h9; rcases h9 with h9 | h9 <;> omega) (fun u e => by
          rw [eL] at e
          have := hlt (j + 1) u hjn e
          omega)
        rw [eL] at o3 o4
        have hb1 : ow_b24 (exS S (La j) r) := by
          cases e : La j with
          | none => exact h2
          | some u => exact nl_b24 h2 (by have := hlt j u (by omega) e; omega) hr24
        have hb2 : ow_b24 (exS (exS S (La j) r) (La (j + 1)) (mt r)) := by
          cases e : La (j + 1) with
          | none => exact hb1
          | some u => exact nl_b24 hb1 (by have := hlt (j + 1) u hjn e; omega) hm24
        refine u_X7_close_2 ?_; unfold cm_X7_close_2
        rw [nI_1, xor1 ⟨r, hr24⟩]
        refine w_cs0 (tc_extend (s := n) h1 (show j < n by omega) hn5 hr24 h5 h6 (fun u e => by have := hlt j u (by omega) e; omega)) ?_
        rintro z1 ⟨g1, g2, g3⟩
        have h51 : ∀ k, k < n → z1.2.1 4007 k = oNI (La k) := fun k hk => by
          rw [(g3 4007 (by unfold cP; omega)).2.1]
          exact h5 k hk
        refine w_cs0 (tc_extend (s := n) g1 hjn hn5 hm24 h51 g2 (fun u e => by have := hlt (j + 1) u hjn e; omega)) ?_
        rintro z2 ⟨g4, g5, g6⟩
        have hf2 : fr clR y z2 := fr_tr hf (fr_tr (fr_mono (fun g hg => hg.elim Or.inl (fun h9 => Or.inr (Or.inl h9))) g3) (fr_mono (fun g hg => hg.elim Or.inl (fun h9 => Or.inr (Or.inl h9))) g6))
        have h52 : ∀ k, k < n → z2.2.1 4007 k = oNI (La k) := fun k hk => by
          rw [(g6 4007 (by unfold cP; omega)).2.1]
          exact h51 k hk
        have hsw := oX_swap (j := j) (a := some (mt r)) (b := some r) o3 hjn (by rw [uO_ne (by omega), uO_at]) uO_at
        refine w_ctI (nH_7 nH4) rfl (show j < 24 by omega) (w_ctI (nH_7 nH4) rfl (show j + 1 < 24 by omega) ?_)
        have fin : ∀ t0 : Int32, t0 = (if lp i = true then 1 else -1) → Tt (fun K t => c_X7_close vl K t 3 (nI (16 * b)) (nI l) (nI n) (nI i) (iI a) (nI j) (nI r) (nI (mt r)) 4000 13 4004 4007 t0 (nI i) (usI (usI z2 4007 j (nI (mt r))) 4007 (j + 1) (nI r))) Q := by
          intro t0 ht0
          refine c3 _ (exS (exS S (La j) r) (La (j + 1)) (mt r)) _ _ _ _ _ _ t0 ht0 hst (fr_I2 (fr_I2 hf2 (by unfold clR; omega)) (by unfold clR; omega)) ?_ hb2 (oX_D (fun v => ?_) (fun _ h => h) hsw) (fun k hk => ?_) (fun k hk => ?_) (fun k hk => ?_)
          · exact cAt_fr (P := fun g => g = 4007) (fr_I2 (fr_I rfl) rfl) (fun g hg h9 => by unfold cP at hg; omega) g4
          · show ((v < 2 * i ∨ v = r) ∨ v = mt r) ↔ v < 2 * (i + 1)
            omega
          · have := o4 k hk
            by_cases e1 : k = j + 1
            · rw [e1, uO_at]
              have h9 := o4 (j + 1) hjn
              rw [uO_at] at h9
              exact ⟨fun h => (by cases h), fun h => absurd (h9.mpr h) (by intro h; cases h)⟩
            · rw [uO_ne e1]
              by_cases e2 : k = j
              · rw [e2, uO_at]
                have h9 := o4 j (by omega)
                rw [uO_ne (by omega), uO_at] at h9
                exact ⟨fun h => (by cases h), fun h => absurd (h9.mpr h) (by intro h; cases h)⟩
              · rw [uO_ne e2]
                exact this
          · by_cases e1 : k = j + 1
            · rw [e1, uO_at]
              exact po_usI_at
            · rw [uO_ne e1]
              by_cases e2 : k = j
              · rw [e2, uO_at]
                exact rd_ne (by omega) po_usI_at
              · rw [uO_ne e2, uO_ne e1, uO_ne e2]
                exact rd_ne e1 (rd_ne e2 (h52 k hk))
          · exact rd_ot (by omega) (rd_ot (by omega) (g5 k hk))
        refine w_if (fun h9 => fin (-1) ?_) (fun h9 => fin 1 ?_)
        · rw [a4.mp (p2.mp h9)]
          rfl
        · cases e9 : lp i with
          | true => rfl
          | false => exact absurd (p2.mpr (a4.mpr e9)) h9
      refine u_X7_close_1 ?_; unfold cm_X7_close_1
      rw [nI_add, show (2 : Int32) * nI i = nI (2 * i) from pk_mul 2 _, nI_1]
      refine w_leF (by omega) (by omega) (w_leF (a := 12) (by omega) (by omega) (w_crI ch_13 rfl (show 16 * b + i < 320 by omega) a1 ?_))
      rw [p1]
      refine w_if (fun h9 => c2 (2 * i + 1) ?_) (fun h9 => c2 (2 * i) ?_)
      · rw [a4.mp (p2.mp h9)]
        rfl
      · cases e9 : lp i with
        | true => rfl
        | false => exact absurd (p2.mpr (a4.mpr e9)) h9
  refine e_X7_close ?_
  refine u_X7_close_0 ?_; unfold cm_X7_close_0
  refine w_cs0 (tc_fill (a := 0) (b := n) (nH_4 nH4) (Nat.zero_le _) (show n ≤ 24 by omega) (by omega)) ?_
  rintro z1 ⟨a1, a2⟩
  refine w_cs0 (tc_fill (a := 0) (b := n) (nH_7 nH4) (Nat.zero_le _) (show n ≤ 24 by omega) (by omega)) ?_
  rintro z2 ⟨b1, b2⟩
  have t2 : cAt z2 4000 T := cAt_fr b2 (fun g hg h9 => by unfold cP at hg; omega) (cAt_fr a2 (fun g hg h9 => by unfold cP at hg; omega) hT)
  refine w_cs0 (tc_empty t2) ?_
  rintro z3 ⟨d1, d2⟩
  refine c1 l 0 z3 T.2.2.1 T.2.2.2 (fun _ => none) (fun _ => none) (by omega) (fr_tr (fr_mono (fun g hg => by rw [hg]; unfold clR; omega) a2) (fr_tr (fr_mono (fun g hg => by rw [hg]; unfold clR; omega) b2) (fr_mono (fun g hg => Or.inl hg) d2))) d1 hb ⟨fun k v _ e => (by cases e), fun k v _ e => (by cases e), fun k k' v _ _ e => (by cases e), fun k k' v _ _ e => (by cases e), fun v hv => absurd hv (Nat.not_lt_zero _), fun v hv => absurd hv (Nat.not_lt_zero _)⟩ cbI_0 (fun j hj => absurd hj (Nat.not_lt_zero _)) (fun _ _ => Iff.rfl) (fun j hj => ?_) (fun j hj => ?_)
  · rw [(d2 4007 (by unfold cP; omega)).2.1, b1 j, if_pos ⟨Nat.zero_le _, hj⟩]
    rfl
  · rw [(d2 4004 (by unfold cP; omega)).2.1, (b2 4004 (by omega)).2.1, a1 j, if_pos ⟨Nat.zero_le _, hj⟩]
    rfl
end XCC
