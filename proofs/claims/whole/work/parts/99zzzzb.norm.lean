/-! normalise has an answer -/
section GAR3
variable {n : Nat}
theorem ev_take (h2 : 2 ≤ n) (h5 : n ≤ 5) : ∀ (w : List Nat) {p s : Nat} (i : Nat), p < gNN n → evG n p w = s + 1 → ∃ s', s' < gNN n ∧ evG n p (w.take i) = s' + 1
  | w, p, s, 0, hp, _ => ⟨p, hp, by rw [List.take_zero]; rfl⟩
  | [], p, s, i + 1, hp, e => ⟨p, hp, by rw [List.take_nil]; rfl⟩
  | a :: w, p, s, i + 1, hp, e => by
    unfold evG at e
    by_cases ha : a + 1 < n
    · rw [if_pos ha] at e
      by_cases hm : moG n p a = 0
      · rw [if_pos hm] at e; omega
      · rw [if_neg hm] at e
        obtain ⟨t1, t2, t3, t4⟩ := f_two h2 h5 hp ha
        obtain ⟨s', k1, k2⟩ := ev_take h2 h5 w (p := moG n p a - 1) i (by omega) e
        refine ⟨s', k1, ?_⟩
        rw [List.take_succ_cons]
        show (if a + 1 < n then (if moG n p a = 0 then 0 else evG n (moG n p a - 1) (w.take i)) else 0) = _
        rw [if_pos ha, if_neg hm]
        exact k2
    · rw [if_neg ha] at e; omega
/-- the beginning of a row of simple words is one, too -/
theorem bl_take (h2 : 2 ≤ n) (h5 : n ≤ 5) : ∀ (B : List (List Nat)) (i : Nat), blG n B → ∃ B' : List (List Nat), B'.length ≤ B.length ∧ blG n B' ∧ B.flatten.take i = B'.flatten
  | [], i, _ => ⟨[], Nat.le_refl _, bl_nil, by rw [List.flatten_nil, List.take_nil]⟩
  | w :: B, i, hB => by
    obtain ⟨B', b1, b2, b3⟩ := bl_take h2 h5 B (i - w.length) (fun u hu => hB u (List.mem_cons_of_mem _ hu))
    obtain ⟨s, hs, e⟩ := hB w List.mem_cons_self
    have h0 : 0 < gNN n := by have := nn_pos (n := n); omega
    obtain ⟨s', k1, k2⟩ := ev_take h2 h5 w i h0 e
    refine ⟨w.take i :: B', by rw [List.length_cons, List.length_cons]; omega, fun u hu => ?_, ?_⟩
    · rcases List.mem_cons.mp hu with h9 | h9
      · rw [h9]; exact ⟨s', k1, k2⟩
      · exact b2 u h9
    · rw [List.flatten_cons, List.take_append, b3, List.flatten_cons]
/-- turning a word round -/
theorem ov_0 (h2 : 2 ≤ n) (h5 : n ≤ 5) : ovG n 0 = 0 := by
  have h0 : 0 < gNN n := by have := nn_pos (n := n); omega
  have h1 := f_one h2 h5 h0
  have hz : szG n 0 = 0 := (f_fiv h2 h5 (a := 0) (by omega)).2.2.2.1
  exact (f_one h2 h5 h1.2.2.1).2.2.2.2.2.1 (by rw [h1.2.2.2.1, hz])
theorem ev_flip (h2 : 2 ≤ n) (h5 : n ≤ 5) : ∀ (w : List Nat) {p s : Nat}, p < gNN n → evG n p w = s + 1 → evG n (ovG n p) (w.map (fun a => n - 2 - a)) = ovG n s + 1
  | [], p, s, hp, e => by
    have e : p + 1 = s + 1 := e
    rw [show s = p by omega]
    rfl
  | a :: w, p, s, hp, e => by
    unfold evG at e
    by_cases ha : a + 1 < n
    · rw [if_pos ha] at e
      by_cases hm : moG n p a = 0
      · rw [if_pos hm] at e; omega
      · rw [if_neg hm] at e
        obtain ⟨t1, t2, t3, t4⟩ := f_two h2 h5 hp ha
        have ih := ev_flip h2 h5 w (p := moG n p a - 1) (by omega) e
        rw [List.map_cons]
        show (if n - 2 - a + 1 < n then (if moG n (ovG n p) (n - 2 - a) = 0 then 0 else evG n (moG n (ovG n p) (n - 2 - a) - 1) (w.map (fun a => n - 2 - a))) else 0) = _
        rw [if_pos (by omega), (t4 hm).2, if_neg (by omega), Nat.add_sub_cancel]
        exact ih
    · rw [if_neg ha] at e; omega
theorem bl_flip (h2 : 2 ≤ n) (h5 : n ≤ 5) {B : List (List Nat)} (hB : blG n B) : blG n (B.map (List.map (fun a => n - 2 - a))) := by
  intro w hw
  obtain ⟨u, hu, e⟩ := List.mem_map.mp hw
  obtain ⟨s, hs, ev⟩ := hB u hu
  have h0 : 0 < gNN n := by have := nn_pos (n := n); omega
  have := ev_flip h2 h5 u h0 ev
  rw [ov_0 h2 h5] at this
  rw [← e]
  exact ⟨_, (f_one h2 h5 hs).2.2.1, this⟩
theorem bl_app (h2 : 2 ≤ n) (h5 : n ≤ 5) {B C : List (List Nat)} (hB : blG n B) (hC : blG n C) : blG n (B ++ C) := fun w hw => (List.mem_append.mp hw).elim (hB w) (hC w)
theorem bl_one (h2 : 2 ≤ n) (h5 : n ≤ 5) {s : Nat} (hs : s < gNN n) : blG n [ltG n s] := fun w hw => by
  rw [List.mem_singleton.mp hw]
  exact ⟨s, hs, (f_one h2 h5 hs).2.2.2.2.1⟩
end GAR3
/-! the tables in the machine -/
def XGr (r97 r99 r100 r101 r102 r103 r104 r105 : Nat → Int32) : Prop := ∀ n, 2 ≤ n → n ≤ 5 → r97 n = nI (gNN n) ∧ ∀ k, k < gNN n → r100 (120 * n + k) = nI (szG n k) ∧ r102 (120 * n + k) = nI (ahG n k) ∧ r103 (120 * n + k) = nI (ovG n k) ∧ (∀ i, i < szG n k → r99 (10 * (120 * n + k) + i) = nI (leG n k i)) ∧ ∀ j, j + 1 < n → r101 (4 * (120 * n + k) + j) = (if moG n k j = 0 then -1 else nI (moG n k j - 1)) ∧ r104 (4 * (120 * n + k) + j) = nI (psG n k j) ∧ r105 (4 * (120 * n + k) + j) = nI (lvG n k j)
def XG (W : Nat → Nat → Int32) : Prop := XGr (W 97) (W 99) (W 100) (W 101) (W 102) (W 103) (W 104) (W 105)
def tbG (y : ow_MS) : Prop := XG y.2.1
theorem tbG_fr {P : Nat → Prop} {y y1 : ow_MS} (hf : fr P y y1) (hP : ∀ g, P g → ¬ (97 ≤ g ∧ g ≤ 105)) (h : tbG y) : tbG y1 := by
  have e : ∀ g, 97 ≤ g → g ≤ 105 → y1.2.1 g = y.2.1 g := fun g a b => (hf g (fun h9 => hP g h9 ⟨a, b⟩)).2.1
  unfold tbG XG
  rw [e 97 (by omega) (by omega), e 99 (by omega) (by omega), e 100 (by omega) (by omega), e 101 (by omega) (by omega), e 102 (by omega) (by omega), e 103 (by omega) (by omega), e 104 (by omega) (by omega), e 105 (by omega) (by omega)]
  exact h
/-- a row of numbers with its length in a field -/
def lnI (y : ow_MS) (f r : Nat) (L : List Nat) : Prop := y.1 f = nI L.length ∧ ∀ i a, L[i]? = some a → y.2.1 r i = nI a
theorem lnI_fr {P : Nat → Prop} {y y1 : ow_MS} {f r : Nat} {L : List Nat} (hf : fr P y y1) (h1 : ¬ P f) (h2 : ¬ P r) (h : lnI y f r L) : lnI y1 f r L := ⟨by rw [(hf f h1).1]; exact h.1, fun i a hi => by rw [(hf r h2).2.1]; exact h.2 i a hi⟩
theorem lnI_add {y : ow_MS} {f r a : Nat} {L : List Nat} (h : lnI y f r L) : lnI (usF (usI y r L.length (nI a)) f (nI L.length + 1)) f r (L ++ [a]) := by
  refine ⟨by rw [po_usF_at, List.length_append]; exact nI_1 _, fun i b hi => ?_⟩
  show (usI y r L.length (nI a)).2.1 r i = nI b
  by_cases hiL : i = L.length
  · rw [hiL, List.getElem?_append_right (Nat.le_refl _), Nat.sub_self] at hi
    cases hi
    rw [hiL, po_usI_at]
  · have hlt : i < L.length := by
      have h9 := (List.getElem?_eq_some_iff.mp hi).1
      rw [List.length_append] at h9
      have h9 : i < L.length + 1 := h9
      omega
    rw [List.getElem?_append_left hlt] at hi
    exact rd_ne hiL (h.2 i b hi)
theorem lt_take {n k i : Nat} (hi : i < szG n k) : (ltG n k).take (i + 1) = (ltG n k).take i ++ [leG n k i] := by
  have hl : (ltG n k).length = szG n k := by unfold ltG; rw [List.length_map, List.length_range]
  rw [List.take_succ, List.getElem?_eq_getElem (by rw [hl]; exact hi)]
  congr 1
  unfold ltG
  simp
theorem lt_len {n k : Nat} : (ltG n k).length = szG n k := by
  unfold ltG
  rw [List.length_map, List.length_range]
section GARP
variable {z : ow_MS} {n : Nat}
theorem ix120 {n k : Nat} : (120 : Int32) * nI n + nI k = nI (120 * n + k) := by
  rw [show (120 : Int32) * nI n = nI (120 * n) from pk_mul 120 n, nI_add]
theorem ix4 {n k j : Nat} : (4 : Int32) * (120 * nI n + nI k) + nI j = nI (4 * (120 * n + k) + j) := by
  rw [ix120, show (4 : Int32) * nI (120 * n + k) = nI (4 * (120 * n + k)) from pk_mul 4 _, nI_add]
theorem ix10 {t i : Nat} : (10 : Int32) * nI t + nI i = nI (10 * t + i) := by
  rw [show (10 : Int32) * nI t = nI (10 * t) from pk_mul 10 t, nI_add]
theorem u_X13_append_1 {x1 : Int32} {x2 : Int32} {x3 : Int32} {x4 : Int32} {z : ow_MS} {Q : ow_MS → Prop} (H : Tt (fun K k => qm_X13_append_1 K (q_X13_append K k) x1 x2 x3 x4 z) Q) : Tt (fun K k => q_X13_append K k 1 x1 x2 x3 x4 z) Q := w_un (fun _ _ => rfl) H
theorem e_X13_append {x1 : Int32} {x2 : Int32} {z : ow_MS} {Q : ow_MS → Prop} (H : Tt (fun K k => q_X13_append K k 0 x1 x2 0 0 z) Q) : Te (fun K => qe_X13_append K x1 x2 z) Q := w_te H
theorem u_X13_append_0 {x1 : Int32} {x2 : Int32} {x3 : Int32} {x4 : Int32} {z : ow_MS} {Q : ow_MS → Prop} (H : Tt (fun K k => qm_X13_append_0 K (q_X13_append K k) x1 x2 x3 x4 z) Q) : Tt (fun K k => q_X13_append K k 0 x1 x2 x3 x4 z) Q := w_un (fun _ _ => rfl) H
theorem tp_append {s : Nat} {L : List Nat} (h2 : 2 ≤ n) (h5 : n ≤ 5) (hs : s < gNN n) (hT : tbG z) (hw : lnI z 109 108 L) (hL : L.length ≤ 580) : Te (fun K => qe_X13_append K (nI n) (nI s) z) (fun z1 => lnI z1 109 108 (L ++ ltG n s) ∧ fr (fun g => g = 108 ∨ g = 109) z z1) := by
  have hs10 := (f_one h2 h5 hs).1
  have hN := nn_pos (n := n)
  let Q : ow_MS → Prop := fun z1 => lnI z1 109 108 (L ++ ltG n s) ∧ fr (fun g => g = 108 ∨ g = 109) z z1
  have key : ∀ (d i : Nat) (y : ow_MS), i + d = szG n s → lnI y 109 108 (L ++ (ltG n s).take i) → fr (fun g => g = 108 ∨ g = 109) z y → Tt (fun K t => q_X13_append K t 1 (nI n) (nI s) (nI (120 * n + s)) (nI i) y) Q := by
    intro d
    induction d with
    | zero =>
      intro i y hi hw hf
      have hT' := ((tbG_fr hf (fun g hg => by omega) hT) n h2 h5).2 s hs
      refine u_X13_append_1 ?_; unfold qm_X13_append_1
      rw [List.take_of_length_le (by rw [lt_len]; omega)] at hw
      exact w_rdI ml100 rfl (by omega) hT'.1 (w_leT (by omega) (by omega) (w_some ⟨hw, hf⟩))
    | succ d ih =>
      intro i y hi hw hf
      have hT' := ((tbG_fr hf (fun g hg => by omega) hT) n h2 h5).2 s hs
      have hl : (L ++ (ltG n s).take i).length ≤ 590 := by
        rw [List.length_append, List.length_take]
        omega
      have := lnI_add (a := leG n s i) hw
      rw [List.append_assoc, ← lt_take (by omega)] at this
      refine u_X13_append_1 ?_; unfold qm_X13_append_1
      rw [ix10, nI_1]
      exact w_rdI ml100 rfl (by omega) hT'.1 (w_leF (by omega) (by omega) (w_rdF hw.1 (w_rdI ml99 rfl (by omega) (hT'.2.2.2.1 i (by omega)) (w_wrI ml108 rfl (by omega) (w_rdF (x := nI (L ++ (ltG n s).take i).length) hw.1 (w_wrF (ih (i + 1) _ (by omega) this (fr_F2 (fr_I2 hf (Or.inl rfl)) (Or.inr rfl)))))))))
  refine e_X13_append ?_
  refine u_X13_append_0 ?_; unfold qm_X13_append_0
  rw [ix120]
  exact key (szG n s) 0 z (by omega) (by rw [List.take_zero, List.append_nil]; exact hw) fr_rf
theorem u_X13_begins_1 {x1 : Int32} {x2 : Int32} {x3 : Int32} {x4 : Int32} {x5 : Int32} {x6 : Int32} {x7 : Int32} {z : ow_MS} {Q : (Int32 × ow_MS) → Prop} (H : Tt (fun K k => qm_X13_begins_1 K (q_X13_begins K k) x1 x2 x3 x4 x5 x6 x7 z) Q) : Tt (fun K k => q_X13_begins K k 1 x1 x2 x3 x4 x5 x6 x7 z) Q := w_un (fun _ _ => rfl) H
theorem u_X13_begins_3 {x1 : Int32} {x2 : Int32} {x3 : Int32} {x4 : Int32} {x5 : Int32} {x6 : Int32} {x7 : Int32} {z : ow_MS} {Q : (Int32 × ow_MS) → Prop} (H : Tt (fun K k => qm_X13_begins_3 K (q_X13_begins K k) x1 x2 x3 x4 x5 x6 x7 z) Q) : Tt (fun K k => q_X13_begins K k 3 x1 x2 x3 x4 x5 x6 x7 z) Q := w_un (fun _ _ => rfl) H
theorem u_X13_begins_2 {x1 : Int32} {x2 : Int32} {x3 : Int32} {x4 : Int32} {x5 : Int32} {x6 : Int32} {x7 : Int32} {z : ow_MS} {Q : (Int32 × ow_MS) → Prop} (H : Tt (fun K k => qm_X13_begins_2 K (q_X13_begins K k) x1 x2 x3 x4 x5 x6 x7 z) Q) : Tt (fun K k => q_X13_begins K k 2 x1 x2 x3 x4 x5 x6 x7 z) Q := w_un (fun _ _ => rfl) H
theorem e_X13_begins {x1 : Int32} {x2 : Int32} {z : ow_MS} {Q : (Int32 × ow_MS) → Prop} (H : Tt (fun K k => q_X13_begins K k 0 x1 x2 0 0 0 0 0 z) Q) : Te (fun K => qe_X13_begins K x1 x2 z) Q := w_te H
theorem u_X13_begins_0 {x1 : Int32} {x2 : Int32} {x3 : Int32} {x4 : Int32} {x5 : Int32} {x6 : Int32} {x7 : Int32} {z : ow_MS} {Q : (Int32 × ow_MS) → Prop} (H : Tt (fun K k => qm_X13_begins_0 K (q_X13_begins K k) x1 x2 x3 x4 x5 x6 x7 z) Q) : Tt (fun K k => q_X13_begins K k 0 x1 x2 x3 x4 x5 x6 x7 z) Q := w_un (fun _ _ => rfl) H
theorem tp_begins {a : Nat} {B : List (List Nat)} (h2 : 2 ≤ n) (h5 : n ≤ 5) (ha : a + 1 < n) (hT : tbG z) (hB : blG n B) (hr : B.length ≤ 18) (hw : lnI z 109 108 B.flatten) : Te (fun K => qe_X13_begins K (nI n) (nI a) z) (fun r => r.1 = bZ (decide ((rvG n (moG n 0 a - 1) B.flatten).2 = 0)) ∧ lnI r.2 111 110 (rvG n (moG n 0 a - 1) B.flatten).1 ∧ fr (fun g => g = 110 ∨ g = 111) z r.2) := by
  have hN := nn_pos (n := n)
  obtain ⟨z1, z2, z3, z4, z5, z6⟩ := f_fiv h2 h5 ha
  have hm0 := (f_two h2 h5 (k := 0) (by omega) ha).2.2.1
  have hv0 : moG n 0 a - 1 < gNN n := by omega
  have hBl := bl_len h2 h5 B hB
  generalize hvv : moG n 0 a - 1 = v0 at *
  let Q : Int32 × ow_MS → Prop := fun r => r.1 = bZ (decide ((rvG n v0 B.flatten).2 = 0)) ∧ lnI r.2 111 110 (rvG n v0 B.flatten).1 ∧ fr (fun g => g = 110 ∨ g = 111) z r.2
  have pre : ∀ i, (rvG n v0 (B.flatten.take i)).2 < gNN n ∧ (rvG n v0 (B.flatten.take i)).1.length ≤ 180 := by
    intro i
    obtain ⟨B', b1, b2, b3⟩ := bl_take h2 h5 B i hB
    obtain ⟨C, c1, c2, c3, c4, c5⟩ := bl_rv h2 h5 B' hv0 b2
    rw [b3]
    refine ⟨c4, ?_⟩
    rw [c3]
    have := (bl_len h2 h5 C c2).1
    omega
  have tF : ∀ {y : ow_MS}, fr (fun g => g = 110 ∨ g = 111) z y → tbG y := fun hf => tbG_fr hf (fun g hg => by omega) hT
  have wF : ∀ {y : ow_MS}, fr (fun g => g = 110 ∨ g = 111) z y → lnI y 109 108 B.flatten := fun hf => lnI_fr hf (by omega) (by omega) hw
  have c1 : ∀ (d i : Nat) (y : ow_MS), i + d = B.flatten.length → lnI y 111 110 (rvG n v0 (B.flatten.take i)).1 → fr (fun g => g = 110 ∨ g = 111) z y → Tt (fun K t => q_X13_begins K t 1 (nI n) (nI a) (nI (rvG n v0 (B.flatten.take i)).2) (nI i) 0 0 0 y) Q := by
    intro d
    induction d with
    | zero =>
      intro i y hi hq hf
      rw [List.take_of_length_le (by omega)] at hq ⊢
      have hp := (pre B.flatten.length).1
      rw [List.take_of_length_le (Nat.le_refl _)] at hp
      refine u_X13_begins_1 ?_; unfold qm_X13_begins_1
      refine w_rdF (wF hf).1 (w_leT (by omega) (by omega) (w_eqN (b := 0) (by omega) (by omega) (fun h9 => w_okZ (Or.inr rfl) (w_some ⟨?_, hq, hf⟩)) (fun h9 => w_okZ (Or.inl rfl) (w_some ⟨?_, hq, hf⟩))))
      · show (1 : Int32) = bZ (decide ((rvG n v0 B.flatten).2 = 0))
        rw [decide_eq_true h9]
        rfl
      · show (0 : Int32) = bZ (decide ((rvG n v0 B.flatten).2 = 0))
        rw [decide_eq_false h9]
        rfl
    | succ d ih =>
      intro i y hi hq hf
      have hil : i < B.flatten.length := by omega
      obtain ⟨p1, p2⟩ := pre i
      have ht1 : B.flatten.take (i + 1) = B.flatten.take i ++ [B.flatten[i]] := by
        rw [List.take_succ, List.getElem?_eq_getElem hil]
        rfl
      have hb := hBl.2 _ (List.getElem_mem hil)
      have hwi := (wF hf).2 i _ (List.getElem?_eq_getElem hil)
      generalize hbe : B.flatten[i] = b at *
      have hstep : rvG n v0 (B.flatten.take (i + 1)) = ((rvG n v0 (B.flatten.take i)).1 ++ (rvG n (rvG n v0 (B.flatten.take i)).2 [b]).1, (rvG n (rvG n v0 (B.flatten.take i)).2 [b]).2) := by
        rw [ht1, gv_app]
      have ih' := ih (i + 1)
      rw [hstep] at ih'
      generalize hq0 : (rvG n v0 (B.flatten.take i)).1 = q at *
      generalize hv9 : (rvG n v0 (B.flatten.take i)).2 = v at *
      have c3 : ∀ (y : ow_MS), lnI y 111 110 (q ++ (rvG n v [b]).1) → fr (fun g => g = 110 ∨ g = 111) z y → Tt (fun K t => q_X13_begins K t 3 (nI n) (nI a) (nI (rvG n v [b]).2) (nI i) 0 0 0 y) Q := by
        intro y hq hf
        refine u_X13_begins_3 ?_; unfold qm_X13_begins_3
        rw [show nI i + 1 = nI (i + 1) from nI_1 _]
        exact ih' y (by omega) hq hf
      refine u_X13_begins_1 ?_; unfold qm_X13_begins_1
      refine w_rdF (wF hf).1 (w_leF (by omega) hil (w_eqN (b := 0) (by omega) (by omega) (fun h0 => ?_) (fun h0 => ?_)))
      · rw [h0, gv_0] at c3
        rw [h0]
        exact w_rdF hq.1 (w_rdI ml108 rfl (by omega) hwi (w_wrI ml110 rfl (by omega) (w_rdF (x := nI q.length) hq.1 (w_wrF (c3 _ (lnI_add hq) (fr_F2 (fr_I2 hf (Or.inl rfl)) (Or.inr rfl)))))))
      · have hTv := (((tF hf) n h2 h5).2 v p1).2.2.2.2 b hb
        obtain ⟨q1, q2, -⟩ := f_two h2 h5 p1 hb
        have hs10 := (f_one h2 h5 q1).1
        have e9 : rvG n v [b] = (ltG n (psG n v b), lvG n v b) := by
          rw [gv_cons h0]
          show (ltG n (psG n v b) ++ [], lvG n v b) = _
          rw [List.append_nil]
        rw [e9] at c3
        have c2 : ∀ (d2 j : Nat) (y : ow_MS), j + d2 = szG n (psG n v b) → lnI y 111 110 (q ++ (ltG n (psG n v b)).take j) → fr (fun g => g = 110 ∨ g = 111) z y → Tt (fun K t => q_X13_begins K t 2 (nI n) (nI a) (nI v) (nI i) (nI (4 * (120 * n + v) + b)) (nI (120 * n + psG n v b)) (nI j) y) Q := by
          intro d2
          induction d2 with
          | zero =>
            intro j y hj hq hf
            have hTs := ((tF hf) n h2 h5).2 (psG n v b) q1
            have hTv := (((tF hf) n h2 h5).2 v p1).2.2.2.2 b hb
            rw [List.take_of_length_le (by rw [lt_len]; omega)] at hq
            refine u_X13_begins_2 ?_; unfold qm_X13_begins_2
            exact w_rdI ml100 rfl (by omega) hTs.1 (w_leT (by omega) (by omega) (w_rdI ml105 rfl (by omega) hTv.2.2 (c3 y hq hf)))
          | succ d2 ih2 =>
            intro j y hj hq hf
            have hTs := ((tF hf) n h2 h5).2 (psG n v b) q1
            have hl : (q ++ (ltG n (psG n v b)).take j).length ≤ 200 := by
              rw [List.length_append, List.length_take]
              omega
            have := lnI_add (a := leG n (psG n v b) j) hq
            rw [List.append_assoc, ← lt_take (by omega)] at this
            refine u_X13_begins_2 ?_; unfold qm_X13_begins_2
            rw [ix10, show nI j + 1 = nI (j + 1) from nI_1 _]
            exact w_rdI ml100 rfl (by omega) hTs.1 (w_leF (by omega) (by omega) (w_rdF hq.1 (w_rdI ml99 rfl (by omega) (hTs.2.2.2.1 j (by omega)) (w_wrI ml110 rfl (by omega) (w_rdF (x := nI (q ++ (ltG n (psG n v b)).take j).length) hq.1 (w_wrF (ih2 (j + 1) _ (by omega) this (fr_F2 (fr_I2 hf (Or.inl rfl)) (Or.inr rfl)))))))))
        refine w_rdI ml108 rfl (by omega) hwi ?_
        rw [ix4]
        refine w_rdI ml104 rfl (by omega) hTv.2.1 ?_
        rw [ix120]
        exact c2 (szG n (psG n v b)) 0 y (by omega) (by rw [List.take_zero, List.append_nil]; exact hq) hf
  have hTa := (((hT) n h2 h5).2 0 (by omega)).2.2.2.2 a ha
  rw [if_neg z1, Nat.add_zero, hvv] at hTa
  have e101 : z.2.1 101 (480 * n + a) = nI v0 := by
    rw [show 480 * n + a = 4 * (120 * n) + a by omega]
    exact hTa.1
  refine e_X13_begins ?_
  refine u_X13_begins_0 ?_; unfold qm_X13_begins_0
  rw [show (480 : Int32) * nI n = nI (480 * n) from pk_mul 480 n, nI_add]
  refine w_rdI (i := 480 * n + a) ml101 rfl (by omega) e101 (w_wrF ?_)
  have := c1 B.flatten.length 0 (usF z 111 0) (by omega) ⟨po_usF_at, fun i b hb => by simp [rvG] at hb⟩ (fr_F (Or.inr rfl))
  exact this
end GARP
