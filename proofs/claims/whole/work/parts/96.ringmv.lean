/-! rings under the steps of moves -/
theorem rgD_cg {D : Nat → Bool} {S T : ow_NP} (h : vD (fun k => D k = true) S) (hT : ∀ k, D k = true → T.1 k = S.1 k) : rgD D T = rgD D S := by
  have key : ∀ k, D k = true → ∀ i, it T.1 i k = it S.1 i k := by
    intro k hk i
    induction i with
    | zero => rfl
    | succ i ih =>
      show T.1 (it T.1 i k) = S.1 (it S.1 i k)
      rw [ih]
      exact hT _ (itD h hk i)
  refine cntB_cg 24 (fun k _ => ?_)
  show (D k && lst T.1 k 24) = (D k && lst S.1 k 24)
  by_cases e : D k = true
  · rw [e, Bool.true_and, Bool.true_and, Bool.eq_iff_iff, lst_t, lst_t]
    exact ⟨fun q i hi => by rw [← key k e i]; exact q i hi, fun q i hi => by rw [key k e i]; exact q i hi⟩
  · rw [Bool.not_eq_true] at e
    rw [e, Bool.false_and, Bool.false_and]
theorem rgD_set {D E : Nat → Bool} {S : ow_NP} (h : ∀ k, D k = E k) : rgD D S = rgD E S := cntB_cg 24 (fun k _ => by
  show (D k && lst S.1 k 24) = (E k && lst S.1 k 24)
  rw [h k])
theorem it_swap {D : Nat → Prop} {S : ow_NP} (h : vD D S) {v w : Nat} (hv : D v) (hw : D w) {k : Nat} (hk : D k) : ∀ i, it (np_swap S v w).1 i k = np_sw (it S.1 i (np_sw k v w)) v w := by
  intro i
  induction i with
  | zero => exact (np_sw_i v w k).symm
  | succ i ih =>
    show (np_swap S v w).1 (it (np_swap S v w).1 i k) = np_sw (S.1 (it S.1 i (np_sw k v w))) v w
    rw [np_swap_1 h hv hw (itD (vD_swap h hv hw) hk i), ih, np_sw_i]
theorem rgD_swap {D : Nat → Bool} {S : ow_NP} (h : vD (fun k => D k = true) S) (hD : ∀ k, D k = true → k < 24) {v w : Nat} (hv : D v = true) (hw : D w = true) : rgD D (np_swap S v w) = rgD D S := by
  have ht := vD_swap (D := fun k => D k = true) h hv hw
  have hs : ∀ k, D k = true → D (np_sw k v w) = true := fun k hk => np_sw_D (D := fun k => D k = true) hv hw hk
  apply Nat.le_antisymm
  · refine rgD_le ht h hD hD (fun k => np_sw k v w) hs (fun k j hk hj ⟨i, hi⟩ => ⟨i, ?_⟩)
    rw [it_swap (D := fun k => D k = true) h hv hw hk, hi, np_sw_i]
  · refine rgD_le h ht hD hD (fun k => np_sw k v w) hs (fun k j hk hj ⟨i, hi⟩ => ⟨i, ?_⟩)
    rw [it_swap (D := fun k => D k = true) h hv hw (hs k hk), np_sw_i] at hi
    have := congrArg (fun x => np_sw x v w) hi
    rw [np_sw_i, np_sw_i] at this
    exact this
def inB (D : Nat → Bool) (v : Nat) : Nat → Bool := fun k => D k || decide (k = v)
theorem inB_t {D : Nat → Bool} {v k : Nat} : inB D v k = true ↔ D k = true ∨ k = v := by
  unfold inB
  rw [Bool.or_eq_true, decide_eq_true_eq]
theorem vD_inB {D : Nat → Bool} {v : Nat} {S : ow_NP} (h : vD (fun k => D k = true ∨ k = v) S) : vD (fun k => inB D v k = true) S := vD_cg h (fun k => inB_t)
theorem rgD_open {D : Nat → Bool} {S : ow_NP} (h : vD (fun k => D k = true) S) {v : Nat} (hv : ¬ D v = true) (hv24 : v < 24) : rgD (inB D v) (nl S v v) = rgD D S + 1 := by
  have hn : ∀ k, D k = true → (nl S v v).1 k = S.1 k := fun k hk => if_neg (fun e => hv (by rw [← e]; exact hk))
  have hvv : ∀ i, it (nl S v v).1 i v = v := by
    intro i
    induction i with
    | zero => rfl
    | succ i ih =>
      show (nl S v v).1 (it (nl S v v).1 i v) = v
      rw [ih]; exact if_pos rfl
  rw [← rgD_cg h hn]
  have := cntB_add (q := fun k => D k && lst (nl S v v).1 k 24) (r := fun k => inB D v k && lst (nl S v v).1 k 24) (w := v) (by
    show (D v && lst (nl S v v).1 v 24) = false
    rw [Bool.not_eq_true] at hv
    rw [hv, Bool.false_and]) 24 (fun k _ => by
    show ((D k || decide (k = v)) && lst (nl S v v).1 k 24) = ((D k && lst (nl S v v).1 k 24) || decide (k = v))
    by_cases e : k = v
    · have hl : lst (nl S v v).1 v 24 = true := (lst_t 24).mpr (fun i _ => by rw [hvv i]; exact Nat.le_refl v)
      rw [e, hl, Bool.and_true, Bool.and_true]
    · rw [decide_eq_false e, Bool.or_false, Bool.or_false])
  unfold rgD
  rw [this, if_pos hv24]
theorem rgD_put {D : Nat → Bool} {S : ow_NP} (h : vD (fun k => D k = true) S) (hD : ∀ k, D k = true → k < 24) {a v : Nat} (ha : D a = true) (hv : ¬ D v = true) (hv24 : v < 24) : rgD (inB D v) (np_putBehind S a v) = rgD D S := by
  have hav : ¬ a = v := fun e => hv (by rw [← e]; exact ha)
  have n1 : (np_putBehind S a v).1 v = S.1 a := by rw [put_1, if_pos rfl]
  have n2 : (np_putBehind S a v).1 a = v := by rw [put_1, if_neg hav, if_pos rfl]
  have n3 : ∀ k, ¬ k = v → ¬ k = a → (np_putBehind S a v).1 k = S.1 k := fun k x y => by rw [put_1, if_neg x, if_neg y]
  have hdv : ∀ k, D k = true → ¬ k = v := fun k hk e => hv (by rw [← e]; exact hk)
  have ht := vD_inB (vD_put (D := fun k => D k = true) h ha hv)
  have hE : ∀ k, inB D v k = true → k < 24 := fun k hk => by
    rcases inB_t.mp hk with q | q
    · exact hD k q
    · omega
  have up : ∀ k, D k = true → ∀ i, sr (np_putBehind S a v).1 k (it S.1 i k) := by
    intro k hk i
    induction i with
    | zero => exact sr_rf _ _
    | succ i ih =>
      refine sr_tr ih ?_
      have hx := itD (D := fun k => D k = true) h hk i
      show sr _ (it S.1 i k) (S.1 (it S.1 i k))
      by_cases e : it S.1 i k = a
      · rw [e]
        exact ⟨2, by show (np_putBehind S a v).1 ((np_putBehind S a v).1 a) = S.1 a; rw [n2, n1]⟩
      · exact ⟨1, by show (np_putBehind S a v).1 (it S.1 i k) = S.1 (it S.1 i k); exact n3 _ (hdv _ hx) e⟩
  apply Nat.le_antisymm
  · refine rgD_le ht h hE hD (fun k => if k = v then a else k) (fun k hk => ?_) (fun k j hk hj hr => ?_)
    · show D (if k = v then a else k) = true
      by_cases e : k = v
      · rw [if_pos e]; exact ha
      · rw [if_neg e]; exact (inB_t.mp hk).resolve_right e
    · have toF : ∀ x, inB D v x = true → sr (np_putBehind S a v).1 x (if x = v then a else x) ∧ sr (np_putBehind S a v).1 (if x = v then a else x) x ∧ D (if x = v then a else x) = true := fun x hx => by
        by_cases e : x = v
        · rw [if_pos e, e]
          have h1 : sr (np_putBehind S a v).1 a v := ⟨1, n2⟩
          exact ⟨sr_sy ht hE (inB_t.mpr (Or.inl ha)) h1, h1, ha⟩
        · rw [if_neg e]
          exact ⟨sr_rf _ _, sr_rf _ _, (inB_t.mp hx).resolve_right e⟩
      obtain ⟨a1, _, a3⟩ := toF k hk
      obtain ⟨_, b2, _⟩ := toF j hj
      have hr : sr S.1 (if k = v then a else k) (if j = v then a else j) := hr
      obtain ⟨i, hi⟩ := hr
      have := up _ a3 i
      rw [hi] at this
      exact sr_tr a1 (sr_tr this b2)
  · refine rgD_le h ht hD hE (fun k => k) (fun k hk => inB_t.mpr (Or.inl hk)) (fun k j hk hj hr => ?_)
    obtain ⟨i, hi⟩ := hr
    have key : ∀ i, (D (it (np_putBehind S a v).1 i k) = true ∧ sr S.1 k (it (np_putBehind S a v).1 i k)) ∨ (it (np_putBehind S a v).1 i k = v ∧ sr S.1 k a) := by
      intro i
      induction i with
      | zero => exact Or.inl ⟨hk, sr_rf _ _⟩
      | succ i ih =>
        show (D ((np_putBehind S a v).1 (it (np_putBehind S a v).1 i k)) = true ∧ sr S.1 k ((np_putBehind S a v).1 (it (np_putBehind S a v).1 i k))) ∨ ((np_putBehind S a v).1 (it (np_putBehind S a v).1 i k) = v ∧ sr S.1 k a)
        rcases ih with ⟨q1, q2⟩ | ⟨q1, q2⟩
        · by_cases e : it (np_putBehind S a v).1 i k = a
          · rw [e] at q2 ⊢
            exact Or.inr ⟨n2, q2⟩
          · rw [n3 _ (hdv _ q1) e]
            exact Or.inl ⟨(h _ q1).1, sr_tr q2 (sr_n _ _)⟩
        · rw [q1, n1]
          exact Or.inl ⟨(h a ha).1, sr_tr q2 (sr_n _ _)⟩
    rcases key i with ⟨_, q⟩ | ⟨q, _⟩
    · rw [hi] at q; exact q
    · rw [hi] at q; exact absurd q (hdv j hj)
