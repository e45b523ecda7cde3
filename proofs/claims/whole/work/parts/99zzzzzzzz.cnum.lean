/-! the class: signature: faces of one colour are numbered -/
def nF (q : Nat → Bool) : Nat → Nat
  | 0 => 0
  | n + 1 => nF q n + (if q n = true then 1 else 0)
theorem nF_cg {q q' : Nat → Bool} : ∀ n, (∀ k, k < n → q k = q' k) → nF q n = nF q' n
  | 0, _ => rfl
  | n + 1, h => by
    show nF q n + _ = nF q' n + _
    rw [nF_cg n (fun k hk => h k (by omega)), h n (by omega)]
theorem nF_set {q q' : Nat → Bool} {a : Nat} (h1 : q a = false) (h2 : q' a = true) (h3 : ∀ k, k ≠ a → q' k = q k) : ∀ n, nF q' n = nF q n + (if a < n then 1 else 0)
  | 0 => rfl
  | n + 1 => by
    show nF q' n + _ = nF q n + _ + _
    rw [nF_set h1 h2 h3 n]
    by_cases e : n = a
    · subst e
      rw [h1, h2, if_pos rfl, if_neg (Nat.lt_irrefl _), if_pos (Nat.lt_succ_self _)]
      simp
    · rw [h3 n e]
      have e1 : (if a < n + 1 then 1 else 0) = if a < n then 1 else 0 := by
        by_cases h : a < n
        · rw [if_pos h, if_pos (show a < n + 1 by omega)]
        · rw [if_neg h, if_neg (show ¬ a < n + 1 by omega)]
      rw [e1]
      omega
theorem nF_le (q : Nat → Bool) : ∀ n, nF q n ≤ n
  | 0 => Nat.le_refl _
  | n + 1 => by
    have := nF_le q n
    show nF q n + _ ≤ n + 1
    split <;> omega
theorem nF_pos {q : Nat → Bool} {a : Nat} (h : q a = true) : ∀ n, a < n → 1 ≤ nF q n
  | 0, h1 => absurd h1 (Nat.not_lt_zero _)
  | n + 1, h1 => by
    show 1 ≤ nF q n + _
    by_cases e : a = n
    · subst e
      rw [if_pos h]
      omega
    · have := nF_pos h n (by omega)
      omega
def snS (φ : Nat → Nat) (cd : Nat → Bool) : Nat → Nat → Bool
  | 0, _ => false
  | s + 1, f => snS φ cd s f || (cd s && decide (φ s = f))
theorem snS_t {φ : Nat → Nat} {cd : Nat → Bool} {f : Nat} : ∀ s, snS φ cd s f = true ↔ ∃ t, t < s ∧ cd t = true ∧ φ t = f
  | 0 => ⟨fun h => (by cases h), fun ⟨t, h, _⟩ => absurd h (Nat.not_lt_zero _)⟩
  | s + 1 => by
    show (snS φ cd s f || (cd s && decide (φ s = f))) = true ↔ _
    rw [Bool.or_eq_true_iff, snS_t s, Bool.and_eq_true_iff]
    constructor
    · rintro (⟨t, h1, h2, h3⟩ | ⟨h1, h2⟩)
      · exact ⟨t, by omega, h2, h3⟩
      · exact ⟨s, by omega, h1, of_decide_eq_true h2⟩
    · rintro ⟨t, h1, h2, h3⟩
      by_cases e : t = s
      · subst e
        exact Or.inr ⟨h2, decide_eq_true h3⟩
      · exact Or.inl ⟨t, by omega, h2, h3⟩
def cdN (y : ow_MS) (φ : Nat → Nat) (x2 x3 : Int32) (s : Nat) : Bool := decide (y.2.1 4006 (s / 2) = x2 ∧ y.2.1 6003 (φ s) = x3)
section NRW
variable {vl : Nat → Nat} {y : ow_MS}
theorem cg_6001 : ((cX vl).2 6001).2.1 = 48 := rfl
theorem cg_6003 : ((cX vl).2 6003).2.1 = 48 := rfl
theorem cg_6004 : ((cX vl).2 6004).2.1 = 48 := rfl
theorem cg_4006 : ((cX vl).2 4006).2.1 = 24 := rfl
theorem u_X4_numberRows_1 {vl : Nat → Nat} {x2 : Int32} {x3 : Int32} {x4 : Int32} {x5 : Int32} {x6 : Int32} {r0 : Nat} {r1 : Nat} {z : ow_MS} {Q : (Int32 × ow_MS) → Prop} (H : Tt (fun K k => cm_X4_numberRows_1 vl K (c_X4_numberRows vl K k) x2 x3 x4 x5 x6 r0 r1 z) Q) : Tt (fun K k => c_X4_numberRows vl K k 1 x2 x3 x4 x5 x6 r0 r1 z) Q := w_un (fun _ _ => rfl) H
theorem u_X4_numberRows_2 {vl : Nat → Nat} {x2 : Int32} {x3 : Int32} {x4 : Int32} {x5 : Int32} {x6 : Int32} {r0 : Nat} {r1 : Nat} {z : ow_MS} {Q : (Int32 × ow_MS) → Prop} (H : Tt (fun K k => cm_X4_numberRows_2 vl K (c_X4_numberRows vl K k) x2 x3 x4 x5 x6 r0 r1 z) Q) : Tt (fun K k => c_X4_numberRows vl K k 2 x2 x3 x4 x5 x6 r0 r1 z) Q := w_un (fun _ _ => rfl) H
theorem e_X4_numberRows {vl : Nat → Nat} {r0 : Nat} {r1 : Nat} {x2 : Int32} {x3 : Int32} {z : ow_MS} {Q : (Int32 × ow_MS) → Prop} (H : Tt (fun K k => c_X4_numberRows vl K k 0 x2 x3 0 0 0 r0 r1 z) Q) : Te (fun K => ce_X4_numberRows vl K r0 r1 x2 x3 z) Q := w_te H
theorem u_X4_numberRows_0 {vl : Nat → Nat} {x2 : Int32} {x3 : Int32} {x4 : Int32} {x5 : Int32} {x6 : Int32} {r0 : Nat} {r1 : Nat} {z : ow_MS} {Q : (Int32 × ow_MS) → Prop} (H : Tt (fun K k => cm_X4_numberRows_0 vl K (c_X4_numberRows vl K k) x2 x3 x4 x5 x6 r0 r1 z) Q) : Tt (fun K k => c_X4_numberRows vl K k 0 x2 x3 x4 x5 x6 r0 r1 z) Q := w_un (fun _ _ => rfl) H
theorem tc_numRows {c n : Nat} {φ : Nat → Nat} {x2 x3 : Int32} (h8 : y.1 4008 = nI c) (hc : c ≤ 12) (h2 : y.1 6002 = nI n) (hn : n ≤ 48) (hφ : ∀ s, s < 4 * c → y.2.1 6001 s = nI (φ s) ∧ φ s < n) : Te (fun K => ce_X4_numberRows vl K 6000 4000 x2 x3 y) (fun r => r.1 = nI (nF (snS φ (cdN y φ x2 x3) (4 * c)) n) ∧ (∀ f, f < n → (r.2.2.1 6004 f = -1 ∧ snS φ (cdN y φ x2 x3) (4 * c) f = false ∨ (∃ k, k < nF (snS φ (cdN y φ x2 x3) (4 * c)) n ∧ r.2.2.1 6004 f = nI k) ∧ snS φ (cdN y φ x2 x3) (4 * c) f = true)) ∧ fr (fun g => g = 6004) y r.2) := by
  let cd := cdN y φ x2 x3
  let Q : Int32 × ow_MS → Prop := fun r => r.1 = nI (nF (snS φ cd (4 * c)) n) ∧ (∀ f, f < n → (r.2.2.1 6004 f = -1 ∧ snS φ cd (4 * c) f = false ∨ (∃ k, k < nF (snS φ cd (4 * c)) n ∧ r.2.2.1 6004 f = nI k) ∧ snS φ cd (4 * c) f = true)) ∧ fr (fun g => g = 6004) y r.2
  let I : Nat → ow_MS → Prop := fun s z => (∀ f, f < n → (z.2.1 6004 f = -1 ∧ snS φ cd s f = false ∨ (∃ k, k < nF (snS φ cd s) n ∧ z.2.1 6004 f = nI k) ∧ snS φ cd s f = true)) ∧ fr (fun g => g = 6004) y z
  have c1 : ∀ (d s : Nat) (z : ow_MS), s + d = 4 * c → I s z → Tt (fun K k => c_X4_numberRows vl K k 1 x2 x3 (nI (nF (snS φ cd s) n)) (nI s) 0 6000 4000 z) Q := by
    intro d
    induction d with
    | zero =>
      intro s z hs hz
      have hs : s = 4 * c := by omega
      subst hs
      refine u_X4_numberRows_1 ?_; unfold cm_X4_numberRows_1
      refine w_rdF ((hz.2 4008 (by omega)).1.trans h8) ?_
      rw [show (4 : Int32) * nI c = nI (4 * c) from pk_mul 4 c]
      exact w_leT (by omega) (by omega) (w_some ⟨rfl, hz.1, hz.2⟩)
    | succ d ih =>
      intro s z hs hz
      obtain ⟨p1, p2⟩ := hφ s (by omega)
      have hnl := nF_le (snS φ cd s) n
      have c2 : ∀ (m : Nat) (z1 : ow_MS), m = nF (snS φ cd (s + 1)) n → I (s + 1) z1 → Tt (fun K k => c_X4_numberRows vl K k 2 x2 x3 (nI m) (nI s) (nI (φ s)) 6000 4000 z1) Q := by
        intro m z1 hm h1
        refine u_X4_numberRows_2 ?_; unfold cm_X4_numberRows_2
        rw [nI_1, hm]
        exact ih (s + 1) z1 (by omega) h1
      -- nothing new
      have old : (cd s = false ∨ snS φ cd s (φ s) = true) → Tt (fun K k => c_X4_numberRows vl K k 2 x2 x3 (nI (nF (snS φ cd s) n)) (nI s) (nI (φ s)) 6000 4000 z) Q := by
        intro h9
        have e : ∀ f, snS φ cd (s + 1) f = snS φ cd s f := by
          intro f
          show (snS φ cd s f || (cd s && decide (φ s = f))) = _
          rcases h9 with h9 | h9
          · rw [h9, Bool.false_and, Bool.or_false]
          · by_cases e9 : φ s = f
            · rw [← e9, h9, Bool.true_or]
            · rw [decide_eq_false e9, Bool.and_false, Bool.or_false]
        have ef : snS φ cd (s + 1) = snS φ cd s := funext e
        refine c2 _ z (by rw [ef]) ?_
        show (∀ f, f < n → _) ∧ _
        rw [ef]
        exact hz
      refine u_X4_numberRows_1 ?_; unfold cm_X4_numberRows_1
      refine w_rdF ((hz.2 4008 (by omega)).1.trans h8) ?_
      rw [show (4 : Int32) * nI c = nI (4 * c) from pk_mul 4 c, rn_shr1 (by omega)]
      have r1 : z.2.1 6001 s = nI (φ s) := by rw [(hz.2 6001 (by omega)).2.1]; exact p1
      have r6 : z.2.1 4006 (s / 2) = y.2.1 4006 (s / 2) := by rw [(hz.2 4006 (by omega)).2.1]
      have r3 : z.2.1 6003 (φ s) = y.2.1 6003 (φ s) := by rw [(hz.2 6003 (by omega)).2.1]
      refine w_leF (by omega) (by omega) (w_crI cg_6001 rfl (by omega) r1 (w_crI cg_4006 rfl (by omega) r6 (w_if (fun a1 => w_crI cg_6003 rfl (by omega) r3 (w_if (fun a2 => ?_) (fun a2 => old (Or.inl (decide_eq_false (fun h9 => a2 h9.2)))))) (fun a1 => old (Or.inl (decide_eq_false (fun h9 => a1 h9.1)))))))
      have hcd : cd s = true := decide_eq_true ⟨a1, a2⟩
      rcases hz.1 (φ s) p2 with ⟨q1, q2⟩ | ⟨⟨k, q1, q3⟩, q2⟩
      · refine w_crI cg_6004 rfl (by omega) q1 (w_ifT rfl (w_ctI cg_6004 rfl (by omega) ?_))
        rw [nI_1]
        have hset := nF_set (q := snS φ cd s) (q' := snS φ cd (s + 1)) (a := φ s) q2 (by
          show (snS φ cd s (φ s) || (cd s && decide (φ s = φ s))) = true
          rw [hcd, decide_eq_true rfl]
          simp) (fun k hk => by
          show (snS φ cd s k || (cd s && decide (φ s = k))) = _
          rw [decide_eq_false (fun h9 => hk h9.symm), Bool.and_false, Bool.or_false]) n
        rw [if_pos p2] at hset
        refine c2 _ _ hset.symm ⟨fun f hf => ?_, fr_I2 hz.2 rfl⟩
        by_cases e : f = φ s
        · subst e
          refine Or.inr ⟨⟨nF (snS φ cd s) n, by omega, po_usI_at⟩, ?_⟩
          show (snS φ cd s (φ s) || (cd s && decide (φ s = φ s))) = true
          rw [hcd, decide_eq_true rfl]
          simp
        · have e2 : snS φ cd (s + 1) f = snS φ cd s f := by
            show (snS φ cd s f || (cd s && decide (φ s = f))) = _
            rw [decide_eq_false (fun h9 => e h9.symm), Bool.and_false, Bool.or_false]
          rcases hz.1 f hf with ⟨u1, u2⟩ | ⟨⟨k, u1, u3⟩, u2⟩
          · exact Or.inl ⟨(po_usI_ne e).trans u1, by rw [e2]; exact u2⟩
          · exact Or.inr ⟨⟨k, by omega, (po_usI_ne e).trans u3⟩, by rw [e2]; exact u2⟩
      · exact w_crI cg_6004 rfl (by omega) q3 (w_ifF (rn_neg1 (by omega)) (old (Or.inr q2)))
  have hz0 : nF (snS φ cd 0) n = 0 := by
    have key : ∀ m, nF (fun _ => false) m = 0 := by
      intro m
      induction m with
      | zero => rfl
      | succ m ih =>
        show nF (fun _ => false) m + (if false = true then 1 else 0) = 0
        rw [ih]
        rfl
    exact key n
  refine e_X4_numberRows ?_
  refine u_X4_numberRows_0 ?_; unfold cm_X4_numberRows_0
  refine w_rdF h2 (w_cs0 (tc_fill (a := 0) (b := n) cg_6004 (by omega) (by omega) (by omega)) ?_)
  rintro z1 ⟨f1, f2⟩
  have := c1 (4 * c) 0 z1 (by omega) ⟨fun f hf => Or.inl ⟨by rw [f1 f, if_pos (by omega)], rfl⟩, f2⟩
  rw [hz0] at this
  exact this
end NRW
