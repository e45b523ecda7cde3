/-! signature, the class: rows of faces and the matrix, exactly -/
section XSGU
variable {vl : Nat → Nat} {y : ow_MS}
theorem te_numRows {c n : Nat} {φ : Nat → Nat} {x2 x3 : Int32} (h8 : y.1 4008 = nI c) (hc : c ≤ 12) (h2 : y.1 6002 = nI n) (hn : n ≤ 48) (hφ : ∀ s, s < 4 * c → y.2.1 6001 s = nI (φ s) ∧ φ s < n) : Te (fun K => ce_X4_numberRows vl K 6000 4000 x2 x3 y) (fun r => r.1 = nI (nF (snS φ (cdN y φ x2 x3) (4 * c)) n) ∧ (∀ f, f < n → (r.2.2.1 6004 f = -1 ∧ snS φ (cdN y φ x2 x3) (4 * c) f = false ∨ (∃ k, k < nF (snS φ (cdN y φ x2 x3) (4 * c)) n ∧ r.2.2.1 6004 f = nI k) ∧ snS φ (cdN y φ x2 x3) (4 * c) f = true)) ∧ fr (fun g => g = 6004) y r.2 ∧ ∀ j, j < nF (snS φ (cdN y φ x2 x3) (4 * c)) n → ∃ f, f < n ∧ snS φ (cdN y φ x2 x3) (4 * c) f = true ∧ r.2.2.1 6004 f = nI j) := by
  let cd := cdN y φ x2 x3
  let Q : Int32 × ow_MS → Prop := fun r => r.1 = nI (nF (snS φ cd (4 * c)) n) ∧ (∀ f, f < n → (r.2.2.1 6004 f = -1 ∧ snS φ cd (4 * c) f = false ∨ (∃ k, k < nF (snS φ cd (4 * c)) n ∧ r.2.2.1 6004 f = nI k) ∧ snS φ cd (4 * c) f = true)) ∧ fr (fun g => g = 6004) y r.2 ∧ ∀ j, j < nF (snS φ (cdN y φ x2 x3) (4 * c)) n → ∃ f, f < n ∧ snS φ (cdN y φ x2 x3) (4 * c) f = true ∧ r.2.2.1 6004 f = nI j
  let I : Nat → ow_MS → Prop := fun s z => (∀ f, f < n → (z.2.1 6004 f = -1 ∧ snS φ cd s f = false ∨ (∃ k, k < nF (snS φ cd s) n ∧ z.2.1 6004 f = nI k) ∧ snS φ cd s f = true)) ∧ fr (fun g => g = 6004) y z ∧ ∀ j, j < nF (snS φ (cdN y φ x2 x3) s) n → ∃ f, f < n ∧ snS φ (cdN y φ x2 x3) s f = true ∧ z.2.1 6004 f = nI j
  have c1 : ∀ (d s : Nat) (z : ow_MS), s + d = 4 * c → I s z → Tt (fun K k => c_X4_numberRows vl K k 1 x2 x3 (nI (nF (snS φ cd s) n)) (nI s) 0 6000 4000 z) Q := by
    intro d
    induction d with
    | zero =>
      intro s z hs hz
      have hs : s = 4 * c := by omega
      subst hs
      refine u_X4_numberRows_1 ?_; unfold cm_X4_numberRows_1
      refine w_rdF ((hz.2.1 4008 (by omega)).1.trans h8) ?_
      rw [show (4 : Int32) * nI c = nI (4 * c) from pk_mul 4 c]
      exact w_leT (by omega) (by omega) (w_some ⟨rfl, hz.1, hz.2.1, hz.2.2⟩)
    | succ d ih =>
      intro s z hs hz
      obtain ⟨p1, p2⟩ := hφ s (by omega)
      have hnl := nF_le (snS φ cd s) n
      have c2 : ∀ (m : Nat) (z1 : ow_MS), m = nF (snS φ cd (s + 1)) n → I (s + 1) z1 → Tt (fun K k => c_X4_numberRows vl K k 2 x2 x3 (nI m) (nI s) (nI (φ s)) 6000 4000 z1) Q := by
        intro m z1 hm h1
        refine u_X4_numberRows_2 ?_; unfold cm_X4_numberRows_2
        rw [nI_1, hm]
        exact ih (s + 1) z1 (by omega) h1
      -- nothing new
      have old : (cd s = false ∨ snS φ cd s (φ s) = true) → Tt (fun K k => c_X4_numberRows vl K k 2 x2 x3 (nI (nF (snS φ cd s) n)) (nI s) (nI (φ s)) 6000 4000 z) Q := by
        intro h9
        have e : ∀ f, snS φ cd (s + 1) f = snS φ cd s f := by
          intro f
          show (snS φ cd s f || (cd s && decide (φ s = f))) = _
          rcases h9 with h9 | h9
          · rw [h9, Bool.false_and, Bool.or_false]
          · by_cases e9 : φ s = f
            · rw [← e9, h9, Bool.true_or]
            · rw [decide_eq_false e9, Bool.and_false, Bool.or_false]
        have ef : snS φ cd (s + 1) = snS φ cd s := funext e
        refine c2 _ z (by rw [ef]) ?_
        refine ⟨?_, hz.2.1, ?_⟩
        · rw [ef]
          exact hz.1
        · have ef2 : snS φ (cdN y φ x2 x3) (s + 1) = snS φ (cdN y φ x2 x3) s := ef
          rw [ef2]
          exact hz.2.2
      refine u_X4_numberRows_1 ?_; unfold cm_X4_numberRows_1
      refine w_rdF ((hz.2.1 4008 (by omega)).1.trans h8) ?_
      rw [show (4 : Int32) * nI c = nI (4 * c) from pk_mul 4 c, rn_shr1 (by omega)]
      have r1 : z.2.1 6001 s = nI (φ s) := by rw [(hz.2.1 6001 (by omega)).2.1]; exact p1
      have r6 : z.2.1 4006 (s / 2) = y.2.1 4006 (s / 2) := by rw [(hz.2.1 4006 (by omega)).2.1]
      have r3 : z.2.1 6003 (φ s) = y.2.1 6003 (φ s) := by rw [(hz.2.1 6003 (by omega)).2.1]
      refine w_leF (by omega) (by omega) (w_crI cg_6001 rfl (by omega) r1 (w_crI cg_4006 rfl (by omega) r6 (w_if (fun a1 => w_crI cg_6003 rfl (by omega) r3 (w_if (fun a2 => ?_) (fun a2 => old (Or.inl (decide_eq_false (fun h9 => a2 h9.2)))))) (fun a1 => old (Or.inl (decide_eq_false (fun h9 => a1 h9.1)))))))
      have hcd : cd s = true := decide_eq_true ⟨a1, a2⟩
      rcases hz.1 (φ s) p2 with ⟨q1, q2⟩ | ⟨⟨k, q1, q3⟩, q2⟩
      · refine w_crI cg_6004 rfl (by omega) q1 (w_ifT rfl (w_ctI cg_6004 rfl (by omega) ?_))
        rw [nI_1]
        have hset := nF_set (q := snS φ cd s) (q' := snS φ cd (s + 1)) (a := φ s) q2 (by
          show (snS φ cd s (φ s) || (cd s && decide (φ s = φ s))) = true
          rw [hcd, decide_eq_true rfl]
          simp) (fun k hk => by
          show (snS φ cd s k || (cd s && decide (φ s = k))) = _
          rw [decide_eq_false (fun h9 => hk h9.symm), Bool.and_false, Bool.or_false]) n
        rw [if_pos p2] at hset
        have s3 : ∀ j, j < nF (snS φ cd (s + 1)) n → ∃ f, f < n ∧ snS φ cd (s + 1) f = true ∧ (usI z (6000 + 4) (φ s) (nI (nF (snS φ cd s) n))).2.1 6004 f = nI j := by
          intro j hj
          by_cases h9 : j < nF (snS φ cd s) n
          · obtain ⟨f, f1, f2, f3⟩ := hz.2.2 j h9
            have hne : f ≠ φ s := fun h8 => by
              have f2' : snS φ cd s f = true := f2
              rw [h8, q2] at f2'
              exact absurd f2' (by decide)
            refine ⟨f, f1, ?_, (po_usI_ne hne).trans f3⟩
            show (snS φ cd s f || (cd s && decide (φ s = f))) = true
            have f2' : snS φ cd s f = true := f2
            rw [f2', Bool.true_or]
          · refine ⟨φ s, p2, ?_, ?_⟩
            · show (snS φ cd s (φ s) || (cd s && decide (φ s = φ s))) = true
              rw [hcd, decide_eq_true rfl]
              simp
            · have : j = nF (snS φ cd s) n := by omega
              rw [this]
              exact po_usI_at
        refine c2 _ _ hset.symm ⟨fun f hf => ?_, fr_I2 hz.2.1 rfl, s3⟩
        by_cases e : f = φ s
        · subst e
          refine Or.inr ⟨⟨nF (snS φ cd s) n, by omega, po_usI_at⟩, ?_⟩
          show (snS φ cd s (φ s) || (cd s && decide (φ s = φ s))) = true
          rw [hcd, decide_eq_true rfl]
          simp
        · have e2 : snS φ cd (s + 1) f = snS φ cd s f := by
            show (snS φ cd s f || (cd s && decide (φ s = f))) = _
            rw [decide_eq_false (fun h9 => e h9.symm), Bool.and_false, Bool.or_false]
          rcases hz.1 f hf with ⟨u1, u2⟩ | ⟨⟨k, u1, u3⟩, u2⟩
          · exact Or.inl ⟨(po_usI_ne e).trans u1, by rw [e2]; exact u2⟩
          · exact Or.inr ⟨⟨k, by omega, (po_usI_ne e).trans u3⟩, by rw [e2]; exact u2⟩
      · exact w_crI cg_6004 rfl (by omega) q3 (w_ifF (rn_neg1 (by omega)) (old (Or.inr q2)))
  have hz0 : nF (snS φ cd 0) n = 0 := by
    have key : ∀ m, nF (fun _ => false) m = 0 := by
      intro m
      induction m with
      | zero => rfl
      | succ m ih =>
        show nF (fun _ => false) m + (if false = true then 1 else 0) = 0
        rw [ih]
        rfl
    exact key n
  refine e_X4_numberRows ?_
  refine u_X4_numberRows_0 ?_; unfold cm_X4_numberRows_0
  refine w_rdF h2 (w_cs0 (tc_fill (a := 0) (b := n) cg_6004 (by omega) (by omega) (by omega)) ?_)
  rintro z1 ⟨f1, f2⟩
  have := c1 (4 * c) 0 z1 (by omega) ⟨fun f hf => Or.inl ⟨by rw [f1 f, if_pos (by omega)], rfl⟩, f2, fun j hj => absurd hj (by
    have hz1 : nF (snS φ (cdN y φ x2 x3) 0) n = 0 := hz0
    omega)⟩
  rw [hz0] at this
  exact this
/-- the matrix of the class holds A -/
def mtA9 (y : ow_MS) (m : Nat) (A : Nat → Nat → Int) : Prop := ∀ i j, i < m → j < m → y.2.2 6005 (8 * i + j) = Int64.ofInt (A i j)
theorem mtA_w {m a b : Nat} {A : Nat → Nat → Int} {s : Int} (h : mtA9 y m A) (ha : a < m) (hb : b < m) (hm : m ≤ 8) : mtA9 (usJ y 6005 (8 * a + b) (Int64.ofInt (A a b + s))) m (fun i j => A i j + s * (zd9 a i * zd9 b j)) := by
  intro i j hi hj
  by_cases h9 : i = a ∧ j = b
  · obtain ⟨h8, h7⟩ := h9
    subst h8
    subst h7
    rw [usJ_at]
    dsimp only
    rw [show zd9 i i = 1 from if_pos rfl, show zd9 j j = 1 from if_pos rfl, Int.mul_one, Int.mul_one]
  · rw [usJ_ne (by omega), h i j hi hj]
    refine congrArg Int64.ofInt ?_
    have : zd9 a i * zd9 b j = 0 := by
      by_cases h8 : i = a
      · rw [show zd9 b j = 0 from if_neg (fun h7 => h9 ⟨h8, h7⟩), Int.mul_zero]
      · rw [show zd9 a i = 0 from if_neg h8, Int.zero_mul]
    dsimp only
    rw [this, Int.mul_zero, Int.add_zero]
theorem te_addAt {m u v : Nat} {t : Int} {A : Nat → Nat → Int} (hm : m ≤ 8) (hu : u < 20) (hv : v < 20) (ht : t = 1 ∨ t = -1) (h : mtA9 y m A) : Te (fun K => ce_X4_addAt vl K 6000 (nI u) (nI v) (iI t) (nI m) y) (fun y1 => fr (fun g => g = 6005) y y1 ∧ mtA9 y1 m (fun i j => A i j + t * (zd9 i u - zd9 i v) * (zd9 j u - zd9 j v))) := by
  have tl : (iI t).toInt64 = Int64.ofInt t := by
    rcases ht with h9 | h9 <;> rw [h9] <;> rfl
  let Q : ow_MS → Prop := fun y1 => fr (fun g => g = 6005) y y1 ∧ mtA9 y1 m (fun i j => A i j + t * (zd9 i u - zd9 i v) * (zd9 j u - zd9 j v))
  have sy : ∀ a b, zd9 a b = zd9 b a := fun a b => by
    unfold zd9
    by_cases h9 : b = a
    · rw [if_pos h9, if_pos h9.symm]
    · rw [if_neg h9, if_neg (fun h8 => h9 h8.symm)]
  have far : ∀ a i, m ≤ a → i < m → zd9 i a = 0 := fun a i h1 h2 => if_neg (by omega)
  have c2 : ∀ z, fr (fun g => g = 6005) y z → mtA9 z m (fun i j => A i j + t * (zd9 i u * zd9 j u) + t * (zd9 i v * zd9 j v)) → Tt (fun K k => c_X4_addAt vl K k 2 (nI u) (nI v) (iI t) (nI m) 6000 z) Q := by
    intro z hz hA
    have out : (m ≤ u ∨ m ≤ v) → Q z := fun hor => by
      refine ⟨hz, fun i j hi hj => ?_⟩
      rw [hA i j hi hj]
      refine congrArg Int64.ofInt ?_
      dsimp only
      rcases hor with h9 | h9
      · rw [far u i h9 hi, far u j h9 hj]
        grind
      · rw [far v i h9 hi, far v j h9 hj]
        grind
    refine u_X4_addAt_2 ?_; unfold cm_X4_addAt_2
    refine w_ifF (fun h9 => absurd h9 (nI_pos (by omega))) (w_le (by omega) (by omega) (fun h1 => w_some (out (Or.inl h1))) (fun h1 => w_ifF (fun h9 => absurd h9 (nI_pos (by omega))) (w_le (by omega) (by omega) (fun h2 => w_some (out (Or.inr h2))) (fun h2 => ?_))))
    have k1 := mtA_w (s := -t) hA (show u < m by omega) (show v < m by omega) hm
    have k2 := mtA_w (s := -t) k1 (show v < m by omega) (show u < m by omega) hm
    rw [ix8, ix8, tl]
    refine w_crJ ch_6005 rfl (by omega) (hA u v (by omega) (by omega)) (w_ctJ ch_6005 rfl (by omega) ?_)
    rw [← Int64.ofInt_sub, Int.sub_eq_add_neg]
    refine w_crJ ch_6005 rfl (by omega) (k1 v u (by omega) (by omega)) (w_ctJ ch_6005 rfl (by omega) ?_)
    rw [← Int64.ofInt_sub, Int.sub_eq_add_neg]
    refine w_some ⟨fr_J2 (fr_J2 hz rfl) rfl, fun i j hi hj => ?_⟩
    refine (k2 i j hi hj).trans (congrArg Int64.ofInt ?_)
    dsimp only
    rw [sy u i, sy v j, sy v i, sy u j]
    grind
  have c1 : ∀ z, fr (fun g => g = 6005) y z → mtA9 z m (fun i j => A i j + t * (zd9 i u * zd9 j u)) → Tt (fun K k => c_X4_addAt vl K k 1 (nI u) (nI v) (iI t) (nI m) 6000 z) Q := by
    intro z hz hA
    refine u_X4_addAt_1 ?_; unfold cm_X4_addAt_1
    refine w_ifF (fun h9 => absurd h9 (nI_pos (by omega))) (w_le (by omega) (by omega) (fun h1 => c2 z hz (fun i j hi hj => ?_)) (fun h1 => ?_))
    · rw [hA i j hi hj]
      dsimp only
      rw [far v i h1 hi, Int.zero_mul, Int.mul_zero, Int.add_zero]
    · have k1 := mtA_w (s := t) hA (show v < m by omega) (show v < m by omega) hm
      rw [ix8, tl]
      refine w_crJ ch_6005 rfl (by omega) (hA v v (by omega) (by omega)) (w_ctJ ch_6005 rfl (by omega) ?_)
      rw [← Int64.ofInt_add]
      refine c2 _ (fr_J2 hz rfl) (fun i j hi hj => ?_)
      refine (k1 i j hi hj).trans (congrArg Int64.ofInt ?_)
      dsimp only
      rw [sy v i, sy v j]
  refine e_X4_addAt ?_
  refine u_X4_addAt_0 ?_; unfold cm_X4_addAt_0
  refine w_ifF (fun h9 => absurd h9 (nI_pos (by omega))) (w_le (by omega) (by omega) (fun h1 => c1 y fr_rf (fun i j hi hj => ?_)) (fun h1 => ?_))
  · rw [h i j hi hj]
    dsimp only
    rw [far u i h1 hi, Int.zero_mul, Int.mul_zero, Int.add_zero]
  · have k1 := mtA_w (s := t) h (show u < m by omega) (show u < m by omega) hm
    rw [ix8, tl]
    refine w_crJ ch_6005 rfl (by omega) (h u u (by omega) (by omega)) (w_ctJ ch_6005 rfl (by omega) ?_)
    rw [← Int64.ofInt_add]
    refine c1 _ (fr_J rfl) (fun i j hi hj => ?_)
    refine (k1 i j hi hj).trans (congrArg Int64.ofInt ?_)
    dsimp only
    rw [sy u i, sy u j]
end XSGU
