/-! turnRound: word reversing in the reference's constructor -/
def cvG (c : Nat) : Int32 := if c < 8 then nI c else 0 - nI (c - 8)
theorem cv_c : ∀ c : Fin 13, (c.val < 8 → 0 ≤ cvG c.val ∧ cvG c.val = nI c.val) ∧ (8 < c.val → ¬ 0 ≤ cvG c.val ∧ 0 - cvG c.val = nI (c.val - 8) ∧ ¬ 0 < cvG c.val) ∧ (8 ≤ c.val → cvG c.val ≤ 0) ∧ (0 < c.val → c.val < 8 → ¬ cvG c.val ≤ 0) := by decide +kernel
theorem cv_ab : ∀ a : Fin 5, ∀ b : Fin 5, (if 0 ≤ (nI a.val - nI b.val) then (nI a.val - nI b.val) else 0 - (nI a.val - nI b.val)) = nI (a.val - b.val + (b.val - a.val)) := by decide +kernel
theorem cv_neg {a : Nat} (h1 : 1 ≤ a) : 0 - nI a = cvG (8 + a) := by
  unfold cvG
  rw [if_neg (by omega), show 8 + a - 8 = a by omega]
theorem cv_pos {a : Nat} (h1 : a < 8) : nI a = cvG a := by
  unfold cvG
  rw [if_pos h1]
theorem cv_let : ∀ a : Fin 4, (-1 : Int32) - nI a.val = cvG (9 + a.val) := by decide +kernel
/-- a row holds a list of letters -/
def rwG (y : ow_MS) (L : List Nat) : Prop := ∀ j c, L[j]? = some c → y.2.1 107 j = cvG c
theorem spl {L M : List Nat} {i j : Nat} (hi : i ≤ L.length) : (L.take i ++ M ++ L.drop (i + 2))[j]? = if j < i then L[j]? else if j < i + M.length then M[j - i]? else L[j - M.length + 2]? := by
  have hl : (L.take i).length = i := by rw [List.length_take]; omega
  by_cases h1 : j < i
  · rw [if_pos h1, List.getElem?_append_left (by rw [List.length_append, hl]; omega), List.getElem?_append_left (by omega), List.getElem?_take_of_lt h1]
  · rw [if_neg h1]
    by_cases h2 : j < i + M.length
    · rw [if_pos h2, List.getElem?_append_left (by rw [List.length_append, hl]; omega), List.getElem?_append_right (by omega), hl]
    · rw [if_neg h2, List.getElem?_append_right (by rw [List.length_append, hl]; omega), List.length_append, hl, List.getElem?_drop]
      congr 1
      omega
def pR (g : Nat) : Prop := g = 104 ∨ g = 105 ∨ g = 107
/-- the tables that turnRound reads -/
def tR (n : Nat) (y : ow_MS) : Prop := ∀ k, k < gNN n → y.2.1 100 (120 * n + k) = nI (szG n k) ∧ (∀ i, i < szG n k → y.2.1 99 (10 * (120 * n + k) + i) = nI (leG n k i)) ∧ ∀ j, j + 1 < n → y.2.1 101 (4 * (120 * n + k) + j) = (if moG n k j = 0 then -1 else nI (moG n k j - 1))
theorem tR_fr {P : Nat → Prop} {n : Nat} {y y1 : ow_MS} (hf : fr P y y1) (h1 : ¬ P 99) (h2 : ¬ P 100) (h3 : ¬ P 101) (h : tR n y) : tR n y1 := by
  intro k hk
  obtain ⟨a, b, c⟩ := h k hk
  rw [(hf 99 h1).2.1, (hf 100 h2).2.1, (hf 101 h3).2.1]
  exact ⟨a, b, c⟩
theorem u_X13_turnRound_a_10 {x1 : Int32} {x2 : Int32} {x3 : Int32} {x4 : Int32} {x5 : Int32} {x6 : Int32} {x7 : Int32} {x8 : Int32} {x9 : Int32} {x10 : Int32} {z : ow_MS} {Q : ow_MS → Prop} (H : Tt (fun K k => qm_X13_turnRound_10_a K (q_X13_turnRound_a K k) x1 x2 x3 x4 x5 x6 x7 x8 x9 x10 z) Q) : Tt (fun K k => q_X13_turnRound_a K k 10 x1 x2 x3 x4 x5 x6 x7 x8 x9 x10 z) Q := w_un (fun _ _ => rfl) H
theorem u_X13_turnRound_a_9 {x1 : Int32} {x2 : Int32} {x3 : Int32} {x4 : Int32} {x5 : Int32} {x6 : Int32} {x7 : Int32} {x8 : Int32} {x9 : Int32} {x10 : Int32} {z : ow_MS} {Q : ow_MS → Prop} (H : Tt (fun K k => qm_X13_turnRound_9_a K (q_X13_turnRound_a K k) x1 x2 x3 x4 x5 x6 x7 x8 x9 x10 z) Q) : Tt (fun K k => q_X13_turnRound_a K k 9 x1 x2 x3 x4 x5 x6 x7 x8 x9 x10 z) Q := w_un (fun _ _ => rfl) H
theorem u_X13_turnRound_a_8 {x1 : Int32} {x2 : Int32} {x3 : Int32} {x4 : Int32} {x5 : Int32} {x6 : Int32} {x7 : Int32} {x8 : Int32} {x9 : Int32} {x10 : Int32} {z : ow_MS} {Q : ow_MS → Prop} (H : Tt (fun K k => qm_X13_turnRound_8_a K (q_X13_turnRound_a K k) x1 x2 x3 x4 x5 x6 x7 x8 x9 x10 z) Q) : Tt (fun K k => q_X13_turnRound_a K k 8 x1 x2 x3 x4 x5 x6 x7 x8 x9 x10 z) Q := w_un (fun _ _ => rfl) H
theorem u_X13_turnRound_a_2 {x1 : Int32} {x2 : Int32} {x3 : Int32} {x4 : Int32} {x5 : Int32} {x6 : Int32} {x7 : Int32} {x8 : Int32} {x9 : Int32} {x10 : Int32} {z : ow_MS} {Q : ow_MS → Prop} (H : Tt (fun K k => qm_X13_turnRound_2_a K (q_X13_turnRound_a K k) x1 x2 x3 x4 x5 x6 x7 x8 x9 x10 z) Q) : Tt (fun K k => q_X13_turnRound_a K k 2 x1 x2 x3 x4 x5 x6 x7 x8 x9 x10 z) Q := w_un (fun _ _ => rfl) H
theorem u_X13_turnRound_a_7 {x1 : Int32} {x2 : Int32} {x3 : Int32} {x4 : Int32} {x5 : Int32} {x6 : Int32} {x7 : Int32} {x8 : Int32} {x9 : Int32} {x10 : Int32} {z : ow_MS} {Q : ow_MS → Prop} (H : Tt (fun K k => qm_X13_turnRound_7_a K (q_X13_turnRound_a K k) x1 x2 x3 x4 x5 x6 x7 x8 x9 x10 z) Q) : Tt (fun K k => q_X13_turnRound_a K k 7 x1 x2 x3 x4 x5 x6 x7 x8 x9 x10 z) Q := w_un (fun _ _ => rfl) H
theorem u_X13_turnRound_a_6 {x1 : Int32} {x2 : Int32} {x3 : Int32} {x4 : Int32} {x5 : Int32} {x6 : Int32} {x7 : Int32} {x8 : Int32} {x9 : Int32} {x10 : Int32} {z : ow_MS} {Q : ow_MS → Prop} (H : Tt (fun K k => qm_X13_turnRound_6_a K (q_X13_turnRound_a K k) x1 x2 x3 x4 x5 x6 x7 x8 x9 x10 z) Q) : Tt (fun K k => q_X13_turnRound_a K k 6 x1 x2 x3 x4 x5 x6 x7 x8 x9 x10 z) Q := w_un (fun _ _ => rfl) H
theorem u_X13_turnRound_a_3 {x1 : Int32} {x2 : Int32} {x3 : Int32} {x4 : Int32} {x5 : Int32} {x6 : Int32} {x7 : Int32} {x8 : Int32} {x9 : Int32} {x10 : Int32} {z : ow_MS} {Q : ow_MS → Prop} (H : Tt (fun K k => qm_X13_turnRound_3_a K (q_X13_turnRound_a K k) x1 x2 x3 x4 x5 x6 x7 x8 x9 x10 z) Q) : Tt (fun K k => q_X13_turnRound_a K k 3 x1 x2 x3 x4 x5 x6 x7 x8 x9 x10 z) Q := w_un (fun _ _ => rfl) H
theorem u_X13_turnRound_a_5 {x1 : Int32} {x2 : Int32} {x3 : Int32} {x4 : Int32} {x5 : Int32} {x6 : Int32} {x7 : Int32} {x8 : Int32} {x9 : Int32} {x10 : Int32} {z : ow_MS} {Q : ow_MS → Prop} (H : Tt (fun K k => qm_X13_turnRound_5_a K (q_X13_turnRound_a K k) x1 x2 x3 x4 x5 x6 x7 x8 x9 x10 z) Q) : Tt (fun K k => q_X13_turnRound_a K k 5 x1 x2 x3 x4 x5 x6 x7 x8 x9 x10 z) Q := w_un (fun _ _ => rfl) H
theorem u_X13_turnRound_a_4 {x1 : Int32} {x2 : Int32} {x3 : Int32} {x4 : Int32} {x5 : Int32} {x6 : Int32} {x7 : Int32} {x8 : Int32} {x9 : Int32} {x10 : Int32} {z : ow_MS} {Q : ow_MS → Prop} (H : Tt (fun K k => qm_X13_turnRound_4_a K (q_X13_turnRound_a K k) x1 x2 x3 x4 x5 x6 x7 x8 x9 x10 z) Q) : Tt (fun K k => q_X13_turnRound_a K k 4 x1 x2 x3 x4 x5 x6 x7 x8 x9 x10 z) Q := w_un (fun _ _ => rfl) H
theorem u_X13_turnRound_a_1 {x1 : Int32} {x2 : Int32} {x3 : Int32} {x4 : Int32} {x5 : Int32} {x6 : Int32} {x7 : Int32} {x8 : Int32} {x9 : Int32} {x10 : Int32} {z : ow_MS} {Q : ow_MS → Prop} (H : Tt (fun K k => qm_X13_turnRound_1_a K (q_X13_turnRound_a K k) x1 x2 x3 x4 x5 x6 x7 x8 x9 x10 z) Q) : Tt (fun K k => q_X13_turnRound_a K k 1 x1 x2 x3 x4 x5 x6 x7 x8 x9 x10 z) Q := w_un (fun _ _ => rfl) H
theorem e_X13_turnRound_a {x1 : Int32} {x2 : Int32} {x3 : Int32} {z : ow_MS} {Q : ow_MS → Prop} (H : Tt (fun K k => q_X13_turnRound_a K k 0 x1 x2 x3 0 0 0 0 0 0 0 z) Q) : Te (fun K => qe_X13_turnRound_a K x1 x2 x3 z) Q := w_te H
theorem u_X13_turnRound_a_0 {x1 : Int32} {x2 : Int32} {x3 : Int32} {x4 : Int32} {x5 : Int32} {x6 : Int32} {x7 : Int32} {x8 : Int32} {x9 : Int32} {x10 : Int32} {z : ow_MS} {Q : ow_MS → Prop} (H : Tt (fun K k => qm_X13_turnRound_0_a K (q_X13_turnRound_a K k) x1 x2 x3 x4 x5 x6 x7 x8 x9 x10 z) Q) : Tt (fun K k => q_X13_turnRound_a K k 0 x1 x2 x3 x4 x5 x6 x7 x8 x9 x10 z) Q := w_un (fun _ _ => rfl) H
theorem tp_turnRound_a {z : ow_MS} {n k j : Nat} (h2 : 2 ≤ n) (h5 : n ≤ 5) (hk : k < gNN n) (hj : j + 1 < n) (hz : tR n z) : Te (fun K => qe_X13_turnRound_a K (nI n) (nI k) (nI j) z) (fun z1 => (z1.2.1 104 (4 * (120 * n + k) + j) = nI (psG n k j) ∧ z1.2.1 105 (4 * (120 * n + k) + j) = nI (lvG n k j)) ∧ (∀ g i, (g = 104 ∨ g = 105) → i ≠ 4 * (120 * n + k) + j → z1.2.1 g i = z.2.1 g i) ∧ fB pR n z z1) := by
  have hN := nn_pos (n := n)
  let Q : ow_MS → Prop := fun z1 => (z1.2.1 104 (4 * (120 * n + k) + j) = nI (psG n k j) ∧ z1.2.1 105 (4 * (120 * n + k) + j) = nI (lvG n k j)) ∧ (∀ g i, (g = 104 ∨ g = 105) → i ≠ 4 * (120 * n + k) + j → z1.2.1 g i = z.2.1 g i) ∧ fB pR n z z1
  let F : ow_MS → Prop := fun y => fB (fun g => g = 107) n z y
  have tRy : ∀ {y : ow_MS}, F y → tR n y := fun hf => tR_fr hf.1 (by omega) (by omega) (by omega) hz
  have F2 : ∀ {y : ow_MS} {i : Nat} {x : Int32}, F y → F (usI y 107 i x) := fun hf => fB_I2 hf rfl (Or.inr (Or.inl rfl))
  have i4 : (4 : Int32) * nI (120 * n + k) + nI j = nI (4 * (120 * n + k) + j) := by
    rw [show (4 : Int32) * nI (120 * n + k) = nI (4 * (120 * n + k)) from pk_mul 4 _, nI_add]
  have hw := hh10 h2 h5 hk hj
  obtain ⟨R, hR, u, r, hU, hu, hD⟩ : ∃ R, trG 110 (l0G n k j) 0 = some R ∧ ∃ u r, upG n R 0 = some (u, r) ∧ u = psG n k j ∧ dnG n r.reverse 0 = some (lvG n k j) := by
    unfold tnG at hw
    split at hw
    · exact absurd hw (by decide)
    · rename_i R hR
      refine ⟨R, hR, ?_⟩
      split at hw
      · exact absurd hw (by decide)
      · rename_i u r hU
        rw [Bool.and_eq_true] at hw
        exact ⟨u, r, hU, of_decide_eq_true hw.1, of_decide_eq_true hw.2⟩
  have hR36 : R.length ≤ 36 := by
    have aux : ∀ f L i, trG f L i = some R → R.length ≤ 36 := by
      intro f
      induction f with
      | zero =>
        intro L i h
        cases h
      | succ f ih =>
        intro L i h
        unfold trG at h
        split at h
        · cases h
        · split at h
          · cases h
            omega
          · split at h
            · cases h
            · split at h
              · cases h
              · split at h
                · split at h
                  · cases h
                  · exact ih _ _ h
                · exact ih _ _ h
    exact aux _ _ _ hR
  -- what stands behind the letters
  have c10 : ∀ (l : List Nat) (y : ow_MS) (v : Nat) (x6 : Int32) (e : Nat) (W V : List Nat), F y → rwG y R → v < gNN n → R = W ++ l.reverse ++ V → e = W.length → dnG n l v = some (lvG n k j) → Tt (fun K t => q_X13_turnRound_a K t 10 (nI n) (nI k) (nI j) (nI (120 * n + k)) (nI R.length) x6 (nI u) (nI e) (nI v) (nI (e + l.length) - 1) y) Q := by
    intro l
    induction l with
    | nil =>
      intro y v x6 e W V hF hr hv hW he hd
      have ev : v = lvG n k j := Option.some.inj hd
      refine u_X13_turnRound_a_10 ?_; unfold qm_X13_turnRound_10_a
      refine w_ifT ?_ ?_
      · show nI e - 1 < nI e
        rw [nI_iI, show (1 : Int32) = iI 1 from rfl, iI_sub]
        have : e ≤ 36 := by
          rw [he]
          have := congrArg List.length hW
          rw [List.length_append, List.length_append] at this
          omega
        exact (iI_lt (by omega) (by omega) (by omega) (by omega)).mpr (by omega)
      · rw [i4]
        refine w_wrI ma104 rfl (by omega) (w_wrI ma105 rfl (by omega) (w_some ⟨⟨rd_ot (by omega) (by rw [hu]; exact po_usI_at), by rw [ev]; exact po_usI_at⟩, fun g i hg hi => ?_, ?_⟩))
        · have e0 : y.2.1 g i = z.2.1 g i := congrFun (hF.1 g (by omega)).2.1 i
          rcases hg with rfl | rfl
          · exact rd_ot (by omega) (rd_ne hi e0)
          · exact rd_ne hi (rd_ot (by omega) e0)
        · exact fB_I2 (fB_I2 (fB_mono hF (fun g hg => Or.inr (Or.inr hg))) (Or.inl rfl) (by unfold inB; omega)) (Or.inr (Or.inl rfl)) (by unfold inB; omega)
    | cons x l ih =>
      intro y v x6 e W V hF hr hv hW he hd
      unfold dnG at hd
      split at hd
      · cases hd
      rename_i hx
      have hx8 : 8 < x := by omega
      have hx12 : x ≤ 12 := by omega
      have hxn : x < n + 8 := by omega
      have hm0 : moG n v (x - 9) ≠ 0 := fun h => hx (Or.inr (Or.inr (Or.inr h)))
      have hmN := (f_two h2 h5 hv (show x - 9 + 1 < n by omega)).2.2.1
      have eR : R[e + l.length]? = some x := by
        rw [hW, List.reverse_cons, ← List.append_assoc, List.append_assoc (W ++ l.reverse), List.getElem?_append_right (by rw [List.length_append, List.length_reverse]; omega), List.length_append, List.length_reverse, ← he, Nat.sub_self]
        rfl
      have hlen : e + (l.length + 1) ≤ R.length := by
        rw [hW, List.length_append, List.length_append, List.length_reverse, List.length_cons, he]
        omega
      have e107 := hr _ _ eR
      obtain ⟨_, q2, q3, _⟩ := cv_c ⟨x, by omega⟩
      have q2 := q2 hx8
      have e101 := ((tRy hF) v hv).2.2 (x - 9) (by omega)
      rw [if_neg hm0] at e101
      refine u_X13_turnRound_a_10 ?_; unfold qm_X13_turnRound_10_a
      rw [show nI (e + (x :: l).length) - 1 = nI (e + l.length) from by
        rw [List.length_cons, show e + (l.length + 1) = (e + l.length) + 1 by omega]
        exact pk_sub (b := 1) (by omega)]
      refine w_ltF (by omega) (by omega) (w_rdI ma107 rfl (by omega) e107 ?_)
      refine w_rdI (i := 4 * (120 * n + v) + (x - 9)) ma101 ?_ (by omega) e101 ?_
      · rw [ix120, show (4 : Int32) * nI (120 * n + v) = nI (4 * (120 * n + v)) from pk_mul 4 _]
        have : cvG x = 0 - nI (x - 8) := by
          unfold cvG
          rw [if_neg (by omega)]
        rw [this, nI_iI, nI_iI (x - 8), show (0 : Int32) = iI 0 from rfl, show (1 : Int32) = iI 1 from rfl, iI_sub, iI_sub, iI_sub, nI_iI]
        congr 1
        omega
      · rw [show nI (e + l.length) + -1 = nI (e + l.length) - 1 from by
          rw [nI_iI, show (-1 : Int32) = iI (-1) from rfl, show (1 : Int32) = iI 1 from rfl, iI_add, iI_sub]
          congr 1]
        exact ih y _ x6 e W ([x] ++ V) hF hr (by omega) (by rw [hW, List.reverse_cons, List.append_assoc, List.append_assoc, List.append_assoc]) he hd
  have c9 : ∀ (y : ow_MS) (x6 : Int32) (W : List Nat) (e : Nat), F y → rwG y R → R = W ++ r → e = W.length → Tt (fun K t => q_X13_turnRound_a K t 9 (nI n) (nI k) (nI j) (nI (120 * n + k)) (nI R.length) x6 (nI u) (nI e) 0 0 y) Q := by
    intro y x6 W e hF hr hW he
    have := c10 r.reverse y 0 x6 e W [] hF hr (by omega) (by rw [List.reverse_reverse, List.append_nil]; exact hW) he hD
    rw [List.length_reverse, show e + r.length = R.length from by rw [hW, List.length_append, he]] at this
    refine u_X13_turnRound_a_9 ?_; unfold qm_X13_turnRound_9_a
    exact this
  have c8 : ∀ (l : List Nat) (y : ow_MS) (v : Nat) (x6 : Int32) (e : Nat) (W : List Nat), F y → rwG y R → v < gNN n → R = W ++ l → e = W.length → upG n l v = some (u, r) → Tt (fun K t => q_X13_turnRound_a K t 8 (nI n) (nI k) (nI j) (nI (120 * n + k)) (nI R.length) x6 (nI v) (nI e) 0 0 y) Q := by
    intro l
    induction l with
    | nil =>
      intro y v x6 e W hF hr hv hW he hd
      have h1 := Option.some.inj hd
      have hv : v = u := congrArg Prod.fst h1
      have hr0 : [] = r := congrArg Prod.snd h1
      have hlen : R.length = e := by rw [hW, List.append_nil, he]
      refine u_X13_turnRound_a_8 ?_; unfold qm_X13_turnRound_8_a
      rw [hv]
      exact w_leT (by omega) (by omega) (c9 y x6 W e hF hr (by rw [← hr0]; exact hW) he)
    | cons x l ih =>
      intro y v x6 e W hF hr hv hW he hd
      have eR : R[e]? = some x := by
        rw [hW, List.getElem?_append_right (by omega), ← he, Nat.sub_self]
        rfl
      have hlen : e + 1 ≤ R.length := by
        rw [hW, List.length_append, List.length_cons, he]
        omega
      have e107 := hr _ _ eR
      unfold upG at hd
      split at hd
      · cases hd
      rename_i hx
      obtain ⟨q1, q2, q3, q4⟩ := cv_c ⟨x, by omega⟩
      split at hd
      · rename_i hx8
        split at hd
        · cases hd
        rename_i hm
        have hm0 : moG n v (x - 1) ≠ 0 := fun h => hm (Or.inl h)
        have hxn : x < n := by
          refine Nat.lt_of_not_le fun h => hm (Or.inr h)
        have hmN := (f_two h2 h5 hv (show x - 1 + 1 < n by omega)).2.2.1
        have e101 := ((tRy hF) v hv).2.2 (x - 1) (by omega)
        rw [if_neg hm0] at e101
        have e1 : cvG x = nI x := (q1 hx8).2
        refine u_X13_turnRound_a_8 ?_; unfold qm_X13_turnRound_8_a
        refine w_leF (by omega) (by omega) (w_rdI ma107 rfl (by omega) e107 (w_ifF (q4 (by show 0 < x; omega) hx8) (w_rdI ma107 rfl (by omega) e107 (w_rdI (i := 4 * (120 * n + v) + (x - 1)) ma101 ?_ (by omega) e101 ?_))))
        · rw [e1, ix4, show nI (4 * (120 * n + v) + x) - 1 = nI (4 * (120 * n + v) + x - 1) from pk_sub (b := 1) (by omega)]
          congr 1
          omega
        · rw [nI_1]
          exact ih y _ x6 (e + 1) (W ++ [x]) hF hr (by omega) (by rw [hW, List.append_assoc]; rfl) (by rw [List.length_append, he]; rfl) hd
      · rename_i hx8
        have h1 := Option.some.inj hd
        have hv : v = u := congrArg Prod.fst h1
        have hr0 : x :: l = r := congrArg Prod.snd h1
        refine u_X13_turnRound_a_8 ?_; unfold qm_X13_turnRound_8_a
        rw [hv]
        exact w_leF (by omega) (by omega) (w_rdI ma107 rfl (by omega) e107 (w_ifT (q3 (by show 8 ≤ x; omega)) (c9 y x6 W e hF hr (by rw [← hr0]; exact hW) he)))
  have c2 : ∀ (f : Nat) (L : List Nat) (i : Nat) (y : ow_MS), i ≤ 36 → trG f L i = some R → F y → rwG y L → Tt (fun K t => q_X13_turnRound_a K t 2 (nI n) (nI k) (nI j) (nI (120 * n + k)) (nI L.length) (nI i) 0 0 0 0 y) Q := by
    intro f
    induction f with
    | zero =>
      intro L i y _ h
      cases h
    | succ f ih =>
      intro L i y hi36 h hF hr
      unfold trG at h
      split at h
      · cases h
      rename_i hL
      split at h
      · rename_i hn
        cases h
        have hle : R.length ≤ i + 1 := List.getElem?_eq_none_iff.mp hn
        refine u_X13_turnRound_a_2 ?_; unfold qm_X13_turnRound_2_a
        rw [nI_1]
        exact w_leT (by omega) hle (c8 R y 0 _ 0 [] hF hr (by omega) rfl rfl hU)
      rename_i b hb
      split at h
      · cases h
      rename_i x hx
      split at h
      · cases h
      rename_i hc
      have hil : i + 1 < L.length := (List.getElem?_eq_some_iff.mp hb).1
      have ex := hr _ _ hx
      have eb := hr _ _ hb
      obtain ⟨q1, q2, q3, q4⟩ := cv_c ⟨x, by omega⟩
      obtain ⟨p1, p2, p3, p4⟩ := cv_c ⟨b, by omega⟩
      have k7 : trG f L (i + 1) = some R → Tt (fun K t => q_X13_turnRound_a K t 7 (nI n) (nI k) (nI j) (nI (120 * n + k)) (nI L.length) (nI i) 0 0 0 0 y) Q := by
        intro h
        refine u_X13_turnRound_a_7 ?_; unfold qm_X13_turnRound_7_a
        rw [nI_1]
        exact ih L (i + 1) y (by omega) h hF hr
      split at h
      · rename_i hxb
        split at h
        · cases h
        rename_i hb4
        obtain ⟨x1, x2, x3⟩ := q2 hxb.1
        have b1 : cvG b = nI b := (p1 hxb.2).2
        have b0 : 0 < b := by omega
        obtain ⟨a, ha, ha1, ha4⟩ : ∃ a, a = x - 8 ∧ 1 ≤ a ∧ a ≤ 4 := ⟨x - 8, rfl, by omega, by omega⟩
        have x2 : 0 - cvG x = nI a := by rw [ha]; exact x2
        rw [← ha] at h
        have hab := cv_ab ⟨a, by omega⟩ ⟨b, by omega⟩
        dsimp only at hab
        have k6 : ∀ (y1 : ow_MS) (l : Nat) (x6 x7 x8 x9 : Int32), l = (L.take i ++ nwG a b ++ L.drop (i + 2)).length → F y1 → rwG y1 (L.take i ++ nwG a b ++ L.drop (i + 2)) → Tt (fun K t => q_X13_turnRound_a K t 6 (nI n) (nI k) (nI j) (nI (120 * n + k)) (nI l) x6 x7 x8 x9 0 y1) Q := by
          intro y1 l x6 x7 x8 x9 hl hF1 hr1
          subst hl
          refine u_X13_turnRound_a_6 ?_; unfold qm_X13_turnRound_6_a
          exact ih _ 0 y1 (by omega) h hF1 hr1
        have len : (L.take i ++ nwG a b ++ L.drop (i + 2)).length = L.length - 2 + (nwG a b).length := by
          rw [List.length_append, List.length_append, List.length_take, List.length_drop]
          omega
        have rl : ∀ y1 : ow_MS, (∀ jj c, jj < i → L[jj]? = some c → y1.2.1 107 jj = cvG c) → (∀ jj c, (nwG a b)[jj]? = some c → y1.2.1 107 (i + jj) = cvG c) → (∀ jj c, i + 2 ≤ jj → L[jj]? = some c → y1.2.1 107 (jj - 2 + (nwG a b).length) = cvG c) → rwG y1 (L.take i ++ nwG a b ++ L.drop (i + 2)) := by
          intro y1 r1 r2 r3 jj c hc
          rw [spl (by omega)] at hc
          split at hc
          · rename_i h9
            exact r1 jj c h9 hc
          · rename_i h9
            split at hc
            · have := r2 _ c hc
              rw [show i + (jj - i) = jj by omega] at this
              exact this
            · rename_i h8
              have := r3 _ c (by omega) hc
              rw [show jj - (nwG a b).length + 2 - 2 + (nwG a b).length = jj by omega] at this
              exact this
        refine u_X13_turnRound_a_2 ?_; unfold qm_X13_turnRound_2_a
        rw [nI_1]
        refine w_leF (by omega) (by omega) (w_rdI ma107 rfl (by omega) ex (w_ifF x1 (w_rdI ma107 rfl (by omega) eb (w_ifF (p4 b0 hxb.2) (w_rdI ma107 rfl (by omega) ex (w_rdI ma107 rfl (by omega) eb ?_))))))
        rw [x2, b1, hab]
        by_cases e0 : a = b
        · have hnw : nwG a b = [] := by unfold nwG; rw [if_pos e0]
          have c3 : ∀ (d t : Nat) (y1 : ow_MS) (x7 x8 x9 : Int32), t + 2 + d = L.length → i ≤ t → F y1 → (∀ jj, y1.2.1 107 jj = if i ≤ jj ∧ jj < t then y.2.1 107 (jj + 2) else y.2.1 107 jj) → Tt (fun K t' => q_X13_turnRound_a K t' 3 (nI n) (nI k) (nI j) (nI (120 * n + k)) (nI L.length) (nI i) x7 x8 x9 (nI t) y1) Q := by
            intro d
            induction d with
            | zero =>
              intro t y1 x7 x8 x9 ht hit hF1 hy1
              refine u_X13_turnRound_a_3 ?_; unfold qm_X13_turnRound_3_a
              rw [show nI t + 2 = nI (t + 2) from nI_add t 2, show nI L.length + -2 = nI (L.length - 2) from by
                rw [nI_iI, show (-2 : Int32) = iI (-2) from rfl, iI_add, nI_iI]
                congr 1
                omega]
              refine w_leT (by omega) (by omega) (k6 y1 _ _ _ _ _ (by rw [len, hnw]; rfl) hF1 (rl y1 (fun jj c h1 h3 => ?_) (fun jj c h3 => ?_) (fun jj c h1 h3 => ?_)))
              · rw [hy1, if_neg (by omega)]
                exact hr _ _ h3
              · rw [hnw] at h3
                cases h3
              · have hjl := (List.getElem?_eq_some_iff.mp h3).1
                rw [hnw, List.length_nil, Nat.add_zero, hy1, if_pos (by omega), show jj - 2 + 2 = jj by omega]
                exact hr _ _ h3
            | succ d ihd =>
              intro t y1 x7 x8 x9 ht hit hF1 hy1
              refine u_X13_turnRound_a_3 ?_; unfold qm_X13_turnRound_3_a
              rw [show nI t + 2 = nI (t + 2) from nI_add t 2, nI_1]
              refine w_leF (by omega) (by omega) (w_rdI (x := y.2.1 107 (t + 2)) ma107 rfl (by omega) (by rw [hy1, if_neg (by omega)]) (w_wrI ma107 rfl (by omega) (ihd (t + 1) _ _ _ _ (by omega) (by omega) (F2 hF1) (fun jj => ?_))))
              by_cases e : jj = t
              · rw [e, if_pos (by omega)]
                exact po_usI_at
              · rw [show (usI y1 107 t (y.2.1 107 (t + 2))).2.1 107 jj = y1.2.1 107 jj from po_usI_ne e, hy1]
                by_cases h9 : i ≤ jj ∧ jj < t
                · rw [if_pos h9, if_pos (by omega)]
                · rw [if_neg h9, if_neg (by omega)]
          refine w_ifT (by rw [show a - b + (b - a) = 0 by omega]; rfl) (c3 (L.length - i - 2) i y _ _ _ (by omega) (by omega) hF (fun jj => ?_))
          rw [if_neg (by omega)]
        · refine w_ifF (fun h9 => ?_) ?_
          · have := (nI_eq (a := a - b + (b - a)) (b := 0) (by omega) (by omega)).mp h9
            omega
          have k5 : ∀ (y1 : ow_MS) (l : Nat) (x9 : Int32), l = (L.take i ++ nwG a b ++ L.drop (i + 2)).length → F y1 → rwG (usI y1 107 i (nI b)) (L.take i ++ nwG a b ++ L.drop (i + 2)) → Tt (fun K t => q_X13_turnRound_a K t 5 (nI n) (nI k) (nI j) (nI (120 * n + k)) (nI l) (nI i) (nI a) (nI b) x9 0 y1) Q := by
            intro y1 l x9 hl hF1 hr1
            refine u_X13_turnRound_a_5 ?_; unfold qm_X13_turnRound_5_a
            exact w_wrI ma107 rfl (by omega) (k6 _ _ _ _ _ _ hl (F2 hF1) hr1)
          by_cases e1 : a + 1 = b ∨ b + 1 = a
          · have hnw : nwG a b = [b, a, 8 + b, 8 + a] := by unfold nwG; rw [if_neg e0, if_pos e1]
            have c4 : ∀ (d t : Nat) (y1 : ow_MS) (x9 : Int32), t = i + 1 + d → t < L.length → F y1 → (∀ jj, y1.2.1 107 jj = if t + 2 < jj ∧ jj ≤ L.length + 1 then y.2.1 107 (jj - 2) else y.2.1 107 jj) → Tt (fun K t' => q_X13_turnRound_a K t' 4 (nI n) (nI k) (nI j) (nI (120 * n + k)) (nI L.length) (nI i) (nI a) (nI b) x9 (nI t) y1) Q := by
              intro d
              induction d with
              | zero =>
                intro t y1 x9 ht hit hF1 hy1
                refine u_X13_turnRound_a_4 ?_; unfold qm_X13_turnRound_4_a
                rw [show nI i + 2 = nI (i + 2) from nI_add i 2, show nI i + 3 = nI (i + 3) from nI_add i 3, nI_1, cv_neg ha1, cv_neg (show 1 ≤ b by omega), show nI L.length + 2 = nI (L.length + 2) from nI_add _ 2]
                refine w_ltT (by omega) (by omega) (w_wrI ma107 rfl (by omega) (w_wrI ma107 rfl (by omega) (w_wrI ma107 rfl (by omega) (k5 _ _ _ (by rw [len, hnw]; show _ = L.length - 2 + 4; omega) (F2 (F2 (F2 hF1))) (rl _ (fun jj c h1 h3 => ?_) (fun jj c h3 => ?_) (fun jj c h1 h3 => ?_))))))
                · refine rd_ne (by omega) (rd_ne (by omega) (rd_ne (by omega) (rd_ne (by omega) ?_)))
                  rw [hy1, if_neg (by omega)]
                  exact hr _ _ h3
                · rw [hnw] at h3
                  match jj, h3 with
                  | 0, h3 =>
                    cases h3
                    rw [← cv_pos (show b < 8 by omega)]
                    exact po_usI_at
                  | 1, h3 =>
                    cases h3
                    rw [← cv_pos (show a < 8 by omega)]
                    exact rd_ne (by omega) (rd_ne (by omega) (rd_ne (by omega) po_usI_at))
                  | 2, h3 =>
                    cases h3
                    exact rd_ne (by omega) (rd_ne (by omega) po_usI_at)
                  | 3, h3 =>
                    cases h3
                    exact rd_ne (by omega) po_usI_at
                  | q + 4, h3 => cases h3
                · have hjl := (List.getElem?_eq_some_iff.mp h3).1
                  rw [hnw]
                  show (usI _ 107 i (nI b)).2.1 107 (jj - 2 + 4) = cvG c
                  refine rd_ne (by omega) (rd_ne (by omega) (rd_ne (by omega) (rd_ne (by omega) ?_)))
                  rw [hy1, if_pos (by omega), show jj - 2 + 4 - 2 = jj by omega]
                  exact hr _ _ h3
              | succ d ihd =>
                intro t y1 x9 ht hit hF1 hy1
                refine u_X13_turnRound_a_4 ?_; unfold qm_X13_turnRound_4_a
                rw [show nI i + 2 = nI (i + 2) from nI_add i 2, show nI t + 2 = nI (t + 2) from nI_add t 2, show nI t + -1 = nI (t - 1) from by
                  rw [nI_iI, show (-1 : Int32) = iI (-1) from rfl, iI_add, nI_iI]
                  congr 1
                  omega]
                refine w_ltF (by omega) (by omega) (w_rdI (x := y.2.1 107 t) ma107 rfl (by omega) (by rw [hy1, if_neg (by omega)]) (w_wrI ma107 rfl (by omega) (ihd (t - 1) _ _ (by omega) (by omega) (F2 hF1) (fun jj => ?_))))
                by_cases e : jj = t + 2
                · rw [e, if_pos (by omega), show t + 2 - 2 = t by omega]
                  exact po_usI_at
                · rw [show (usI y1 107 (t + 2) (y.2.1 107 t)).2.1 107 jj = y1.2.1 107 jj from po_usI_ne e, hy1]
                  by_cases h9 : t + 2 < jj ∧ jj ≤ L.length + 1
                  · rw [if_pos h9, if_pos (by omega)]
                  · rw [if_neg h9, if_neg (by omega)]
            rw [show nI L.length - 1 = nI (L.length - 1) from pk_sub (b := 1) (by omega)]
            refine w_ifT (by rw [show a - b + (b - a) = 1 by omega]; rfl) (c4 (L.length - i - 2) (L.length - 1) y _ (by omega) (by omega) hF (fun jj => ?_))
            rw [if_neg (by omega)]
          · have hnw : nwG a b = [b, 8 + a] := by unfold nwG; rw [if_neg e0, if_neg e1]
            refine w_ifF (fun h9 => ?_) ?_
            · have := (nI_eq (a := a - b + (b - a)) (b := 1) (by omega) (by omega)).mp h9
              omega
            rw [cv_neg ha1]
            refine w_wrI ma107 rfl (by omega) (k5 _ _ _ (by rw [len, hnw]; show _ = L.length - 2 + 2; omega) (F2 hF) (rl _ (fun jj c h1 h3 => rd_ne (by omega) (rd_ne (by omega) (hr _ _ h3))) (fun jj c h3 => ?_) (fun jj c h1 h3 => ?_)))
            · rw [hnw] at h3
              match jj, h3 with
              | 0, h3 =>
                cases h3
                rw [← cv_pos (show b < 8 by omega)]
                exact po_usI_at
              | 1, h3 =>
                cases h3
                exact rd_ne (by omega) po_usI_at
              | q + 2, h3 => cases h3
            · rw [hnw]
              show (usI _ 107 i (nI b)).2.1 107 (jj - 2 + 2) = cvG c
              rw [show jj - 2 + 2 = jj by omega]
              exact rd_ne (by omega) (rd_ne (by omega) (hr _ _ h3))
      · rename_i hxb
        refine u_X13_turnRound_a_2 ?_; unfold qm_X13_turnRound_2_a
        rw [nI_1]
        refine w_leF (by omega) (by omega) (w_rdI ma107 rfl (by omega) ex ?_)
        by_cases hx8 : x < 8
        · exact w_ifT (q1 hx8).1 (k7 h)
        · refine w_ifF (q2 (show 8 < x by omega)).1 (w_rdI ma107 rfl (by omega) eb (w_ifT (p3 (show 8 ≤ b by omega)) (k7 h)))
  have hsz := (f_one h2 h5 hk).1
  have hle := (hh7 h2 h5 hk).2.2.2.2.1
  have l0l : (l0G n k j).length = szG n k + 1 := by
    unfold l0G
    rw [List.length_append, List.length_map, List.length_reverse, lt_len]
    rfl
  have l0a : ∀ jj c, (l0G n k j)[jj]? = some c → jj < szG n k ∧ c = 9 + leG n k (szG n k - 1 - jj) ∨ jj = szG n k ∧ c = 1 + j := by
    intro jj c h
    have hl := (List.getElem?_eq_some_iff.mp h).1
    rw [l0l] at hl
    unfold l0G at h
    by_cases h9 : jj < szG n k
    · rw [List.getElem?_append_left (by rw [List.length_map, List.length_reverse, lt_len]; exact h9), List.getElem?_map, List.getElem?_reverse (by rw [lt_len]; exact h9), lt_len] at h
      unfold ltG at h
      rw [List.getElem?_map, List.getElem?_range (by omega)] at h
      exact Or.inl ⟨h9, (Option.some.inj h).symm⟩
    · rw [List.getElem?_append_right (by rw [List.length_map, List.length_reverse, lt_len]; omega), List.length_map, List.length_reverse, lt_len, show jj - szG n k = 0 by omega] at h
      exact Or.inr ⟨by omega, (Option.some.inj h).symm⟩
  have c1 : ∀ (rr s : Nat) (y : ow_MS), s + rr = szG n k → F y → (∀ jj, jj < s → y.2.1 107 jj = cvG (9 + leG n k (szG n k - 1 - jj))) → Tt (fun K t => q_X13_turnRound_a K t 1 (nI n) (nI k) (nI j) (nI (120 * n + k)) (nI s) (nI rr - 1) 0 0 0 0 y) Q := by
    intro rr
    induction rr with
    | zero =>
      intro s y hs hF hy
      refine u_X13_turnRound_a_1 ?_; unfold qm_X13_turnRound_1_a
      rw [show (1 : Int32) + nI j = nI (1 + j) from nI_add 1 j, nI_1]
      refine w_ifT (by decide) (w_wrI ma107 rfl (by omega) ?_)
      have := c2 110 (l0G n k j) 0 (usI y 107 s (nI (1 + j))) (by omega) hR (F2 hF) (fun jj c h => ?_)
      · rw [l0l, show szG n k = s by omega] at this
        exact this
      · rcases l0a jj c h with ⟨h1, rfl⟩ | ⟨h1, rfl⟩
        · exact rd_ne (by omega) (hy jj (by omega))
        · rw [show jj = s by omega, ← cv_pos (show 1 + j < 8 by omega)]
          exact po_usI_at
    | succ rr ihr =>
      intro s y hs hF hy
      have e99 := ((tRy hF) k hk).2.1 rr (by omega)
      have := hle rr (by omega)
      refine u_X13_turnRound_a_1 ?_; unfold qm_X13_turnRound_1_a
      rw [show nI (rr + 1) - 1 = nI rr from pk_sub (b := 1) (by omega), show (10 : Int32) * nI (120 * n + k) + nI rr = nI (10 * (120 * n + k) + rr) from ix10, nI_1, show nI rr + -1 = nI rr - 1 from by
        rw [nI_iI, show (-1 : Int32) = iI (-1) from rfl, show (1 : Int32) = iI 1 from rfl, iI_add, iI_sub]
        congr 1]
      refine w_ltF (b := 0) (by omega) (by omega) (w_rdI ma99 rfl (by omega) e99 (w_wrI ma107 rfl (by omega) (ihr (s + 1) _ (by omega) (F2 hF) (fun jj hjj => ?_))))
      by_cases e : jj = s
      · subst e
        rw [show szG n k - 1 - jj = rr by omega, ← cv_let ⟨leG n k rr, by omega⟩]
        exact po_usI_at
      · exact rd_ne e (hy jj (by omega))
  refine e_X13_turnRound_a ?_
  refine u_X13_turnRound_a_0 ?_; unfold qm_X13_turnRound_0_a
  rw [ix120]
  exact w_rdI ma100 rfl (by omega) (hz k hk).1 (c1 (szG n k) 0 z (by omega) fB_rf (fun jj h => by omega))
