/-! the class: linking, smooth -/
/-- the signs of the crossings between components a and b -/
def lkC (F G : Nat → Int32) (a b : Int32) : Nat → Int32
  | 0 => 0
  | x + 1 => if (F (2 * x) = a ∧ F (2 * x + 1) = b) ∨ (F (2 * x) = b ∧ F (2 * x + 1) = a) then lkC F G a b x + G x else lkC F G a b x
section CX2
variable {vl : Nat → Nat} {y : ow_MS} {x a b : Int32}
theorem e_X11_linking {vl : Nat → Nat} {r0 : Nat} {x1 : Int32} {x2 : Int32} {x3 : Int32} {z : ow_MS} {Q : (Nat × Int32 × ow_MS) → Prop} (H : Tt (fun K k => c_X11_linking vl K k 0 x1 x2 x3 0 0 0 0 r0 z) Q) : Te (fun K => ce_X11_linking vl K r0 x1 x2 x3 z) Q := w_te H
theorem u_X11_linking_0 {vl : Nat → Nat} {x1 : Int32} {x2 : Int32} {x3 : Int32} {x4 : Int32} {x5 : Int32} {x6 : Int32} {x7 : Int32} {r0 : Nat} {z : ow_MS} {Q : (Nat × Int32 × ow_MS) → Prop} (H : Tt (fun K k => cm_X11_linking_0 vl K (c_X11_linking vl K k) x1 x2 x3 x4 x5 x6 x7 r0 z) Q) : Tt (fun K k => c_X11_linking vl K k 0 x1 x2 x3 x4 x5 x6 x7 r0 z) Q := w_un (fun _ _ => rfl) H
theorem u_X11_linking_1 {vl : Nat → Nat} {x1 : Int32} {x2 : Int32} {x3 : Int32} {x4 : Int32} {x5 : Int32} {x6 : Int32} {x7 : Int32} {r0 : Nat} {z : ow_MS} {Q : (Nat × Int32 × ow_MS) → Prop} (H : Tt (fun K k => cm_X11_linking_1 vl K (c_X11_linking vl K k) x1 x2 x3 x4 x5 x6 x7 r0 z) Q) : Tt (fun K k => c_X11_linking vl K k 1 x1 x2 x3 x4 x5 x6 x7 r0 z) Q := w_un (fun _ _ => rfl) H
theorem u_X11_linking_4 {vl : Nat → Nat} {x1 : Int32} {x2 : Int32} {x3 : Int32} {x4 : Int32} {x5 : Int32} {x6 : Int32} {x7 : Int32} {r0 : Nat} {z : ow_MS} {Q : (Nat × Int32 × ow_MS) → Prop} (H : Tt (fun K k => cm_X11_linking_4 vl K (c_X11_linking vl K k) x1 x2 x3 x4 x5 x6 x7 r0 z) Q) : Tt (fun K k => c_X11_linking vl K k 4 x1 x2 x3 x4 x5 x6 x7 r0 z) Q := w_un (fun _ _ => rfl) H
theorem u_X11_linking_3 {vl : Nat → Nat} {x1 : Int32} {x2 : Int32} {x3 : Int32} {x4 : Int32} {x5 : Int32} {x6 : Int32} {x7 : Int32} {r0 : Nat} {z : ow_MS} {Q : (Nat × Int32 × ow_MS) → Prop} (H : Tt (fun K k => cm_X11_linking_3 vl K (c_X11_linking vl K k) x1 x2 x3 x4 x5 x6 x7 r0 z) Q) : Tt (fun K k => c_X11_linking vl K k 3 x1 x2 x3 x4 x5 x6 x7 r0 z) Q := w_un (fun _ _ => rfl) H
theorem u_X11_linking_2 {vl : Nat → Nat} {x1 : Int32} {x2 : Int32} {x3 : Int32} {x4 : Int32} {x5 : Int32} {x6 : Int32} {x7 : Int32} {r0 : Nat} {z : ow_MS} {Q : (Nat × Int32 × ow_MS) → Prop} (H : Tt (fun K k => cm_X11_linking_2 vl K (c_X11_linking vl K k) x1 x2 x3 x4 x5 x6 x7 r0 z) Q) : Tt (fun K k => c_X11_linking vl K k 2 x1 x2 x3 x4 x5 x6 x7 r0 z) Q := w_un (fun _ _ => rfl) H
theorem tc_linking (hN : gN y) : Te (fun K => ce_X11_linking vl K 0 x a b y) (fun r => gN r.2.2 ∧ fr uP y r.2.2 ∧ (r.1 = 1 ∧ noD y x ∨ ∃ d A sg c T, d < 40 ∧ x = nI d ∧ slC y 1000 d (clC sg A) ∧ okL A c ∧ A ≠ [] ∧ isoN A sg (fun x => x) T ∧ (r.1 = 1 ∧ ((∀ i, i < A.length → a ≠ nI i) ∨ ∀ i, i < A.length → b ≠ nI i) ∨ ∃ i j, i < A.length ∧ j < A.length ∧ a = nI i ∧ b = nI j ∧ (r.1 = 2 ∧ i = j ∨ r.1 = 0 ∧ i ≠ j ∧ ∃ F, (∀ v, v < A.flatten.length → F (lb (vAt A v)) = nI (rn_c A v)) ∧ r.2.1 = lkC F T.2.2.2 a b T.1 / 2)))) := by
  let Q0 : ow_MS → Nat × Int32 × ow_MS → Prop := fun y r => gN r.2.2 ∧ fr uP y r.2.2 ∧ (r.1 = 1 ∧ noD y x ∨ ∃ d A sg c T, d < 40 ∧ x = nI d ∧ slC y 1000 d (clC sg A) ∧ okL A c ∧ A ≠ [] ∧ isoN A sg (fun x => x) T ∧ (r.1 = 1 ∧ ((∀ i, i < A.length → a ≠ nI i) ∨ ∀ i, i < A.length → b ≠ nI i) ∨ ∃ i j, i < A.length ∧ j < A.length ∧ a = nI i ∧ b = nI j ∧ (r.1 = 2 ∧ i = j ∨ r.1 = 0 ∧ i ≠ j ∧ ∃ F, (∀ v, v < A.flatten.length → F (lb (vAt A v)) = nI (rn_c A v)) ∧ r.2.1 = lkC F T.2.2.2 a b T.1 / 2)))
  refine e_X11_linking ?_
  refine u_X11_linking_0 ?_; unfold cm_X11_linking_0
  refine w_tc0 (tc_need hN.1) ?_ ?_
  · rintro y1 ⟨h1, rfl⟩
    rcases h1 with ⟨-, d, A, sg, c, hd, ex, hs, hA, hne⟩ | h1
    · rw [ex]
      refine w_cs0 (tc_ld nH4 hN hd hs hA) ?_
      rw [← ex]
      rintro y3 ⟨hN3, f3, T, hT, hT1, hT2⟩
      have f3u : fr uP y1 y3 := fr_mono (fun g hg => by unfold cL at hg; unfold uP; omega) f3
      have hv := hT.2.2.1
      have h6 := hA.2.2.2.2
      have h12 := hv.2.1
      refine w_tc0 (tc_needComponent hT.2.2.2.2.2 (by omega)) ?_ ?_
      · rintro y4 ⟨h4, rfl⟩
        rcases h4 with ⟨-, i, hi, ea⟩ | h4
        · refine w_tc0 (tc_needComponent hT.2.2.2.2.2 (by omega)) ?_ ?_
          · rintro y5 ⟨h5, rfl⟩
            rcases h5 with ⟨-, j, hj, eb⟩ | h5
            · refine w_if (fun e => w_some ⟨hN3, f3u, Or.inr ⟨d, A, sg, c, T, hd, ex, hs, hA, hne, hT.2.1, Or.inr ⟨i, j, hi, hj, ea, eb, Or.inl ⟨rfl, ?_⟩⟩⟩⟩) (fun e => ?_)
              · rw [ea, eb] at e
                exact nI_inj9 (by omega) (by omega) e
              · have hij : i ≠ j := fun h9 => e (by rw [ea, eb, h9])
                have c1 : ∀ (k n : Nat), n + k = T.1 → Tt (fun K t => c_X11_linking vl K t 1 x a b (lkC (y5.2.1 4005) T.2.2.2 a b n) (nI n) 0 0 0 y5) (Q0 y1) := by
                  intro k
                  induction k with
                  | zero =>
                    intro n hn
                    have en : n = T.1 := by omega
                    subst en
                    refine u_X11_linking_1 ?_; unfold cm_X11_linking_1
                    exact w_rdF hT.1.1 (w_leT (by omega) (by omega) (w_nzI (by decide) (w_some ⟨hN3, f3u, Or.inr ⟨d, A, sg, c, T, hd, ex, hs, hA, hne, hT.2.1, Or.inr ⟨i, j, hi, hj, ea, eb, Or.inr ⟨rfl, hij, _, hT.2.2.2.2.1, rfl⟩⟩⟩⟩)))
                  | succ k ih =>
                    intro n hn
                    have c4 : ∀ (s v9 v10 : Int32), s = lkC (y5.2.1 4005) T.2.2.2 a b (n + 1) → Tt (fun K t => c_X11_linking vl K t 4 x a b s (nI n) v9 v10 0 y5) (Q0 y1) := by
                      intro s v9 v10 es
                      rw [es]
                      refine u_X11_linking_4 ?_; unfold cm_X11_linking_4
                      rw [nI_1]
                      exact ih (n + 1) (by omega)
                    have c3 : ∀ (v9 v10 : Int32), ((y5.2.1 4005 (2 * n) = a ∧ y5.2.1 4005 (2 * n + 1) = b) ∨ (y5.2.1 4005 (2 * n) = b ∧ y5.2.1 4005 (2 * n + 1) = a)) → Tt (fun K t => c_X11_linking vl K t 3 x a b (lkC (y5.2.1 4005) T.2.2.2 a b n) (nI n) v9 v10 0 y5) (Q0 y1) := by
                      intro v9 v10 hc
                      refine u_X11_linking_3 ?_; unfold cm_X11_linking_3
                      refine w_crI (nH_3 nH4) rfl (show n < 12 by omega) (hT.1.2.2.2.2 n) (c4 _ _ _ ?_)
                      show _ = if _ then _ else _
                      rw [if_pos hc]
                    have c2 : ¬ (y5.2.1 4005 (2 * n) = a ∧ y5.2.1 4005 (2 * n + 1) = b) → Tt (fun K t => c_X11_linking vl K t 2 x a b (lkC (y5.2.1 4005) T.2.2.2 a b n) (nI n) (y5.2.1 4005 (2 * n)) (y5.2.1 4005 (2 * n + 1)) 0 y5) (Q0 y1) := by
                      intro hc
                      have no : ¬ (y5.2.1 4005 (2 * n) = b ∧ y5.2.1 4005 (2 * n + 1) = a) → lkC (y5.2.1 4005) T.2.2.2 a b n = lkC (y5.2.1 4005) T.2.2.2 a b (n + 1) := by
                        intro hc2
                        show _ = if _ then _ else _
                        rw [if_neg (fun h9 => h9.elim hc hc2)]
                      refine u_X11_linking_2 ?_; unfold cm_X11_linking_2
                      refine w_if (fun q1 => w_if (fun q2 => c3 _ _ (Or.inr ⟨q1, q2⟩)) (fun q2 => c4 _ _ _ (no (fun h9 => q2 h9.2)))) (fun q1 => c4 _ _ _ (no (fun h9 => q1 h9.1)))
                    refine u_X11_linking_1 ?_; unfold cm_X11_linking_1
                    rw [show (2 : Int32) * nI n = nI (2 * n) from pk_mul 2 _, nI_1]
                    refine w_rdF hT.1.1 (w_leF (by omega) (by omega) (w_crI (nH_5 nH4) rfl (show 2 * n < 24 by omega) rfl (w_crI (nH_5 nH4) rfl (show 2 * n + 1 < 24 by omega) rfl ?_)))
                    refine w_if (fun q1 => w_if (fun q2 => c3 _ _ (Or.inl ⟨q1, q2⟩)) (fun q2 => c2 (fun h9 => q2 h9.2))) (fun q1 => c2 (fun h9 => q1 h9.1))
                exact c1 T.1 0 (by omega)
            · exact absurd (show (0 : Nat) = 1 from h5.1) (by decide)
          · rintro q y5 hq ⟨h5, rfl⟩
            rcases h5 with h5 | h5
            · exact absurd h5.1 hq
            · have e : q = 1 := h5.1
              rw [e]
              exact w_some ⟨hN3, f3u, Or.inr ⟨d, A, sg, c, T, hd, ex, hs, hA, hne, hT.2.1, Or.inl ⟨rfl, Or.inr h5.2⟩⟩⟩
        · exact absurd (show (0 : Nat) = 1 from h4.1) (by decide)
      · rintro q y4 hq ⟨h4, rfl⟩
        rcases h4 with h4 | h4
        · exact absurd h4.1 hq
        · have e : q = 1 := h4.1
          rw [e]
          exact w_some ⟨hN3, f3u, Or.inr ⟨d, A, sg, c, T, hd, ex, hs, hA, hne, hT.2.1, Or.inl ⟨rfl, Or.inl h4.2⟩⟩⟩
    · exact absurd (show (0 : Nat) = 1 from h1.1) (by decide)
  · rintro q y1 hq ⟨h1, rfl⟩
    rcases h1 with h1 | h1
    · exact absurd h1.1 hq
    · have e : q = 1 := h1.1
      rw [e]
      exact w_some ⟨hN, fr_rf, Or.inl ⟨rfl, h1.2⟩⟩
end CX2
/-- rings marked: as many as least visits -/
theorem mr_in_mk {c : Nat} {S : ow_NP} (h : vn c S) {f m : Nat} (hf : f < 2 * c) (hm : ring_len S.1 f m) {x : Int32} (hx : x ≠ -1) : ∀ (d i : Nat) (F : Nat → Int32), i ≤ m → m ≤ i + d → (∀ k, (F k = -1 ↔ False) ∨ True) → (∀ j, i ≤ j → j < m → F (it S.1 j f) = -1) → (∀ j, j < i → F (it S.1 j f) ≠ -1) → (∀ k, mr_in S.1 x d F (it S.1 i f) k = -1 ↔ F k = -1 ∧ ∀ j, i ≤ j → j < m → k ≠ it S.1 j f) := by
  intro d
  induction d with
  | zero =>
    intro i F hi hd _ h1 h2 k
    show F k = -1 ↔ _
    exact ⟨fun e => ⟨e, fun j hj1 hj2 => absurd hj2 (by omega)⟩, fun e => e.1⟩
  | succ d ih =>
    intro i F hi hd _ h1 h2 k
    show (if F (it S.1 i f) = -1 then mr_in S.1 x d (su F (it S.1 i f) x) (S.1 (it S.1 i f)) else F) k = -1 ↔ _
    by_cases him : i = m
    · have e0 : it S.1 i f = f := by rw [him]; exact hm.2.1
      have hne : ¬ F (it S.1 i f) = -1 := by
        rw [e0]
        exact h2 0 (by have := hm.1; omega)
      rw [if_neg hne]
      exact ⟨fun e => ⟨e, fun j hj1 hj2 => absurd hj2 (by omega)⟩, fun e => e.1⟩
    · have hil : i < m := by omega
      rw [if_pos (h1 i (Nat.le_refl _) hil)]
      have key := ih (i + 1) (su F (it S.1 i f) x) (by omega) (by omega) (fun _ => Or.inr trivial) (fun j hj1 hj2 => by
        show (if it S.1 j f = it S.1 i f then x else F (it S.1 j f)) = -1
        rw [if_neg (fun e => ring_dist h hf hm (i := i) (j := j) (by omega) hj2 e.symm)]
        exact h1 j (by omega) hj2) (fun j hj => by
        show (if it S.1 j f = it S.1 i f then x else F (it S.1 j f)) ≠ -1
        by_cases e : it S.1 j f = it S.1 i f
        · rw [if_pos e]
          exact hx
        · rw [if_neg e]
          refine h2 j ?_
          rcases Nat.lt_or_ge j i with q | q
          · exact q
          · exact absurd (by rw [show j = i by omega]) e) k
      refine key.trans ?_
      show (if k = it S.1 i f then x else F k) = -1 ∧ _ ↔ _
      constructor
      · rintro ⟨q1, q2⟩
        have hk : k ≠ it S.1 i f := fun e => by
          rw [if_pos e] at q1
          exact hx q1
        rw [if_neg hk] at q1
        refine ⟨q1, fun j hj1 hj2 => ?_⟩
        by_cases e : j = i
        · rw [e]
          exact hk
        · exact q2 j (by omega) hj2
      · rintro ⟨q1, q2⟩
        rw [if_neg (q2 i (Nat.le_refl _) hil)]
        exact ⟨q1, fun j hj1 hj2 => q2 j (by omega) hj2⟩
theorem rings_cnt {c : Nat} {S : ow_NP} (h : vn c S) (hc : c ≤ 12) : (np_rings c S.1).2 = np_rg c S := by
  have key : ∀ n, n ≤ 2 * c → (mr_out S.1 (2 * c) (fun _ => -1) n).2 = cntB (fun k => lst S.1 k 24) n ∧ (mr_out S.1 (2 * c) (fun _ => -1) n).2 ≤ n ∧ ∀ k, k < 2 * c → ((mr_out S.1 (2 * c) (fun _ => -1) n).1 k = -1 ↔ ∀ i, n ≤ it S.1 i k) := by
    intro n
    induction n with
    | zero => exact fun _ => ⟨rfl, Nat.le_refl _, fun k _ => ⟨fun _ i => Nat.zero_le _, fun _ => rfl⟩⟩
    | succ n ih =>
      intro hn
      obtain ⟨i1, i2, i3⟩ := ih (by omega)
      have hn2 : n < 2 * c := by omega
      obtain ⟨m, hm1, hm2⟩ := ring_ex h hn2
      have hls : lst S.1 n 24 = true ↔ ∀ i, n ≤ it S.1 i n := by
        rw [lst_t]
        refine ⟨fun q i => ?_, fun q i _ => q i⟩
        obtain ⟨j, j1, j2⟩ := it_mod hm2 i
        rw [j2]
        exact q j (by omega)
      rw [mr_out]
      generalize mr_out S.1 (2 * c) (fun _ => -1) n = t at i1 i2 i3
      have hcn : cntB (fun k => lst S.1 k 24) (n + 1) = cntB (fun k => lst S.1 k 24) n + (if lst S.1 n 24 = true then 1 else 0) := rfl
      by_cases e : t.1 n = -1
      · have hl := hls.mpr ((i3 n hn2).mp e)
        rw [if_pos e]
        refine ⟨?_, ?_, fun k hk => ?_⟩
        · rw [hcn, if_pos hl, ← i1]
        · show t.2 + 1 ≤ n + 1
          omega
        · have hx : nI t.2 ≠ -1 := nI_nm1 (by omega)
          have hm3 := mr_in_mk h hn2 hm2 hx (2 * c) 0 t.1 (Nat.zero_le _) (by omega) (fun _ => Or.inr trivial) (fun j _ hj => by
            rw [i3 _ (it_lt h hn2 j)]
            intro i
            rw [← it_add]
            exact (i3 n hn2).mp e (i + j)) (fun j hj => absurd hj (Nat.not_lt_zero _)) k
          show mr_in S.1 (nI t.2) (2 * c) t.1 n k = -1 ↔ _
          refine hm3.trans ?_
          rw [i3 k hk]
          constructor
          · rintro ⟨q1, q2⟩ i
            have := q1 i
            rcases Nat.lt_or_ge n (it S.1 i k) with h9 | h9
            · exact h9
            · exfalso
              have e9 : it S.1 i k = n := by omega
              obtain ⟨m', hm1', hm2'⟩ := ring_ex h hk
              have hj : k = it S.1 (m' * i + m' - i) n := by
                rw [← e9, ← it_add, show m' * i + m' - i + i = (i + 1) * m' by
                  have h1 := hm2'.1
                  have : m' * i ≥ i := Nat.le_mul_of_pos_left i (by omega)
                  have e8 : (i + 1) * m' = m' * i + m' := by rw [Nat.succ_mul, Nat.mul_comm]
                  omega]
                exact (it_mul hm2'.2.1 (i + 1)).symm
              obtain ⟨j2, j3, j4⟩ := it_mod hm2 (m' * i + m' - i)
              exact q2 j2 (Nat.zero_le _) j3 (hj.trans j4)
          · intro q
            refine ⟨fun i => by have := q i; omega, fun j _ hj e9 => ?_⟩
            have := q (m - j)
            rw [e9, ← it_add, show m - j + j = m by omega, hm2.2.1] at this
            omega
      · have hl : ¬ lst S.1 n 24 = true := fun h9 => e ((i3 n hn2).mpr (hls.mp h9))
        rw [if_neg e]
        refine ⟨?_, by omega, fun k hk => ?_⟩
        · rw [hcn, if_neg hl]
          exact i1
        · rw [i3 k hk]
          constructor
          · intro q i
            have := q i
            rcases Nat.lt_or_ge n (it S.1 i k) with h9 | h9
            · exact h9
            · exfalso
              have e9 : it S.1 i k = n := by omega
              refine e ((i3 n hn2).mpr (fun j => ?_))
              rw [← e9, ← it_add]
              have := q (j + i)
              omega
          · intro q i
            have := q i
            omega
  exact (key (2 * c) (Nat.le_refl _)).1
