-- CHAIN: loops at a crossing, for the reference
theorem tb_test (m y : Nat) : tb m y = m.testBit y := by
  rw [Nat.testBit_eq_decide_div_mod_eq]
  rfl
theorem or_bx {r l L : Nat} (hr : r < 2 ^ L) (hl : l < L) (hL : L ≤ 9) : ∃ r', r' < 2 ^ L ∧ nI r ||| ((1 : Int32) <<< (nI l &&& 31)) = nI r' ∧ ∀ j, tb r' j = (tb r j || decide (j = l)) := by
  have h2 : r < 512 := Nat.lt_of_lt_of_le hr (two_mono (b := 9) hL)
  have h3 := or_512 ⟨r / 16, by omega⟩ ⟨r % 16, by omega⟩ ⟨l, by omega⟩
  dsimp only at h3
  rw [show 16 * (r / 16) + r % 16 = r by omega] at h3
  refine ⟨r ||| 2 ^ l, Nat.or_lt_two_pow hr (Nat.pow_lt_pow_right (by omega) hl), h3, fun j => ?_⟩
  rw [tb_test, tb_test, Nat.testBit_or, Nat.testBit_two_pow]
  by_cases e : l = j
  · rw [decide_eq_true e, decide_eq_true e.symm]
  · rw [decide_eq_false e, decide_eq_false (fun h => e h.symm)]
section XCK4
variable {A : rn_L} {sg : Nat → Bool} {c s x : Nat} {T : ow_NT} {w : vT → Bool} {G : Nat → Prop} {P1 P2 : Nat → Nat} {rel : (Nat → Bool) → Nat → Nat → Prop} {Ls : Nat → Nat → Nat} {ns : Nat → Nat}
theorem pv_R (hN : isoN A sg (fun x => x) T) (hv : vn T.1 T.2.2.1) {v : Nat} (hl : v < A.flatten.length) : gV9 (prA9 A (vAt A v)) = gV9 (vAt A (rn_pv A v)) := by
  have hV := isoV_of hN hv
  have e1 := pv_gl hV (vAt_mem hl)
  have h1 := hN.2.2.2.2.2.1 (rn_pv A v) (pv_lt hl)
  rw [nx_pv hl] at h1
  have h2 : T.2.2.1.1 (lbv A (fun x => x) (rn_pv A v)) = lbv A (fun x => x) v := h1
  have e2 : T.2.2.1.2 (lbv A (fun x => x) v) = lbv A (fun x => x) (rn_pv A v) := by
    rw [← h2]
    exact (hv _ (lbv_lt hN (pv_lt hl))).2.2.1
  have e3 : gl (fun x => x) (vAt A v) = lbv A (fun x => x) v := rfl
  rw [e3, e2] at e1
  exact e1.symm
/-- the four gaps at a crossing lie in two loops -/
theorem at_R (hN : isoN A sg (fun x => x) T) (hT : pm1 T) (hv : vn T.1 T.2.2.1) (hc : T.1 ≤ 8) (hb : bdA A) (hs : s < 2 ^ T.1) {v : Nat} (hl : v < A.flatten.length) (hx : crs A v < T.1) : lbR A sg s (mtf A v) = lbR A sg s v ∧ lbR A sg s (rn_pv A (mtf A v)) = lbR A sg s (rn_pv A v) ∨ lbR A sg s (mtf A v) = lbR A sg s (rn_pv A v) ∧ lbR A sg s (rn_pv A (mtf A v)) = lbR A sg s v := by
  have hd := wkF_ok hN.1
  have hml := mtf_lt hd hl
  have em := vAt_mtf hN.1 hl
  have hu := (hb.2.1 _ (vAt_mem hl)).2
  have E := lst_e (jp9 A sg (fun x => x) T.1 (tb s))
  have up : ∀ {a b : Nat}, a < A.flatten.length → b < A.flatten.length → relL9 A sg (fun x => x) T.1 (tb s) (gV9 (vAt A a)) (gV9 (vAt A b)) → lbR A sg s a = lbR A sg s b := fun ha hb9 h => by
    unfold lbR
    rw [(rel_R hN hT hv hc hs ha hb9).mp h]
  have jn : ∀ {a b : Nat}, jc9 A sg (crs A v) (tb s (crs A v)) a b → relL9 A sg (fun x => x) T.1 (tb s) a b := fun h => lst_i ⟨crs A v, hx, h⟩
  have p1 := pv_R hN hv hl
  have p2 := pv_R hN hv hml
  rcases (show (vAt A v).2 = 0 ∨ (vAt A v).2 = 1 by omega) with e | e
  · have e0 : vAt A v = (crs A v, 0) := Prod.ext rfl e
    have e1 : vAt A (mtf A v) = (crs A v, 1) := by
      rw [em, e]
      rfl
    rw [e0] at p1
    rw [e1] at p2
    by_cases q : sg (crs A v) = tb s (crs A v)
    · right
      refine ⟨?_, ?_⟩
      · refine up hml (pv_lt hl) (E.2.1 _ _ ?_)
        rw [e1, ← p1]
        exact jn (Or.inl ⟨q, Or.inl ⟨rfl, rfl⟩⟩)
      · refine up (pv_lt hml) hl (E.2.1 _ _ ?_)
        rw [e0, ← p2]
        exact jn (Or.inl ⟨q, Or.inr ⟨rfl, rfl⟩⟩)
    · left
      refine ⟨?_, ?_⟩
      · refine up hml hl (E.2.1 _ _ ?_)
        rw [e0, e1]
        exact jn (Or.inr ⟨q, Or.inr ⟨rfl, rfl⟩⟩)
      · refine up (pv_lt hml) (pv_lt hl) (E.2.1 _ _ ?_)
        rw [← p1, ← p2]
        exact jn (Or.inr ⟨q, Or.inl ⟨rfl, rfl⟩⟩)
  · have e0 : vAt A v = (crs A v, 1) := Prod.ext rfl e
    have e1 : vAt A (mtf A v) = (crs A v, 0) := by
      rw [em, e]
      rfl
    rw [e0] at p1
    rw [e1] at p2
    by_cases q : sg (crs A v) = tb s (crs A v)
    · right
      refine ⟨?_, ?_⟩
      · refine up hml (pv_lt hl) ?_
        rw [e1, ← p1]
        exact jn (Or.inl ⟨q, Or.inr ⟨rfl, rfl⟩⟩)
      · refine up (pv_lt hml) hl ?_
        rw [e0, ← p2]
        exact jn (Or.inl ⟨q, Or.inl ⟨rfl, rfl⟩⟩)
    · left
      refine ⟨?_, ?_⟩
      · refine up hml hl ?_
        rw [e0, e1]
        exact jn (Or.inr ⟨q, Or.inr ⟨rfl, rfl⟩⟩)
      · refine up (pv_lt hml) (pv_lt hl) ?_
        rw [← p1, ← p2]
        exact jn (Or.inr ⟨q, Or.inl ⟨rfl, rfl⟩⟩)
/-- the loops of a visit's two gaps are those of the crossing -/
theorem ab_R (hN : isoN A sg (fun x => x) T) (hT : pm1 T) (hv : vn T.1 T.2.2.1) (hc : T.1 ≤ 8) (hb : bdA A) (hs : s < 2 ^ T.1) {v : Nat} (hl : v < A.flatten.length) (hx : crs A v < T.1) : (lbR A sg s v = LsR A sg s (gV9 (crs A v, 0)) ∧ lbR A sg s (rn_pv A v) = LsR A sg s (gV9 (prA9 A (crs A v, 0)))) ∨ (lbR A sg s v = LsR A sg s (gV9 (prA9 A (crs A v, 0))) ∧ lbR A sg s (rn_pv A v) = LsR A sg s (gV9 (crs A v, 0))) := by
  have hd := wkF_ok hN.1
  have hml := mtf_lt hd hl
  have em := vAt_mtf hN.1 hl
  have hu := (hb.2.1 _ (vAt_mem hl)).2
  have u2 : ∀ p, p ∈ A.flatten → p.2 < 2 := fun p hp => (hb.2.1 p hp).2
  rcases (show (vAt A v).2 = 0 ∨ (vAt A v).2 = 1 by omega) with e | e
  · have e0 : vAt A v = (crs A v, 0) := Prod.ext rfl e
    left
    rw [← e0, LsR_v hb.1 u2 hl, pv_R hN hv hl, LsR_v hb.1 u2 (pv_lt hl)]
    exact ⟨rfl, rfl⟩
  · have e1 : vAt A (mtf A v) = (crs A v, 0) := by
      rw [em, e]
      rfl
    rw [← e1, LsR_v hb.1 u2 hml, pv_R hN hv hml, LsR_v hb.1 u2 (pv_lt hml)]
    rcases at_R hN hT hv hc hb hs hl hx with ⟨a, b⟩ | ⟨a, b⟩
    · exact Or.inl ⟨a.symm, b.symm⟩
    · exact Or.inr ⟨b.symm, a.symm⟩
/-- the loops that stay, by bits -/
theorem K_un (hC : cu9 c 2000 G P1 P2 P2 rel) (hL : LT9 c G rel Ls ns) {m r : Nat} (hr : r < 2 ^ ns (s + 2 ^ x)) (h : ∀ l, l < ns (s + 2 ^ x) → (tb r l = true ↔ l ≠ Ls (s + 2 ^ x) (P1 x) ∧ l ≠ Ls (s + 2 ^ x) (P2 x) ∧ ∃ g, G g ∧ Ls (s + 2 ^ x) g = l ∧ btN m (Ls s g) = 1)) : r = K9 G Ls ns P1 P2 s m x := by
  have sp := K_sp (G := G) (Ls := Ls) (ns := ns) (P1 := P1) (P2 := P2) (s := s) (m := m) (x := x)
  refine tb_in _ hr sp.1 (fun l hl => ?_)
  rw [sp.2 l]
  refine bx ?_
  rw [h l hl, dcb_t]
  exact ⟨fun h9 => ⟨hl, h9⟩, fun h9 => h9.2⟩
end XCK4
