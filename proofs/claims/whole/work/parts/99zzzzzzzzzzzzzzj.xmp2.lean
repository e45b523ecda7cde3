/-! permutations: the class's tables; how its numbers go with the reference's -/
def lpA9 (x2 : Int32) : Int32 := ((((((1 : Int32) <<< (((3 - (x2 &&& 3)) : Int32) &&& 31)) ||| ((1 : Int32) <<< (((3 - (((x2 : Int32) >>> ((2 : Int32) &&& 31)) &&& 3)) : Int32) &&& 31))) ||| ((1 : Int32) <<< (((3 - (((x2 : Int32) >>> ((4 : Int32) &&& 31)) &&& 3)) : Int32) &&& 31))) ||| ((1 : Int32) <<< (((3 - ((x2 : Int32) >>> ((6 : Int32) &&& 31))) : Int32) &&& 31))))
def lpV (x2 : Int32) : Int32 := ((((3 - (x2 &&& 3)) ||| (((3 - (((x2 : Int32) >>> ((2 : Int32) &&& 31)) &&& 3)) : Int32) <<< ((4 : Int32) &&& 31))) ||| (((3 - (((x2 : Int32) >>> ((4 : Int32) &&& 31)) &&& 3)) : Int32) <<< ((8 : Int32) &&& 31))) ||| (((3 - ((x2 : Int32) >>> ((6 : Int32) &&& 31))) : Int32) <<< ((12 : Int32) &&& 31)))
def gPK9 : Nat := 0x12301320213023103120321102310321203123013021320201320312103213023012310301230213102312032013210
def gCJ9 : Nat := 0xbc6ab7a6d0995a3a2a44385c8608c0858b31b6375d52f249543844c438c0ba6af5c647a05449b6c3814cc409c03c834229377d62b1d9b381448619c0834a39d947206545a62fbd4c8638403a824a49b0196d37c52bbd5cc41840859c8a2a3760a447a5a3386ab994c0bc44c24ad0439541b52f384b35d4c0829d4459a77852364a24b88d3596a03b42f1a550a3ac82464cb88ab99aa0bc84464527185af42ad4838cb9d4a03a4237b65720a2ca594883ab3598a03c8cc9b53740ac35c544816afa05c0ba4481da47619b322a2b814347d5c03b4d3649505962445923b89d4786a0828ab245a799a4c1a6c8b882fa3aa0bd843426302154b63653399cfa5420844a45aad7189289c9ac39ab47b8203a8c85a5b063a2f9da54bd4a320440835cc7c5474192ba4ad3bd424194403a4cb42a579d6d4645af83844184a0bcab3a5927599487b62c83823208a0845cf636d7a56534254b3984321420bdab49ca307b9ac5a928398a418820
def gIV9 : Nat := 0xbc6af5a6d0a39489b64c398a320820
def gBJ9 (m : Nat) : Nat := if m = 4 then 0x443214c74254b635cf84653a56d7 else if m = 3 then 0x110c85 else if m = 2 then 0x1 else 0x0
def pk9 (k : Nat) : Int32 := nI (dgN gPK9 16 k)
def cjG (o x : Nat) : Nat := dgN gCJ9 5 (24 * o + x)
def ivC (o : Nat) : Nat := dgN gIV9 5 o
def bjM (m p : Nat) : Nat := dgN (gBJ9 m) 5 p
def lpC : Nat → Nat
  | 0 => 0
  | c + 1 => lpC c + (if lpA9 (nI c) = 15 then 1 else 0)
def lpW : Nat → Nat → Nat → Bool
  | 0, _, k => decide (k = 24)
  | d + 1, c, k => if lpA9 (nI c) = 15 then (decide (pk9 k = lpV (nI c)) && decide (k < 24) && lpW d (c + 1) (k + 1)) else lpW d (c + 1) k
theorem lpW_c : lpW 256 0 0 = true := by decide +kernel
theorem lpW_at : ∀ (d c : Nat), lpW d c (lpC c) = true → (∀ c', c ≤ c' → c' < c + d → lpA9 (nI c') = 15 → pk9 (lpC c') = lpV (nI c') ∧ lpC c' < 24) ∧ lpC (c + d) = 24
  | 0, c, h => ⟨fun c' h1 h3 _ => by omega, of_decide_eq_true h⟩
  | d + 1, c, h => by
    rw [lpW] at h
    have e : lpC (c + 1) = lpC c + (if lpA9 (nI c) = 15 then 1 else 0) := rfl
    have ed : c + 1 + d = c + (d + 1) := by omega
    by_cases q : lpA9 (nI c) = 15
    · rw [if_pos q] at h
      rw [if_pos q] at e
      obtain ⟨a1, a2⟩ := (Bool.and_eq_true _ _).mp h
      obtain ⟨a3, a4⟩ := (Bool.and_eq_true _ _).mp a1
      obtain ⟨i1, i2⟩ := lpW_at d (c + 1) (by rw [e]; exact a2)
      refine ⟨fun c' h1 h3 hA => ?_, by rw [← ed]; exact i2⟩
      by_cases k : c' = c
      · rw [k]
        exact ⟨of_decide_eq_true a3, of_decide_eq_true a4⟩
      · exact i1 c' (by omega) (by omega) hA
    · rw [if_neg q] at h
      rw [if_neg q, Nat.add_zero] at e
      obtain ⟨i1, i2⟩ := lpW_at d (c + 1) (by rw [e]; exact h)
      refine ⟨fun c' h1 h3 hA => ?_, by rw [← ed]; exact i2⟩
      by_cases k : c' = c
      · rw [k] at hA
        exact absurd hA q
      · exact i1 c' (by omega) (by omega) hA
def cjW (o x : Int32) : Nat → Int32
  | 0 => 0
  | j + 1 => cjW o x j ||| (foJ o (foJ x (nI j)) <<< (((4 * foJ o (nI j)) : Int32) &&& 31))
theorem cj_c : ∀ o : Fin 24, ∀ x : Fin 24, cjW (pk9 o.val) (pk9 x.val) 4 = pk9 (cjG o.val x.val) ∧ cjG o.val x.val < 24 := by decide +kernel
theorem iv_c : ∀ o : Fin 24, foV (pk9 o.val) 4 = pk9 (ivC o.val) ∧ ivC o.val < 24 := by decide +kernel
theorem pk_i9 : ∀ o : Fin 24, ∀ x : Fin 24, pk9 o.val = pk9 x.val → o.val = x.val := by decide +kernel
def gBT (m o x : Nat) : Bool := decide (bjM m o < thM m) && decide (cjG (bjM m o) (bjM m x) = bjM m (dnM m o x)) && decide (cjG (ivC (bjM m o)) (bjM m x) = bjM m (bkM m o x)) && (decide (bjM m o = bjM m x) == decide (o = x))
theorem bt_1 : ∀ o : Fin 1, ∀ x : Fin 1, gBT 1 o.val x.val = true := by decide +kernel
theorem bt_2 : ∀ o : Fin 2, ∀ x : Fin 2, gBT 2 o.val x.val = true := by decide +kernel
theorem bt_3 : ∀ o : Fin 6, ∀ x : Fin 6, gBT 3 o.val x.val = true := by decide +kernel
theorem bt_4 : ∀ o : Fin 24, ∀ x : Fin 24, gBT 4 o.val x.val = true := by decide +kernel
theorem bt_n {m o x : Nat} (h1 : 1 ≤ m) (h4 : m ≤ 4) (ho : o < thM m) (hx : x < thM m) : bjM m o < thM m ∧ cjG (bjM m o) (bjM m x) = bjM m (dnM m o x) ∧ cjG (ivC (bjM m o)) (bjM m x) = bjM m (bkM m o x) ∧ (bjM m o = bjM m x ↔ o = x) := by
  have k : gBT m o x = true := by
    have : m = 1 ∨ m = 2 ∨ m = 3 ∨ m = 4 := by omega
    rcases this with rfl | rfl | rfl | rfl
    · exact bt_1 ⟨o, ho⟩ ⟨x, hx⟩
    · exact bt_2 ⟨o, ho⟩ ⟨x, hx⟩
    · exact bt_3 ⟨o, ho⟩ ⟨x, hx⟩
    · exact bt_4 ⟨o, ho⟩ ⟨x, hx⟩
  unfold gBT at k
  simp only [Bool.and_eq_true, beq_iff_eq, decide_eq_true_eq, decide_eq_decide] at k
  exact ⟨k.1.1.1, k.1.1.2, k.1.2, k.2⟩
section XMQ
variable {z : ow_MS}
theorem ti_permE : Te (fun K => ce_X0_listPermutations_b0 K 53001 z) (fun z1 => (∀ k, k < 24 → z1.2.1 53001 k = pk9 k) ∧ fr (fun g => g = 53001) z z1) := by
  let Q : ow_MS → Prop := fun z1 => (∀ k, k < 24 → z1.2.1 53001 k = pk9 k) ∧ fr (fun g => g = 53001) z z1
  obtain ⟨w1, w2⟩ := lpW_at 256 0 lpW_c
  have mono : ∀ d c, lpC c ≤ lpC (c + d) := by
    intro d
    induction d with
    | zero => exact fun c => Nat.le_refl _
    | succ d ih => exact fun c => Nat.le_trans (ih c) (by show _ ≤ lpC (c + d) + _; omega)
  have c1 : ∀ (d m : Nat) (y : ow_MS), m + d = 256 → (∀ k, k < lpC m → y.2.1 53001 k = pk9 k) → fr (fun g => g = 53001) z y → Tt (fun K t => c_X0_listPermutations_b0 K t 1 (nI (lpC m)) (nI m) 0 0 0 0 53001 y) Q := by
    intro d
    induction d with
    | zero =>
      intro m y hm hk hf
      have e : m = 0 + 256 := by omega
      rw [e, w2] at hk
      refine u_X0_listPermutations_b0_1 ?_; unfold cm_X0_listPermutations_1_b0
      exact w_leT (a := 256) (by omega) (by omega) (w_some ⟨hk, hf⟩)
    | succ d ih =>
      intro m y hm hk hf
      have ec : lpC (m + 1) = lpC m + (if lpA9 (nI m) = 15 then 1 else 0) := rfl
      have b24 : lpC m ≤ 24 := by
        have := mono (256 - m) m
        rw [show m + (256 - m) = 0 + 256 by omega, w2] at this
        exact this
      have c2 : ∀ (k : Nat) (a b c e : Int32) (y : ow_MS), k = lpC (m + 1) → (∀ k, k < lpC (m + 1) → y.2.1 53001 k = pk9 k) → fr (fun g => g = 53001) z y → Tt (fun K t => c_X0_listPermutations_b0 K t 2 (nI k) (nI m) a b c e 53001 y) Q := by
        intro k a b c e y hk1 hk hf
        refine u_X0_listPermutations_b0_2 ?_; unfold cm_X0_listPermutations_2_b0
        rw [nI_1, hk1]
        exact ih (m + 1) y (by omega) hk hf
      refine u_X0_listPermutations_b0_1 ?_; unfold cm_X0_listPermutations_1_b0
      rw [show nI (lpC m) + 1 = nI (lpC m + 1) from nI_1 _]
      refine w_leF (a := 256) (by omega) (by omega) (w_le (a := 24) (by omega) (by omega) (fun h24 => w_some ⟨fun k hk1 => hk k (by omega), hf⟩) (fun h24 => w_if (fun e => ?_) (fun e => ?_)))
      · have e : lpA9 (nI m) = 15 := e
        rw [if_pos e] at ec
        obtain ⟨v1, v2⟩ := w1 m (Nat.zero_le _) (by omega) e
        refine w_ctI ch_0r rfl (show lpC m < 24 by omega) (c2 (lpC m + 1) _ _ _ _ _ ec.symm (fun k hk1 => ?_) (fr_I2 hf rfl))
        by_cases ek : k = lpC m
        · rw [ek, po_usI_at]
          exact v1.symm
        · rw [po_usI_ne ek]
          exact hk k (by omega)
      · have e : ¬ lpA9 (nI m) = 15 := e
        rw [if_neg e, Nat.add_zero] at ec
        exact c2 (lpC m) _ _ _ _ _ ec.symm (fun k hk1 => hk k (by omega)) hf
  refine e_X0_listPermutations_b0 ?_
  refine u_X0_listPermutations_b0_0 ?_; unfold cm_X0_listPermutations_0_b0
  exact c1 256 0 z (by omega) (fun k hk => absurd hk (Nat.not_lt_zero _)) fr_rf
theorem ti_indexE {k : Nat} (hk : k < 24) (hz : ∀ k, k < 24 → z.2.1 53001 k = pk9 k) : Te (fun K => ce_X0_indexOf_b0 K 53001 (pk9 k) z) (fun r => r.1 = nI k ∧ r.2 = z) := by
  let Q : Int32 × ow_MS → Prop := fun r => r.1 = nI k ∧ r.2 = z
  have hl : (Int32.ofNat (uw_len cT0 z 53001)) = nI 24 := by
    show nI (cT0.2 53001).2.1 = nI 24
    rw [ch_0r]
  have c1 : ∀ (d m : Nat), m + d = k → Tt (fun K t => c_X0_indexOf_b0 K t 1 (pk9 k) (nI m) 53001 z) Q := by
    intro d
    induction d with
    | zero =>
      intro m hm
      have em : m = k := by omega
      subst em
      refine u_X0_indexOf_b0_1 ?_; unfold cm_X0_indexOf_1_b0
      rw [hl]
      exact w_leF (by omega) (by omega) (w_crI ch_0r rfl (show m < 24 by omega) (hz m hk) (w_ifT rfl (w_some ⟨rfl, rfl⟩)))
    | succ d ih =>
      intro m hm
      refine u_X0_indexOf_b0_1 ?_; unfold cm_X0_indexOf_1_b0
      rw [hl, nI_1]
      refine w_leF (by omega) (by omega) (w_crI ch_0r rfl (show m < 24 by omega) (hz m (by omega)) (w_ifF (fun e => ?_) (ih (m + 1) (by omega))))
      have := pk_i9 ⟨m, by omega⟩ ⟨k, hk⟩ e
      have : m = k := this
      omega
  refine e_X0_indexOf_b0 ?_
  refine u_X0_indexOf_b0_0 ?_; unfold cm_X0_indexOf_0_b0
  exact c1 k 0 (by omega)
theorem ti_imageE {a b : Int32} : Te (fun K => ce_X5_image_b0 K a b z) (fun r => r.1 = foJ a b ∧ r.2 = z) := by
  refine e_X5_image_b0 ?_; unfold cm_X5_image_0_b0
  exact w_some ⟨rfl, rfl⟩
theorem ti_invertE {a : Int32} : Te (fun K => ce_X5_invert_b0 K a 4 z) (fun r => r.1 = foV a 4 ∧ r.2 = z) := by
  have c1 : ∀ (d m : Nat), m + d = 4 → Tt (fun K t => c_X5_invert_b0 K t 1 a 4 (foV a m) (nI m) z) (fun r => r.1 = foV a 4 ∧ r.2 = z) := by
    intro d
    induction d with
    | zero =>
      intro m hm
      have em : m = 4 := by omega
      subst em
      refine u_X5_invert_b0_1 ?_; unfold cm_X5_invert_1_b0
      exact w_leT (a := 4) (by omega) (by omega) (w_some ⟨rfl, rfl⟩)
    | succ d ih =>
      intro m hm
      refine u_X5_invert_b0_1 ?_; unfold cm_X5_invert_1_b0
      refine w_leF (a := 4) (by omega) (by omega) (w_cs1 ti_imageE (fun v y1 ⟨e0, e⟩ => ?_))
      have e : y1 = z := e
      have e0 : v = foJ a (nI m) := e0
      rw [e, e0, nI_1]
      exact ih (m + 1) (by omega)
  refine e_X5_invert_b0 ?_
  refine u_X5_invert_b0_0 ?_; unfold cm_X5_invert_0_b0
  exact c1 4 0 (by omega)
/-- the class's tables -/
def cjT (y : ow_MS) : Prop := (∀ o x, o < 24 → x < 24 → y.2.1 41006 (24 * o + x) = nI (cjG o x)) ∧ ∀ o, o < 24 → y.2.1 41007 o = nI (ivC o)
theorem ti_b0E : Te (fun K => ce_X0i_b0 K 41000 53001 z) cjT := by
  let I : Nat → Nat → ow_MS → Prop := fun m n y => (∀ o x, o < 24 → x < 24 → (o < m ∨ o = m ∧ x < n) → y.2.1 41006 (24 * o + x) = nI (cjG o x)) ∧ (∀ o, o < m → y.2.1 41007 o = nI (ivC o)) ∧ ∀ k, k < 24 → y.2.1 53001 k = pk9 k
  have c1 : ∀ (d m : Nat) (y : ow_MS), m + d = 24 → I m 0 y → Tt (fun K t => c_X0i_b0 K t 1 (nI m) 0 0 0 41000 53001 y) cjT := by
    intro d
    induction d with
    | zero =>
      intro m y hm hI
      have e : m = 24 := by omega
      subst e
      refine u_X0i_b0_1 ?_; unfold cm_X0i_1_b0
      exact w_leT (a := 24) (by omega) (by omega) (w_some ⟨fun o x ho hx => hI.1 o x ho hx (Or.inl ho), fun o ho => hI.2.1 o ho⟩)
    | succ d ih =>
      intro m y hm hI
      have c2 : ∀ (e n : Nat) (y : ow_MS), n + e = 24 → I m n y → Tt (fun K t => c_X0i_b0 K t 2 (nI m) (nI n) 0 0 41000 53001 y) cjT := by
        intro e
        induction e with
        | zero =>
          intro n y hn hI
          have e : n = 24 := by omega
          subst e
          obtain ⟨v1, v2⟩ := iv_c ⟨m, by omega⟩
          refine u_X0i_b0_2 ?_; unfold cm_X0i_2_b0
          refine w_leT (a := 24) (by omega) (by omega) (w_crI ch_0r rfl (show m < 24 by omega) (hI.2.2 m (by omega)) (w_cs1 ti_invertE (fun v y1 ⟨e0, e⟩ => ?_)))
          have e : y1 = y := e
          have e0 : v = foV (pk9 m) 4 := e0
          rw [e, e0, show foV (pk9 m) 4 = pk9 (ivC m) from v1]
          refine w_cs1 (ti_indexE v2 hI.2.2) (fun v y2 ⟨k2, e⟩ => ?_)
          have e : y2 = y := e
          have k2 : v = nI (ivC m) := k2
          rw [e, k2, nI_1]
          refine w_ctB ch_07 rfl (show m < 24 by omega) ?_
          rw [nar_24 ⟨ivC m, v2⟩]
          refine ih (m + 1) _ (by omega) ⟨fun o x ho hx h9 => rd_ot (by omega) (hI.1 o x ho hx (by omega)), fun o ho => ?_, fun k hk => rd_ot (by omega) (hI.2.2 k hk)⟩
          by_cases e9 : o = m
          · rw [e9]
            exact po_usI_at
          · exact rd_ne e9 (hI.2.1 o (by omega))
        | succ e ihe =>
          intro n y hn hI
          have hm24 : m < 24 := by omega
          have hn24 : n < 24 := by omega
          obtain ⟨v1, v2⟩ := cj_c ⟨m, hm24⟩ ⟨n, hn24⟩
          have c3 : ∀ (e5 q : Nat), q + e5 = 4 → Tt (fun K t => c_X0i_b0 K t 3 (nI m) (nI n) (cjW (pk9 m) (pk9 n) q) (nI q) 41000 53001 y) cjT := by
            intro e5
            induction e5 with
            | zero =>
              intro q hq
              have eq : q = 4 := by omega
              subst eq
              refine u_X0i_b0_3 ?_; unfold cm_X0i_3_b0
              rw [show cjW (pk9 m) (pk9 n) 4 = pk9 (cjG m n) from v1]
              refine w_leT (a := 4) (by omega) (by omega) (w_cs1 (ti_indexE v2 hI.2.2) (fun v y2 ⟨k2, e⟩ => ?_))
              have e : y2 = y := e
              have k2 : v = nI (cjG m n) := k2
              rw [e, k2, nI_1, show (24 : Int32) * nI m = nI (24 * m) from pk_mul 24 m, nI_add]
              refine w_ctB ch_06 rfl (show 24 * m + n < 576 by omega) ?_
              rw [nar_24 ⟨cjG m n, v2⟩]
              refine ihe (n + 1) _ (by omega) ⟨fun o x ho hx h9 => ?_, fun o ho => rd_ot (by omega) (hI.2.1 o ho), fun k hk => rd_ot (by omega) (hI.2.2 k hk)⟩
              by_cases e9 : o = m ∧ x = n
              · rw [e9.1, e9.2]
                exact po_usI_at
              · exact rd_ne (by omega) (hI.1 o x ho hx (by omega))
            | succ e5 ih5 =>
              intro q hq
              refine u_X0i_b0_3 ?_; unfold cm_X0i_3_b0
              refine w_leF (a := 4) (by omega) (by omega) (w_crI ch_0r rfl hm24 (hI.2.2 m hm24) (w_cs1 ti_imageE (fun w1 y1 ⟨e0, e⟩ => ?_)))
              have e : y1 = y := e
              have e0 : w1 = foJ (pk9 m) (nI q) := e0
              rw [e, e0]
              refine w_crI ch_0r rfl hm24 (hI.2.2 m hm24) (w_crI ch_0r rfl hn24 (hI.2.2 n hn24) (w_cs1 ti_imageE (fun w2 y2 ⟨e0, e⟩ => ?_)))
              have e : y2 = y := e
              have e0 : w2 = foJ (pk9 n) (nI q) := e0
              rw [e, e0]
              refine w_cs1 ti_imageE (fun w3 y3 ⟨e0, e⟩ => ?_)
              have e : y3 = y := e
              have e0 : w3 = foJ (pk9 m) (foJ (pk9 n) (nI q)) := e0
              rw [e, e0, nI_1]
              exact ih5 (q + 1) (by omega)
          refine u_X0i_b0_2 ?_; unfold cm_X0i_2_b0
          exact w_leF (a := 24) (by omega) (by omega) (c3 4 0 (by omega))
      refine u_X0i_b0_1 ?_; unfold cm_X0i_1_b0
      exact w_leF (a := 24) (by omega) (by omega) (c2 24 0 y (by omega) hI)
  refine e_X0i_b0 ?_
  refine u_X0i_b0_0 ?_; unfold cm_X0i_0_b0
  exact w_cs0 ti_permE (fun y ⟨hp, _⟩ => c1 24 0 y (by omega) ⟨fun o x _ _ h9 => by omega, fun o ho => absurd ho (Nat.not_lt_zero _), hp⟩)
end XMQ
