section
/-! 99zzzzzzzzzzzzzzzzyzp.xcie -/
-- CHAIN: loops at a crossing, for the reference
theorem tb_test (m y : Nat) : tb m y = m.testBit y := by
  rw [Nat.testBit_eq_decide_div_mod_eq]
  rfl
theorem or_bx {r l L : Nat} (hr : r < 2 ^ L) (hl : l < L) (hL : L ≤ 9) : ∃ r', r' < 2 ^ L ∧ nI r ||| ((1 : Int32) <<< (nI l &&& 31)) = nI r' ∧ ∀ j, tb r' j = (tb r j || decide (j = l)) := by
  have h2 : r < 512 := Nat.lt_of_lt_of_le hr (two_mono (b := 9) hL)
  have h3 := or_512 ⟨r / 16, by omega⟩ ⟨r % 16, by omega⟩ ⟨l, by omega⟩
  dsimp only at h3
  rw [show 16 * (r / 16) + r % 16 = r by omega] at h3
  refine ⟨r ||| 2 ^ l, Nat.or_lt_two_pow hr (Nat.pow_lt_pow_right (by omega) hl), h3, fun j => ?_⟩
  rw [tb_test, tb_test, Nat.testBit_or, Nat.testBit_two_pow]
  by_cases e : l = j
  · rw [decide_eq_true e, decide_eq_true e.symm]
  · rw [decide_eq_false e, decide_eq_false (fun h => e h.symm)]
section XCK4
variable {A : rn_L} {sg : Nat → Bool} {c s x : Nat} {T : ow_NT} {w : vT → Bool} {G : Nat → Prop} {P1 P2 : Nat → Nat} {rel : (Nat → Bool) → Nat → Nat → Prop} {Ls : Nat → Nat → Nat} {ns : Nat → Nat}
theorem pv_R (hN : isoN A sg (fun x => x) T) (hv : vn T.1 T.2.2.1) {v : Nat} (hl : v < A.flatten.length) : gV9 (prA9 A (vAt A v)) = gV9 (vAt A (rn_pv A v)) := by
  have hV := isoV_of hN hv
  have e1 := pv_gl hV (vAt_mem hl)
  have h1 := hN.2.2.2.2.2.1 (rn_pv A v) (pv_lt hl)
  rw [nx_pv hl] at h1
  have h2 : T.2.2.1.1 (lbv A (fun x => x) (rn_pv A v)) = lbv A (fun x => x) v := h1
  have e2 : T.2.2.1.2 (lbv A (fun x => x) v) = lbv A (fun x => x) (rn_pv A v) := by
    rw [← h2]
    exact (hv _ (lbv_lt hN (pv_lt hl))).2.2.1
  have e3 : gl (fun x => x) (vAt A v) = lbv A (fun x => x) v := rfl
  rw [e3, e2] at e1
  exact e1.symm
/-- the four gaps at a crossing lie in two loops -/
theorem at_R (hN : isoN A sg (fun x => x) T) (hT : pm1 T) (hv : vn T.1 T.2.2.1) (hc : T.1 ≤ 8) (hb : bdA A) (hs : s < 2 ^ T.1) {v : Nat} (hl : v < A.flatten.length) (hx : crs A v < T.1) : lbR A sg s (mtf A v) = lbR A sg s v ∧ lbR A sg s (rn_pv A (mtf A v)) = lbR A sg s (rn_pv A v) ∨ lbR A sg s (mtf A v) = lbR A sg s (rn_pv A v) ∧ lbR A sg s (rn_pv A (mtf A v)) = lbR A sg s v := by
  have hd := wkF_ok hN.1
  have hml := mtf_lt hd hl
  have em := vAt_mtf hN.1 hl
  have hu := (hb.2.1 _ (vAt_mem hl)).2
  have E := lst_e (jp9 A sg (fun x => x) T.1 (tb s))
  have up : ∀ {a b : Nat}, a < A.flatten.length → b < A.flatten.length → relL9 A sg (fun x => x) T.1 (tb s) (gV9 (vAt A a)) (gV9 (vAt A b)) → lbR A sg s a = lbR A sg s b := fun ha hb9 h => by
    unfold lbR
    rw [(rel_R hN hT hv hc hs ha hb9).mp h]
  have jn : ∀ {a b : Nat}, jc9 A sg (crs A v) (tb s (crs A v)) a b → relL9 A sg (fun x => x) T.1 (tb s) a b := fun h => lst_i ⟨crs A v, hx, h⟩
  have p1 := pv_R hN hv hl
  have p2 := pv_R hN hv hml
  rcases (show (vAt A v).2 = 0 ∨ (vAt A v).2 = 1 by omega) with e | e
  · have e0 : vAt A v = (crs A v, 0) := Prod.ext rfl e
    have e1 : vAt A (mtf A v) = (crs A v, 1) := by
      rw [em, e]
      rfl
    rw [e0] at p1
    rw [e1] at p2
    by_cases q : sg (crs A v) = tb s (crs A v)
    · right
      refine ⟨?_, ?_⟩
      · refine up hml (pv_lt hl) (E.2.1 _ _ ?_)
        rw [e1, ← p1]
        exact jn (Or.inl ⟨q, Or.inl ⟨rfl, rfl⟩⟩)
      · refine up (pv_lt hml) hl (E.2.1 _ _ ?_)
        rw [e0, ← p2]
        exact jn (Or.inl ⟨q, Or.inr ⟨rfl, rfl⟩⟩)
    · left
      refine ⟨?_, ?_⟩
      · refine up hml hl (E.2.1 _ _ ?_)
        rw [e0, e1]
        exact jn (Or.inr ⟨q, Or.inr ⟨rfl, rfl⟩⟩)
      · refine up (pv_lt hml) (pv_lt hl) (E.2.1 _ _ ?_)
        rw [← p1, ← p2]
        exact jn (Or.inr ⟨q, Or.inl ⟨rfl, rfl⟩⟩)
  · have e0 : vAt A v = (crs A v, 1) := Prod.ext rfl e
    have e1 : vAt A (mtf A v) = (crs A v, 0) := by
      rw [em, e]
      rfl
    rw [e0] at p1
    rw [e1] at p2
    by_cases q : sg (crs A v) = tb s (crs A v)
    · right
      refine ⟨?_, ?_⟩
      · refine up hml (pv_lt hl) ?_
        rw [e1, ← p1]
        exact jn (Or.inl ⟨q, Or.inr ⟨rfl, rfl⟩⟩)
      · refine up (pv_lt hml) hl ?_
        rw [e0, ← p2]
        exact jn (Or.inl ⟨q, Or.inl ⟨rfl, rfl⟩⟩)
    · left
      refine ⟨?_, ?_⟩
      · refine up hml hl ?_
        rw [e0, e1]
        exact jn (Or.inr ⟨q, Or.inr ⟨rfl, rfl⟩⟩)
      · refine up (pv_lt hml) (pv_lt hl) ?_
        rw [← p1, ← p2]
        exact jn (Or.inr ⟨q, Or.inl ⟨rfl, rfl⟩⟩)
/-- the loops of a visit's two gaps are those of the crossing -/
theorem ab_R (hN : isoN A sg (fun x => x) T) (hT : pm1 T) (hv : vn T.1 T.2.2.1) (hc : T.1 ≤ 8) (hb : bdA A) (hs : s < 2 ^ T.1) {v : Nat} (hl : v < A.flatten.length) (hx : crs A v < T.1) : (lbR A sg s v = LsR A sg s (gV9 (crs A v, 0)) ∧ lbR A sg s (rn_pv A v) = LsR A sg s (gV9 (prA9 A (crs A v, 0)))) ∨ (lbR A sg s v = LsR A sg s (gV9 (prA9 A (crs A v, 0))) ∧ lbR A sg s (rn_pv A v) = LsR A sg s (gV9 (crs A v, 0))) := by
  have hd := wkF_ok hN.1
  have hml := mtf_lt hd hl
  have em := vAt_mtf hN.1 hl
  have hu := (hb.2.1 _ (vAt_mem hl)).2
  have u2 : ∀ p, p ∈ A.flatten → p.2 < 2 := fun p hp => (hb.2.1 p hp).2
  rcases (show (vAt A v).2 = 0 ∨ (vAt A v).2 = 1 by omega) with e | e
  · have e0 : vAt A v = (crs A v, 0) := Prod.ext rfl e
    left
    rw [← e0, LsR_v hb.1 u2 hl, pv_R hN hv hl, LsR_v hb.1 u2 (pv_lt hl)]
    exact ⟨rfl, rfl⟩
  · have e1 : vAt A (mtf A v) = (crs A v, 0) := by
      rw [em, e]
      rfl
    rw [← e1, LsR_v hb.1 u2 hml, pv_R hN hv hml, LsR_v hb.1 u2 (pv_lt hml)]
    rcases at_R hN hT hv hc hb hs hl hx with ⟨a, b⟩ | ⟨a, b⟩
    · exact Or.inl ⟨a.symm, b.symm⟩
    · exact Or.inr ⟨b.symm, a.symm⟩
/-- the loops that stay, by bits -/
theorem K_un (hC : cu9 c 2000 G P1 P2 P2 rel) (hL : LT9 c G rel Ls ns) {m r : Nat} (hr : r < 2 ^ ns (s + 2 ^ x)) (h : ∀ l, l < ns (s + 2 ^ x) → (tb r l = true ↔ l ≠ Ls (s + 2 ^ x) (P1 x) ∧ l ≠ Ls (s + 2 ^ x) (P2 x) ∧ ∃ g, G g ∧ Ls (s + 2 ^ x) g = l ∧ btN m (Ls s g) = 1)) : r = K9 G Ls ns P1 P2 s m x := by
  have sp := K_sp (G := G) (Ls := Ls) (ns := ns) (P1 := P1) (P2 := P2) (s := s) (m := m) (x := x)
  refine tb_in _ hr sp.1 (fun l hl => ?_)
  rw [sp.2 l]
  refine bx ?_
  rw [h l hl, dcb_t]
  exact ⟨fun h9 => ⟨hl, h9⟩, fun h9 => h9.2⟩
end XCK4
end
section
/-! 99zzzzzzzzzzzzzzzzyzq.xcif -/
-- CHAIN: the reference's step, exactly
def wkR (z : ow_MS) (p size b : Nat) (v : vc9) : Prop := ∀ j, j < size → ∃ a, z.2.1 89 j = nI a ∧ a ≤ b ∧ (p : Int) ∣ (a : Int) - v j
section XCK5
variable {z : ow_MS}
theorem wkR_cg {p size b b' : Nat} {v v' : vc9} (h : wkR z p size b v) (hb : b ≤ b') (e : zq9 p size v v') : wkR z p size b' v' := fun j hj => by
  obtain ⟨a, a1, a2, a3⟩ := h j hj
  refine ⟨a, a1, by omega, ?_⟩
  have := Int.dvd_add a3 (e j hj)
  rw [show (a : Int) - v j + (v j - v' j) = a - v' j by omega] at this
  exact this
theorem wkR_add {p size b i nb : Nat} {v : vc9} {x : Int32} (h : wkR z p size b v) (hi : i < size) (hx : z.2.1 89 i = x) : wkR (usI z 89 i (x + nI nb)) p size (b + nb) (fun j => v j + if j = i then (nb : Int) else 0) := fun j hj => by
  dsimp only
  by_cases e : j = i
  · obtain ⟨a, a1, a2, a3⟩ := h j hj
    rw [e] at a1 a3 ⊢
    refine ⟨a + nb, ?_, by omega, ?_⟩
    · rw [po_usI_at, ← hx, a1, nI_add]
    · rw [if_pos rfl, show ((a + nb : Nat) : Int) - (v i + (nb : Int)) = (a : Int) - v i by omega]
      exact a3
  · obtain ⟨a, a1, a2, a3⟩ := h j hj
    refine ⟨a, rd_ne e a1, by omega, ?_⟩
    rw [if_neg e, Int.add_zero]
    exact a3
theorem sy9 (a j : Nat) : (if a = j then (1 : Int) else 0) = if j = a then 1 else 0 := by
  by_cases q : j = a
  · rw [if_pos q, if_pos q.symm]
  · rw [if_neg q, if_neg (fun h9 => q h9.symm)]
theorem cn_o1 {p nb par : Int} {w : Nat} (h : p ∣ nb - par) (f : Nat → Nat) (m1 : Nat) (v : vc9) : zq9 p w (fun j => v j + if j = f m1 then nb else 0) (fun j => v j + par * cnI f j [m1]) := fun j _ => by
  show p ∣ v j + (if j = f m1 then nb else 0) - (v j + par * ((if f m1 = j then 1 else 0) + 0))
  rw [sy9]
  generalize v j = R9
  by_cases q : j = f m1
  · rw [if_pos q, if_pos q, show R9 + nb - (R9 + par * (1 + 0)) = nb - par by omega]
    exact h
  · rw [if_neg q, if_neg q, show R9 + 0 - (R9 + par * (0 + 0)) = 0 by omega]
    exact Int.dvd_zero _
theorem cn_o2 {p nb par : Int} {w : Nat} (h : p ∣ nb - par) (f : Nat → Nat) (m1 m2 : Nat) (v : vc9) : zq9 p w (fun j => (v j + if j = f m1 then nb else 0) + if j = f m2 then nb else 0) (fun j => v j + par * cnI f j [m2, m1]) ∧ zq9 p w (fun j => (v j + if j = f m1 then nb else 0) + if j = f m2 then nb else 0) (fun j => v j + par * cnI f j [m1, m2]) := by
  have key : ∀ j, p ∣ v j + (if j = f m1 then nb else 0) + (if j = f m2 then nb else 0) - (v j + par * ((if j = f m2 then 1 else 0) + (if j = f m1 then 1 else 0))) := fun j => by
    generalize v j = R9
    by_cases q1 : j = f m1
    · rw [if_pos q1, if_pos q1]
      by_cases q2 : j = f m2
      · rw [if_pos q2, if_pos q2, show R9 + nb + nb - (R9 + par * (1 + 1)) = 2 * (nb - par) by omega]
        exact dvr9 2 h
      · rw [if_neg q2, if_neg q2, show R9 + nb + 0 - (R9 + par * (0 + 1)) = nb - par by omega]
        exact h
    · rw [if_neg q1, if_neg q1]
      by_cases q2 : j = f m2
      · rw [if_pos q2, if_pos q2, show R9 + 0 + nb - (R9 + par * (1 + 0)) = nb - par by omega]
        exact h
      · rw [if_neg q2, if_neg q2, show R9 + 0 + (0 : Int) - (R9 + par * (0 + 0)) = 0 by omega]
        exact Int.dvd_zero _
  have e1 : ∀ j, cnI f j [m2, m1] = (if j = f m2 then 1 else 0) + (if j = f m1 then 1 else 0) := fun j => by
    show (if f m2 = j then 1 else 0) + ((if f m1 = j then 1 else 0) + 0) = _
    rw [sy9 (f m2) j, sy9 (f m1) j, Int.add_zero]
  have e2 : ∀ j, cnI f j [m1, m2] = (if j = f m2 then 1 else 0) + (if j = f m1 then 1 else 0) := fun j => by
    show (if f m1 = j then 1 else 0) + ((if f m2 = j then 1 else 0) + 0) = _
    rw [sy9 (f m1) j, sy9 (f m2) j, Int.add_zero, Int.add_comm]
  refine ⟨fun j _ => ?_, fun j _ => ?_⟩
  · dsimp only
    rw [e1 j]
    exact key j
  · dsimp only
    rw [e2 j]
    exact key j
theorem orK {k l L : Nat} (hk : k < 2 ^ L) (hl : l < L) (hL : L ≤ 9) (h0 : btN k l = 0) : nI k ||| ((1 : Int32) <<< (nI l &&& 31)) = nI (k + 2 ^ l) := by
  have h2 : k < 512 := Nat.lt_of_lt_of_le hk (two_mono (b := 9) hL)
  have h3 := or_512 ⟨k / 16, by omega⟩ ⟨k % 16, by omega⟩ ⟨l, by omega⟩
  dsimp only at h3
  rw [show 16 * (k / 16) + k % 16 = k by omega, or_add h0] at h3
  exact h3
theorem bt_one {m l : Nat} (hm : m < 1024) (hl : l < 10) : ((nI m >>> (nI l &&& 31)) &&& 1 = (1 : Int32)) ↔ btN m l = 1 := by
  rw [crS hm hl]
  rcases bt_01 m l with e | e <;> rw [e] <;> decide
theorem re_step {n P s m x pr b q r mi : Nat} {A : rn_L} {sg : Nat → Bool} {T : ow_NT} {v9 : vc9} (hn : mw_net n) (hK : chOK A sg T.1 P) (hA : oNet z n A sg) (hI : stX z A sg T.1) (hpl : plX z A sg T.1 mi) (hmi : mi ≤ T.1) (hN : isoN A sg (fun x => x) T) (hT : pm1 T) (hv : vn T.1 T.2.2.1) (hbd : bdA A) (hC : cu9 T.1 2000 (gG9 A) (fun y => gV9 (y, 0)) (fun y => gV9 (prA9 A (y, 0))) (fun y => gV9 (prA9 A (y, 0))) (relL9 A sg (fun x => x) T.1)) (hva : va9 T.1 (LcN A sg) (dgq T.1 mi q) r s m) (hx : x < T.1) (hb : btN s x = 0) (hpr1 : 2 ≤ pr) (hpr : pr ≤ 997) (hw : wkR z pr (sz9 T.1 (LcN A sg) (dgq T.1 mi q) (r + 1)) b v9) : Te (fun K => qe_X13_step K n (nI s) (nI m) (nI x) (nI pr) z) (fun z1 => wkR z1 pr (sz9 T.1 (LcN A sg) (dgq T.1 mi q) (r + 1)) (b + 2 * pr) (fun j => v9 j + par9 (tb s) x * cnI (ix9 (LcN A sg) (dgq T.1 mi q) (s + 2 ^ x)) j (di9 (gG9 A) (LsR A sg) (LcN A sg) (fun y => gV9 (y, 0)) (fun y => gV9 (prA9 A (y, 0))) s m x)) ∧ fr (fun g => g = 89) z z1) := by
  have hK' := hK
  obtain ⟨hok, hc, hCl, hL9, hbs, hblk⟩ := hK
  have hs : s < 2 ^ T.1 := hva.1
  have hm : m < 2 ^ LcN A sg s := hva.2.2.1
  have hLT := LT_R hN hT hv hc hbd hL9
  have hV := okF_len hok
  have hd := wkF_ok hA.wk
  have hmn := net_mod hn
  have h2c : 2 ^ T.1 ≤ 256 := two_mono (b := 8) hc
  have ht := st_lt hs hx hb
  have hLs := hL9 s hs
  have hLt := hL9 (s + 2 ^ x) ht
  have hm10 : m < 1024 := Nat.lt_of_lt_of_le hm (two_mono (b := 10) (by omega))
  have hb1 : bsN A sg (s + 2 ^ x + 1) ≤ bsN A sg (2 ^ T.1) := bs_mono ht
  rw [bs_s] at hb1
  generalize hdi : di9 (gG9 A) (LsR A sg) (LcN A sg) (fun y => gV9 (y, 0)) (fun y => gV9 (prA9 A (y, 0))) s m x = DI
  generalize hsz : sz9 T.1 (LcN A sg) (dgq T.1 mi q) (r + 1) = size at hw
  have hsz2 : size ≤ 1140 := by
    rw [← hsz]
    exact bkF_sz hL9 (hblk _)
  let Q : ow_MS → Prop := fun z1 => wkR z1 pr size (b + 2 * pr) (fun j => v9 j + par9 (tb s) x * cnI (ix9 (LcN A sg) (dgq T.1 mi q) (s + 2 ^ x)) j DI) ∧ fr (fun g => g = 89) z z1
  have lo : ∀ {t g : Nat}, t < 2 ^ T.1 → g < A.flatten.length → z.2.1 81 (32 * t + g) = nI (lbR A sg t g) := fun h1 h2 => hI.2.2 _ _ h1 h2
  have lb9 : ∀ {t g : Nat}, t < 2 ^ T.1 → g < A.flatten.length → lbR A sg t g < 10 := fun {t g} h1 h2 => by
    have := lb_LcN (A := A) (sg := sg) (s := t) h2
    have := hL9 t h1
    omega
  obtain ⟨v0, v01, v02⟩ := ok_has hok hx
  -- what comes of it has its place
  have vd : ∀ m', m' ∈ DI → m' < 2 ^ LcN A sg (s + 2 ^ x) ∧ z.2.1 84 (bsN A sg (s + 2 ^ x) + m') = nI (ix9 (LcN A sg) (dgq T.1 mi q) (s + 2 ^ x) m') ∧ ix9 (LcN A sg) (dgq T.1 mi q) (s + 2 ^ x) m' < size := fun m' hm' => by
    rw [← hdi] at hm'
    have a := va_di hC hLT (by omega) hva hx hb hm'
    have e := (qv_kp (A := A) (sg := sg) (mi := mi) (q := q) ht hc hmi hLt a.2.2.1).mpr a.2.2.2
    have e2 := hpl.2 _ m' ht a.2.2.1
    rw [e] at e2
    refine ⟨a.2.2.1, e2, ?_⟩
    rw [← hsz]
    exact ix_sz a (by omega)
  obtain ⟨q1, q2, -⟩ := hC.2.2.2 x hx
  have sp := (K_sp (G := gG9 A) (Ls := LsR A sg) (ns := LcN A sg) (P1 := fun y => gV9 (y, 0)) (P2 := fun y => gV9 (prA9 A (y, 0))) (s := s) (m := m) (x := x)).1
  obtain ⟨k01, k02⟩ := K_0 (m := m) (s := s) (x := x) (P1 := fun y => gV9 (y, 0)) (P2 := fun y => gV9 (prA9 A (y, 0))) hLT
  obtain ⟨tl1, tl2, tl3, tl4⟩ := tn_lp hC hx hb
  obtain ⟨sl1, sl2, sl3, -⟩ := hLT s hs
  obtain ⟨ul1, ul2, ul3, -⟩ := hLT _ ht
  have u2 : ∀ p, p ∈ A.flatten → p.2 < 2 := fun p hp => (hbd.2.1 p hp).2
  generalize hKP : K9 (gG9 A) (LsR A sg) (LcN A sg) (fun y => gV9 (y, 0)) (fun y => gV9 (prA9 A (y, 0))) s m x = KP at sp k01 k02
  have c1 : ∀ (d v : Nat), v + d = v0 → (∀ u, u < v → crs A u ≠ x) → Tt (fun K i => q_X13_step K i 1 (nI s) (nI m) (nI x) (nI pr) (nI v) 0 0 0 0 0 0 0 0 0 0 0 n 0 z) Q := by
    have found : ∀ v, v < A.flatten.length → crs A v = x → Tt (fun K i => q_X13_step K i 1 (nI s) (nI m) (nI x) (nI pr) (nI v) 0 0 0 0 0 0 0 0 0 0 0 n 0 z) Q := by
      intro v hvl hcv
      have hml := mtf_lt hd hvl
      have hpv := rn_pv_lt hvl
      have hpm := rn_pv_lt hml
      have atS := at_R hN hT hv hc hbd hs hvl (by omega)
      have atT := at_R hN hT hv hc hbd ht hvl (by omega)
      have abS := ab_R hN hT hv hc hbd hs hvl (by omega)
      have abT := ab_R hN hT hv hc hbd ht hvl (by omega)
      rw [hcv] at abS abT
      generalize hla : lbR A sg s v = la at atS abS
      generalize hlb : lbR A sg s (rn_pv A v) = lb at atS abS
      generalize hka : lbR A sg (s + 2 ^ x) v = ka at atT abT
      generalize hkb : lbR A sg (s + 2 ^ x) (rn_pv A v) = kb at atT abT
      have la9 : la < 10 := by rw [← hla]; exact lb9 hs hvl
      have lb10 : lb < 10 := by rw [← hlb]; exact lb9 hs hpv
      have ka9 : ka < LcN A sg (s + 2 ^ x) := by rw [← hka]; exact lb_LcN hvl
      have kb9 : kb < LcN A sg (s + 2 ^ x) := by rw [← hkb]; exact lb_LcN hpv
      have ka0 : btN KP ka = 0 := by
        rcases abT with ⟨e1, e2⟩ | ⟨e1, e2⟩ <;> rw [e1]
        · exact k01
        · exact k02
      have kb0 : btN KP kb = 0 := by
        rcases abT with ⟨e1, e2⟩ | ⟨e1, e2⟩ <;> rw [e2]
        · exact k02
        · exact k01
      have eab : la = lb ↔ LsR A sg s (gV9 (x, 0)) = LsR A sg s (gV9 (prA9 A (x, 0))) := by
        rcases abS with ⟨e1, e2⟩ | ⟨e1, e2⟩ <;> rw [e1, e2]
        exact ⟨fun h => h.symm, fun h => h.symm⟩
      -- the list, by a and b
      have dE : la = lb → btN m la = 0 → DI = [KP] := fun h1 h2 => by
        rw [← hdi, ← hKP]
        unfold di9
        have h3 := eab.mp h1
        rw [if_pos h3]
        have h4 : btN m (LsR A sg s (gV9 (x, 0))) = 0 := by
          rcases abS with ⟨e1, e2⟩ | ⟨e1, e2⟩
          · rw [← e1]
            exact h2
          · rw [h3, ← e1]
            exact h2
        rw [if_pos h4]
      have dE1 : la = lb → btN m la = 1 → DI = [KP + 2 ^ ka, KP + 2 ^ kb] ∨ DI = [KP + 2 ^ kb, KP + 2 ^ ka] := fun h1 h2 => by
        rw [← hdi, ← hKP]
        unfold di9
        have h3 := eab.mp h1
        rw [if_pos h3]
        have h4 : ¬ btN m (LsR A sg s (gV9 (x, 0))) = 0 := by
          rcases abS with ⟨e1, e2⟩ | ⟨e1, e2⟩
          · rw [← e1]
            omega
          · rw [h3, ← e1]
            omega
        rw [if_neg h4]
        rcases abT with ⟨e1, e2⟩ | ⟨e1, e2⟩ <;> rw [e1, e2]
        · exact Or.inr rfl
        · exact Or.inl rfl
      have dN0 : ¬ la = lb → btN m la = 0 → btN m lb = 0 → DI = [] := fun h1 h2 h3 => by
        rw [← hdi]
        unfold di9
        rw [if_neg (fun h => h1 (eab.mpr h))]
        have : btN m (LsR A sg s (gV9 (x, 0))) = 0 ∧ btN m (LsR A sg s (gV9 (prA9 A (x, 0)))) = 0 := by
          rcases abS with ⟨e1, e2⟩ | ⟨e1, e2⟩ <;> rw [← e1, ← e2]
          · exact ⟨h2, h3⟩
          · exact ⟨h3, h2⟩
        rw [if_pos this]
      have dN1 : ¬ la = lb → btN m la + btN m lb = 1 → DI = [KP] := fun h1 h2 => by
        rw [← hdi, ← hKP]
        unfold di9
        dsimp only
        rw [if_neg (fun h => h1 (eab.mpr h))]
        have : btN m (LsR A sg s (gV9 (x, 0))) + btN m (LsR A sg s (gV9 (prA9 A (x, 0)))) = 1 := by
          rcases abS with ⟨e1, e2⟩ | ⟨e1, e2⟩ <;> rw [← e1, ← e2] <;> omega
        rw [if_neg (by omega), if_pos (by omega)]
      have dN2 : ¬ la = lb → btN m la = 1 → btN m lb = 1 → DI = [KP + 2 ^ ka] := fun h1 h2 h3 => by
        rw [← hdi, ← hKP]
        unfold di9
        dsimp only
        have nl : ¬ LsR A sg s (gV9 (x, 0)) = LsR A sg s (gV9 (prA9 A (x, 0))) := fun h => h1 (eab.mpr h)
        rw [if_neg nl]
        have : btN m (LsR A sg s (gV9 (x, 0))) = 1 ∧ btN m (LsR A sg s (gV9 (prA9 A (x, 0)))) = 1 := by
          rcases abS with ⟨e1, e2⟩ | ⟨e1, e2⟩ <;> rw [← e1, ← e2]
          · exact ⟨h2, h3⟩
          · exact ⟨h3, h2⟩
        rw [if_neg (by omega), if_neg (by omega)]
        have et : LsR A sg (s + 2 ^ x) (gV9 (x, 0)) = LsR A sg (s + 2 ^ x) (gV9 (prA9 A (x, 0))) := (ul3 _ _ q1 q2).mpr (tl3 (fun h => nl ((sl3 _ _ q1 q2).mpr h)))
        rcases abT with ⟨e1, e2⟩ | ⟨e1, e2⟩
        · rw [e1]
        · rw [e1, et]
      have c2 : ∀ (one : Nat), one ≤ pr → (pr : Int) ∣ (one : Int) - par9 (tb s) x → Tt (fun K i => q_X13_step K i 2 (nI s) (nI m) (nI x) (nI pr) (nI v) (nI (mtf A v)) (nI (s + 2 ^ x)) 0 0 0 0 0 0 0 0 0 n (nI one) z) Q := by
        intro one hone hpar
        have add1 : ∀ {m' : Nat} (y : ow_MS) (bb : Nat) (u9 : vc9) {E : ow_MS → Nat → Nat → Option ow_MS} (j : Int32), m' ∈ DI → fr (fun g => g = 89) z y → wkR y pr size bb u9 → j = nI m' → (∀ y1, fr (fun g => g = 89) z y1 → wkR y1 pr size (bb + one) (fun i => u9 i + if i = ix9 (LcN A sg) (dgq T.1 mi q) (s + 2 ^ x) m' then (one : Int) else 0) → Tt (E y1) Q) → Tt (fun K i => rdI mX y 83 (nI (s + 2 ^ x)) fun v1 => rdI mX y 84 (v1 + j) fun v2 => rdI mX y 89 v2 fun v3 => wrI mX y 89 v2 (v3 + nI one) fun y1 => E y1 K i) Q := by
          intro m' y bb u9 E j hm' hf hwy hj H
          obtain ⟨d1, d2, d3⟩ := vd m' hm'
          have e83 : y.2.1 83 (s + 2 ^ x) = nI (bsN A sg (s + 2 ^ x)) := by
            rw [(hf 83 (by omega)).2.1]
            exact hI.2.1 _ (by omega)
          have e84 : y.2.1 84 (bsN A sg (s + 2 ^ x) + m') = nI (ix9 (LcN A sg) (dgq T.1 mi q) (s + 2 ^ x) m') := by
            rw [(hf 84 (by omega)).2.1]
            exact d2
          exact w_rdI ml83 rfl (by omega) e83 (w_rdI (i := bsN A sg (s + 2 ^ x) + m') ml84 (by rw [hj, nI_add]) (by omega) e84 (w_rdI ml89 rfl (by omega) rfl (w_wrI ml89 rfl (by omega) (H _ (fr_I2 hf rfl) (wkR_add hwy d3 rfl)))))
        have Q1 : ∀ (y : ow_MS) (m1 : Nat), DI = [m1] → fr (fun g => g = 89) z y → wkR y pr size (b + one) (fun i => v9 i + if i = ix9 (LcN A sg) (dgq T.1 mi q) (s + 2 ^ x) m1 then (one : Int) else 0) → Q y := fun y m1 e hf h => ⟨by rw [e]; exact wkR_cg h (by omega) (cn_o1 hpar _ m1 v9), hf⟩
        have Q0 : DI = [] → Q z := fun e => ⟨by
          rw [e]
          exact wkR_cg hw (by omega) (fun j _ => by
            show (pr : Int) ∣ v9 j - (v9 j + par9 (tb s) x * 0)
            rw [Int.mul_zero, Int.add_zero, Int.sub_self]
            exact Int.dvd_zero _), fr_rf⟩
        have c9 : ∀ (x15 x16 : Int32), Tt (fun K i => q_X13_step K i 9 (nI s) (nI m) (nI x) (nI pr) (nI v) (nI (mtf A v)) (nI (s + 2 ^ x)) (nI one) (nI la) (nI lb) (nI ka) (nI kb) (nI KP) x15 x16 0 n (nI (btN m la)) z) Q := by
          intro x15 x16
          have er1 := orK sp ka9 hLt ka0
          have er2 := orK sp kb9 hLt kb0
          have c13 : ∀ (x15 x16 x17 : Int32) (y : ow_MS), Q y → Tt (fun K i => q_X13_step K i 13 (nI s) (nI m) (nI x) (nI pr) (nI v) (nI (mtf A v)) (nI (s + 2 ^ x)) (nI one) (nI la) (nI lb) (nI ka) (nI kb) (nI KP) x15 x16 x17 n 0 y) Q := by
            intro x15 x16 x17 y hq
            refine u_X13_step_13 ?_; unfold qm_X13_step_13
            exact w_some hq
          have c12 : ∀ (x15 x16 x17 : Int32), DI = [KP] → Tt (fun K i => q_X13_step K i 12 (nI s) (nI m) (nI x) (nI pr) (nI v) (nI (mtf A v)) (nI (s + 2 ^ x)) (nI one) (nI la) (nI lb) (nI ka) (nI kb) (nI KP) x15 x16 x17 n 0 z) Q := by
            intro x15 x16 x17 e
            refine u_X13_step_12 ?_; unfold qm_X13_step_12
            exact add1 z b v9 _ (by rw [e]; exact List.mem_cons_self) fr_rf hw rfl (fun y1 f1 w1 => c13 _ _ _ y1 (Q1 y1 KP e f1 w1))
          have c11 : ∀ (x15 : Int32) (fa fb : Nat), fa = btN m la → fb = btN m lb → ¬ la = lb → fa + fb ≤ 1 → Tt (fun K i => q_X13_step K i 11 (nI s) (nI m) (nI x) (nI pr) (nI v) (nI (mtf A v)) (nI (s + 2 ^ x)) (nI one) (nI la) (nI lb) (nI ka) (nI kb) (nI KP) x15 (nI fa) (nI fb) n 0 z) Q := by
            intro x15 fa fb hfa hfb hne hle
            refine u_X13_step_11 ?_; unfold qm_X13_step_11
            rcases bt_01 m la with e1 | e1 <;> rcases bt_01 m lb with e2 | e2
            · exact w_ifT (by rw [hfa, e1]; rfl) (w_ifT (by rw [hfb, e2]; rfl) (c13 _ _ _ z (Q0 (dN0 hne e1 e2))))
            · exact w_ifT (by rw [hfa, e1]; rfl) (w_ifF (by rw [hfb, e2]; decide) (c12 _ _ _ (dN1 hne (by omega))))
            · exact w_ifF (by rw [hfa, e1]; decide) (c12 _ _ _ (dN1 hne (by omega)))
            · omega
          have c10 : ∀ (x15 : Int32) (fa fb : Nat), fa = btN m la → fb = btN m lb → ¬ la = lb → Tt (fun K i => q_X13_step K i 10 (nI s) (nI m) (nI x) (nI pr) (nI v) (nI (mtf A v)) (nI (s + 2 ^ x)) (nI one) (nI la) (nI lb) (nI ka) (nI kb) (nI KP) x15 (nI fa) 0 n (nI fb) z) Q := by
            intro x15 fa fb hfa hfb hne
            refine u_X13_step_10 ?_; unfold qm_X13_step_10
            rcases bt_01 m la with e1 | e1
            · exact w_ifT (by rw [hfa, e1]; rfl) (c11 _ fa fb hfa hfb hne (by rcases bt_01 m lb with e2 | e2 <;> omega))
            · refine w_ifF (by rw [hfa, e1]; decide) ?_
              rcases bt_01 m lb with e2 | e2
              · exact w_ifT (by rw [hfb, e2]; rfl) (c11 _ fa fb hfa hfb hne (by omega))
              · refine w_ifF (by rw [hfb, e2]; decide) ?_
                have e := dN2 hne e1 e2
                exact add1 z b v9 _ (by rw [e]; exact List.mem_cons_self) fr_rf hw er1 (fun y1 f1 w1 => c13 _ _ _ y1 (Q1 y1 _ e f1 w1))
          refine u_X13_step_9 ?_; unfold qm_X13_step_9
          refine w_if (fun h9 => ?_) (fun h9 => ?_)
          · have hab : la = lb := (nI_eq (by omega) (by omega)).mp h9
            rcases bt_01 m la with e1 | e1
            · have e := dE hab e1
              exact w_ifT (by rw [e1]; rfl) (add1 z b v9 _ (by rw [e]; exact List.mem_cons_self) fr_rf hw rfl (fun y1 f1 w1 => w_some (Q1 y1 KP e f1 w1)))
            · have e := dE1 hab e1
              refine w_ifF (by rw [e1]; decide) (add1 (m' := KP + 2 ^ ka) z b v9 _ ?_ fr_rf hw er1 (fun y1 f1 w1 => add1 (m' := KP + 2 ^ kb) y1 (b + one) _ _ ?_ f1 w1 er2 (fun y2 f2 w2 => w_some ?_)))
              · rcases e with e | e <;> rw [e] <;> simp
              · rcases e with e | e <;> rw [e] <;> simp
              · refine ⟨?_, f2⟩
                rcases e with e | e <;> rw [e]
                · exact wkR_cg w2 (by omega) (cn_o2 hpar _ _ _ v9).2
                · exact wkR_cg w2 (by omega) (cn_o2 hpar _ _ _ v9).1
          · have hab : ¬ la = lb := fun e => h9 (by rw [e])
            rcases bt_01 m lb with e2 | e2
            · exact w_ifF (fun h8 => by have := (bt_one hm10 lb10).mp h8; omega) (c10 _ _ 0 rfl e2.symm hab)
            · exact w_ifT ((bt_one hm10 lb10).mpr e2) (c10 _ _ 1 rfl e2.symm hab)
        -- which bits stand in what stays
        have c7 : ∀ (d k rr : Nat), k + d = eC A + 1 → 1 ≤ k → rr < 2 ^ LcN A sg (s + 2 ^ x) → (∀ l, tb rr l = true ↔ (∃ u, u < A.flatten.length ∧ lbR A sg s u ≠ la ∧ lbR A sg s u ≠ lb ∧ btN m (lbR A sg s u) = 1 ∧ lbR A sg (s + 2 ^ x) u = l) ∨ ∃ k', 1 ≤ k' ∧ k' < k ∧ btN m (LcN A sg s - k') = 1 ∧ l = LcN A sg (s + 2 ^ x) - k') → Tt (fun K i => q_X13_step K i 7 (nI s) (nI m) (nI x) (nI pr) (nI v) (nI (mtf A v)) (nI (s + 2 ^ x)) (nI one) (nI la) (nI lb) (nI ka) (nI kb) (nI rr) (nI (eC A)) (nI k) 0 n 0 z) Q := by
          have heC : eC A ≤ 6 := by have := neC_eC A; omega
          have hLe : ∀ t, eC A ≤ LcN A sg t := fun t => by unfold LcN; omega
          intro d
          induction d with
          | zero =>
            intro k rr hk hk1 hrr hbits
            have ek : k = eC A + 1 := by omega
            have eKP : rr = KP := by
              rw [← hKP]
              refine K_un hC hLT hrr (fun l hl => ?_)
              rw [hbits l]
              constructor
              · rintro (⟨u, u1, u3, u4, u5, u6⟩ | ⟨k', k1, k2, k3, k4⟩)
                · have nS : ¬ (relL9 A sg (fun x => x) T.1 (tb s) (gV9 (vAt A u)) (gV9 (x, 0)) ∨ relL9 A sg (fun x => x) T.1 (tb s) (gV9 (vAt A u)) (gV9 (prA9 A (x, 0)))) := fun h9 => by
                    have gu : gG9 A (gV9 (vAt A u)) := Or.inl ⟨_, vAt_mem u1, rfl⟩
                    have h8 := h9.imp (fun h => (sl3 _ _ gu q1).mpr h) (fun h => (sl3 _ _ gu q2).mpr h)
                    rw [LsR_v hbd.1 u2 u1] at h8
                    rcases abS with ⟨e1, e2⟩ | ⟨e1, e2⟩ <;> rw [← e1, ← e2] at h8
                    · exact h8.elim u3 u4
                    · exact h8.elim u4 u3
                  have nT := fun h9 => nS ((tl1 _).mpr h9)
                  have gu : gG9 A (gV9 (vAt A u)) := Or.inl ⟨_, vAt_mem u1, rfl⟩
                  have eT : LsR A sg (s + 2 ^ x) (gV9 (vAt A u)) = l := by
                    rw [LsR_v hbd.1 u2 u1]
                    exact u6
                  refine ⟨fun h9 => nT (Or.inl ((ul3 _ _ gu q1).mp (eT.trans h9))), fun h9 => nT (Or.inr ((ul3 _ _ gu q2).mp (eT.trans h9))), _, gu, eT, ?_⟩
                  rw [LsR_v hbd.1 u2 u1]
                  exact u5
                · obtain ⟨i, i1, i2, i3⟩ := cb_at (A := A) (l := eC A - k') A.length (by rw [cb_all, cirs_eC]; omega)
                  have a1 := LsR_c (sg := sg) (s := s) hbd (i := i)
                  have a2 := LsR_c (sg := sg) (s := s + 2 ^ x) hbd (i := i)
                  have e1 : LsR A sg s (1000 + i) = LcN A sg s - k' := by
                    rw [a1, i3]
                    unfold LcN
                    omega
                  have e2 : LsR A sg (s + 2 ^ x) (1000 + i) = l := by
                    rw [a2, i3, k4]
                    unfold LcN
                    omega
                  have gi : gG9 A (1000 + i) := Or.inr ⟨i, i1, i2, rfl⟩
                  have hO := nm_id hN hv
                  have no : ∀ p, p ∈ A.flatten → ¬ relL9 A sg (fun x => x) T.1 (tb (s + 2 ^ x)) (1000 + i) (gV9 p) := fun p hp h9 => by
                    have g9 := gV_lt hbd hp
                    rcases relL_out hbd.1 hO h9 with h8 | ⟨⟨p', b1, b2⟩, -⟩
                    · omega
                    · have := gV_lt hbd b1
                      omega
                  have m0 : (x, 0) ∈ A.flatten := (hO.1 x hx).1
                  refine ⟨fun h9 => no _ m0 ((ul3 _ _ gi q1).mp (e2.trans h9)), fun h9 => no _ (prA_in hbd.1 m0) ((ul3 _ _ gi q2).mp (e2.trans h9)), _, gi, e2, ?_⟩
                  rw [e1]
                  exact k3
              · rintro ⟨n1, n2, g, g1, g2, g3⟩
                rcases g1 with ⟨p, p1, p2⟩ | ⟨i, i1, i2, i3⟩
                · obtain ⟨u, hu, e⟩ := List.getElem_of_mem p1
                  have e : vAt A u = p := vAt_eq (by rw [List.getElem?_eq_getElem hu, e])
                  rw [p2, ← e] at g2 g3
                  rw [LsR_v hbd.1 u2 hu] at g3
                  have gu : gG9 A (gV9 (vAt A u)) := Or.inl ⟨_, vAt_mem hu, rfl⟩
                  have nT : ¬ (relL9 A sg (fun x => x) T.1 (tb (s + 2 ^ x)) (gV9 (vAt A u)) (gV9 (x, 0)) ∨ relL9 A sg (fun x => x) T.1 (tb (s + 2 ^ x)) (gV9 (vAt A u)) (gV9 (prA9 A (x, 0)))) := fun h9 => h9.elim (fun h => n1 (g2.symm.trans ((ul3 _ _ gu q1).mpr h))) (fun h => n2 (g2.symm.trans ((ul3 _ _ gu q2).mpr h)))
                  have nS := fun h9 => nT ((tl1 _).mp h9)
                  have n3 : lbR A sg s u ≠ LsR A sg s (gV9 (x, 0)) := fun h9 => nS (Or.inl ((sl3 _ _ gu q1).mp (by rw [LsR_v hbd.1 u2 hu]; exact h9)))
                  have n4 : lbR A sg s u ≠ LsR A sg s (gV9 (prA9 A (x, 0))) := fun h9 => nS (Or.inr ((sl3 _ _ gu q2).mp (by rw [LsR_v hbd.1 u2 hu]; exact h9)))
                  rw [LsR_v hbd.1 u2 hu] at g2
                  refine Or.inl ⟨u, hu, ?_, ?_, g3, g2⟩
                  · rcases abS with ⟨e1, e2⟩ | ⟨e1, e2⟩ <;> rw [e1]
                    · exact n3
                    · exact n4
                  · rcases abS with ⟨e1, e2⟩ | ⟨e1, e2⟩ <;> rw [e2]
                    · exact n4
                    · exact n3
                · rw [i3] at g2 g3
                  rw [LsR_c hbd] at g2 g3
                  have ci := cb_mono (A := A) A.length i1
                  rw [cb_s i2, cb_all, cirs_eC] at ci
                  refine Or.inr ⟨eC A - cb9 A i, by omega, by omega, ?_, ?_⟩
                  · rw [show LcN A sg s - (eC A - cb9 A i) = rtsN (lpA A sg (nI s) A.flatten.length) A.flatten.length + cb9 A i by unfold LcN; omega]
                    exact g3
                  · rw [← g2]
                    unfold LcN
                    omega
            rw [eKP]
            refine u_X13_step_7 ?_; unfold qm_X13_step_7
            refine w_ltT (by omega) (by omega) ?_
            rcases bt_01 m la with e1 | e1
            · have q9 := c9 (nI (eC A)) (nI k)
              rw [e1] at q9
              exact w_ifF (fun h8 => by have := (bt_one hm10 la9).mp h8; omega) q9
            · have q9 := c9 (nI (eC A)) (nI k)
              rw [e1] at q9
              exact w_ifT ((bt_one hm10 la9).mpr e1) q9
          | succ d ih7 =>
            intro k rr hk hk1 hrr hbits
            have hle : k ≤ LcN A sg (s + 2 ^ x) := by have := hLe (s + 2 ^ x); omega
            have hle2 : k ≤ LcN A sg s := by have := hLe s; omega
            obtain ⟨r1, hr1, er1, eb1⟩ := or_bx (l := LcN A sg (s + 2 ^ x) - k) hrr (by omega) hLt
            have c8 : ∀ rr, rr < 2 ^ LcN A sg (s + 2 ^ x) → (∀ l, tb rr l = true ↔ (∃ u, u < A.flatten.length ∧ lbR A sg s u ≠ la ∧ lbR A sg s u ≠ lb ∧ btN m (lbR A sg s u) = 1 ∧ lbR A sg (s + 2 ^ x) u = l) ∨ ∃ k', 1 ≤ k' ∧ k' < k + 1 ∧ btN m (LcN A sg s - k') = 1 ∧ l = LcN A sg (s + 2 ^ x) - k') → Tt (fun K i => q_X13_step K i 8 (nI s) (nI m) (nI x) (nI pr) (nI v) (nI (mtf A v)) (nI (s + 2 ^ x)) (nI one) (nI la) (nI lb) (nI ka) (nI kb) (nI rr) (nI (eC A)) (nI k) 0 n 0 z) Q := by
              intro rr hrr hbits
              refine u_X13_step_8 ?_; unfold qm_X13_step_8
              rw [show nI k + 1 = nI (k + 1) from nI_1 _]
              exact ih7 (k + 1) rr (by omega) (by omega) hrr hbits
            refine u_X13_step_7 ?_; unfold qm_X13_step_7
            refine w_ltF (by omega) (by omega) (w_rdI ml82 rfl (by omega) (hI.1 s hs) ?_)
            rw [pk_sub hle2]
            refine w_if (fun h9 => w_rdI ml82 rfl (by omega) (hI.1 _ ht) ?_) (fun h9 => c8 rr hrr (fun l => ?_))
            · rw [pk_sub hle, er1]
              refine c8 r1 hr1 (fun l => ?_)
              rw [eb1 l, Bool.or_eq_true, hbits l, decide_eq_true_iff]
              have hbt := (bt_one hm10 (show LcN A sg s - k < 10 by omega)).mp h9
              constructor
              · rintro ((h8 | ⟨k', k1, k2, k3, k4⟩) | h8)
                · exact Or.inl h8
                · exact Or.inr ⟨k', k1, by omega, k3, k4⟩
                · exact Or.inr ⟨k, hk1, by omega, hbt, h8⟩
              · rintro (h8 | ⟨k', k1, k2, k3, k4⟩)
                · exact Or.inl (Or.inl h8)
                · by_cases e : k' = k
                  · rw [e] at k4
                    exact Or.inr k4
                  · exact Or.inl (Or.inr ⟨k', k1, by omega, k3, k4⟩)
            · rw [hbits l]
              constructor
              · rintro (h8 | ⟨k', k1, k2, k3, k4⟩)
                · exact Or.inl h8
                · exact Or.inr ⟨k', k1, by omega, k3, k4⟩
              · rintro (h8 | ⟨k', k1, k2, k3, k4⟩)
                · exact Or.inl h8
                · by_cases e : k' = k
                  · rw [e] at k3
                    exact absurd ((bt_one hm10 (show LcN A sg s - k < 10 by omega)).mpr k3) h9
                  · exact Or.inr ⟨k', k1, by omega, k3, k4⟩
        have c5 : ∀ (d g rr : Nat), g + d = A.flatten.length → rr < 2 ^ LcN A sg (s + 2 ^ x) → (∀ l, tb rr l = true ↔ ∃ u, u < g ∧ lbR A sg s u ≠ la ∧ lbR A sg s u ≠ lb ∧ btN m (lbR A sg s u) = 1 ∧ lbR A sg (s + 2 ^ x) u = l) → Tt (fun K i => q_X13_step K i 5 (nI s) (nI m) (nI x) (nI pr) (nI v) (nI (mtf A v)) (nI (s + 2 ^ x)) (nI one) (nI la) (nI lb) (nI ka) (nI kb) (nI rr) (nI g) 0 0 n 0 z) Q := by
          intro d
          induction d with
          | zero =>
            intro g rr hg hrr hbits
            have eg : g = A.flatten.length := by omega
            refine u_X13_step_5 ?_; unfold qm_X13_step_5
            refine w_rdF hA.1.V (w_leT (by omega) (by omega) (w_cs1 (tp_circles2 hn (by omega) (by omega) hA.1.1) (fun a y e => ?_)))
            cases e
            refine c7 (eC A) 1 rr (by omega) (Nat.le_refl _) hrr (fun l => ?_)
            rw [hbits l, eg]
            exact ⟨fun h8 => Or.inl h8, fun h8 => h8.elim id (fun ⟨k', k1, k2, _⟩ => by omega)⟩
          | succ d ih5 =>
            intro g rr hg hrr hbits
            have hgl : g < A.flatten.length := by omega
            obtain ⟨r1, hr1, er1, eb1⟩ := or_bx hrr (lb_LcN (A := A) (sg := sg) (s := s + 2 ^ x) hgl) hLt
            have c6 : ∀ rr (x16 : Int32), rr < 2 ^ LcN A sg (s + 2 ^ x) → (∀ l, tb rr l = true ↔ ∃ u, u < g + 1 ∧ lbR A sg s u ≠ la ∧ lbR A sg s u ≠ lb ∧ btN m (lbR A sg s u) = 1 ∧ lbR A sg (s + 2 ^ x) u = l) → Tt (fun K i => q_X13_step K i 6 (nI s) (nI m) (nI x) (nI pr) (nI v) (nI (mtf A v)) (nI (s + 2 ^ x)) (nI one) (nI la) (nI lb) (nI ka) (nI kb) (nI rr) (nI g) x16 0 n 0 z) Q := by
              intro rr x16 hrr hbits
              refine u_X13_step_6 ?_; unfold qm_X13_step_6
              rw [show nI g + 1 = nI (g + 1) from nI_1 _]
              exact ih5 (g + 1) rr (by omega) hrr hbits
            have skip : (lbR A sg s g = la ∨ lbR A sg s g = lb ∨ btN m (lbR A sg s g) ≠ 1) → ∀ l, tb rr l = true ↔ ∃ u, u < g + 1 ∧ lbR A sg s u ≠ la ∧ lbR A sg s u ≠ lb ∧ btN m (lbR A sg s u) = 1 ∧ lbR A sg (s + 2 ^ x) u = l := fun h9 l => by
              rw [hbits l]
              constructor
              · rintro ⟨u, u1, h8⟩
                exact ⟨u, by omega, h8⟩
              · rintro ⟨u, u1, u3, u4, u5, u6⟩
                refine ⟨u, ?_, u3, u4, u5, u6⟩
                by_cases e : u = g
                · rw [e] at u3 u4 u5
                  rcases h9 with h | h | h
                  · exact absurd h u3
                  · exact absurd h u4
                  · exact absurd u5 h
                · omega
            have l9 := lb9 hs hgl
            refine u_X13_step_5 ?_; unfold qm_X13_step_5
            rw [i32x, i32x]
            refine w_rdF hA.1.V (w_leF (by omega) hgl (w_rdI ml81 rfl (by omega) (lo hs hgl) (w_if (fun h9 => c6 _ _ hrr (skip (Or.inl ((nI_eq (by omega) (by omega)).mp h9)))) (fun n1 => w_if (fun h9 => c6 _ _ hrr (skip (Or.inr (Or.inl ((nI_eq (by omega) (by omega)).mp h9))))) (fun n2 => w_if (fun h9 => w_rdI ml81 rfl (by omega) (lo ht hgl) ?_) (fun h9 => c6 _ _ hrr (skip (Or.inr (Or.inr (fun h8 => h9 ((bt_one hm10 l9).mpr h8)))))))))))
            rw [er1]
            refine c6 _ _ hr1 (fun l => ?_)
            rw [eb1 l, Bool.or_eq_true, hbits l, decide_eq_true_iff]
            constructor
            · rintro (⟨u, u1, h8⟩ | h8)
              · exact ⟨u, by omega, h8⟩
              · exact ⟨g, by omega, fun h => n1 (by rw [h]), fun h => n2 (by rw [h]), (bt_one hm10 l9).mp h9, h8.symm⟩
            · rintro ⟨u, u1, u3, u4, u5, u6⟩
              by_cases e : u = g
              · rw [e] at u6
                exact Or.inr u6.symm
              · exact Or.inl ⟨u, by omega, u3, u4, u5, u6⟩
        have c4 : Tt (fun K i => q_X13_step K i 4 (nI s) (nI m) (nI x) (nI pr) (nI v) (nI (mtf A v)) (nI (s + 2 ^ x)) (nI one) (nI la) (nI lb) (nI ka) 0 0 0 0 0 n (nI kb) z) Q := by
          refine u_X13_step_4 ?_; unfold qm_X13_step_4
          refine c5 A.flatten.length 0 0 (by omega) (Nat.two_pow_pos _) (fun l => ?_)
          have : tb 0 l = false := by
            unfold tb
            rw [Nat.zero_div]
            rfl
          rw [this]
          exact ⟨fun h => Bool.noConfusion h, fun ⟨u, h, _⟩ => absurd h (Nat.not_lt_zero _)⟩
        have c3 : Tt (fun K i => q_X13_step K i 3 (nI s) (nI m) (nI x) (nI pr) (nI v) (nI (mtf A v)) (nI (s + 2 ^ x)) (nI one) (nI la) 0 0 0 0 0 0 0 n (nI lb) z) Q := by
          have ka2 := lo ht hvl
          have kb2 := lo ht hpv
          have kc2 := lo ht hml
          have kd2 := lo ht hpm
          rw [hka] at ka2
          rw [hkb] at kb2
          refine u_X13_step_3 ?_; unfold qm_X13_step_3
          rw [i32x, i32x]
          refine w_rdI ml81 rfl (by omega) ka2 (w_rdI (pl10 hn) rfl (by omega) (lk_p hA.1 hvl) (w_rdI ml81 i32x (by omega) kb2 (w_if (fun h9 => w_rdI ml81 rfl (by omega) kc2 (w_if (fun h8 => w_rdI (pl10 hn) rfl (by omega) (lk_p hA.1 hml) (w_rdI ml81 i32x (by omega) kd2 ?_)) (fun h8 => ?_))) (fun h9 => w_rdI (pl10 hn) rfl (by omega) (lk_p hA.1 hvl) (w_rdI ml81 i32x (by omega) kb2 c4)))))
          · have hab : kb = ka := (nI_eq (by omega) (by omega)).mp h9
            have ed : lbR A sg (s + 2 ^ x) (rn_pv A (mtf A v)) = kb := by
              rcases atT with ⟨e1, e2⟩ | ⟨e1, e2⟩ <;> omega
            rw [ed]
            exact c4
          · have hab : kb = ka := (nI_eq (by omega) (by omega)).mp h9
            have ec : lbR A sg (s + 2 ^ x) (mtf A v) = ka := by
              rcases atT with ⟨e1, e2⟩ | ⟨e1, e2⟩ <;> omega
            exact absurd (by rw [ec]) h8
        have la2 := lo hs hvl
        have lb2 := lo hs hpv
        have lc2 := lo hs hml
        have ld2 := lo hs hpm
        rw [hla] at la2
        rw [hlb] at lb2
        refine u_X13_step_2 ?_; unfold qm_X13_step_2
        rw [i32x, i32x]
        refine w_rdI ml81 rfl (by omega) la2 (w_rdI (pl10 hn) rfl (by omega) (lk_p hA.1 hvl) (w_rdI ml81 i32x (by omega) lb2 (w_if (fun h9 => w_rdI ml81 rfl (by omega) lc2 (w_if (fun h8 => w_rdI (pl10 hn) rfl (by omega) (lk_p hA.1 hml) (w_rdI ml81 i32x (by omega) ld2 ?_)) (fun h8 => ?_))) (fun h9 => w_rdI (pl10 hn) rfl (by omega) (lk_p hA.1 hvl) (w_rdI ml81 i32x (by omega) lb2 c3)))))
        · have hab : lb = la := (nI_eq (by omega) (by omega)).mp h9
          have ed : lbR A sg s (rn_pv A (mtf A v)) = lb := by
            rcases atS with ⟨e1, e2⟩ | ⟨e1, e2⟩ <;> omega
          rw [ed]
          exact c3
        · have hab : lb = la := (nI_eq (by omega) (by omega)).mp h9
          have ec : lbR A sg s (mtf A v) = la := by
            rcases atS with ⟨e1, e2⟩ | ⟨e1, e2⟩ <;> omega
          exact absurd (by rw [ec]) h8
      have nk := nb_k ⟨s, by omega⟩ ⟨x, by omega⟩
      refine u_X13_step_1 ?_; unfold qm_X13_step_1
      refine w_rdI (pl4 hn) rfl (by omega) (lk_cu hA.1 hvl).1 (w_ifT (by rw [hcv]) (w_rdI (pl7 hn) rfl (by omega) (lk_m hd hA.1 hvl) ?_))
      rw [st_or (by omega) (by omega) hb]
      refine w_if (fun h9 => ?_) (fun h9 => ?_)
      · have e1 : par9 (tb s) x = 1 := nk.1.mp h9
        exact c2 1 (by omega) (by rw [e1]; exact Int.dvd_zero _)
      · have e1 : par9 (tb s) x = -1 := nk.2.elim (fun h8 => absurd (nk.1.mpr h8) h9) id
        rw [show nI pr - 1 = nI (pr - 1) from pk_sub (b := 1) (by omega)]
        refine c2 (pr - 1) (by omega) ?_
        rw [e1]
        exact ⟨1, by omega⟩
    intro d
    induction d with
    | zero =>
      intro v hv9 _
      exact found v (by omega) (by rw [show v = v0 by omega]; exact v02)
    | succ d ih =>
      intro v hv9 hall
      by_cases hcv : crs A v = x
      · exact found v (by omega) hcv
      · have hcx := (hA.cx (i := v) (by omega)).1
        refine u_X13_step_1 ?_; unfold qm_X13_step_1
        refine w_rdI (pl4 hn) rfl (by omega) (lk_cu hA.1 (by omega)).1 (w_ifF (fun e9 => hcv ((nI_eq (by omega) (by omega)).mp e9)) ?_)
        rw [show nI v + 1 = nI (v + 1) from nI_1 _]
        refine ih (v + 1) (by omega) (fun u hu => ?_)
        by_cases huv : u = v
        · rw [huv]; exact hcv
        · exact hall u (by omega)
  refine e_X13_step ?_
  refine u_X13_step_0 ?_; unfold qm_X13_step_0
  exact c1 v0 0 (by omega) (fun u hu => absurd hu (Nat.not_lt_zero _))
end XCK5
end
section
/-! 99zzzzzzzzzzzzzzzzyzr.xcig -/
-- CHAIN: the reference's reduced, exactly
def px9 (z : ow_MS) (p size N : Nat) (cl vv : Nat → Nat) (d : Nat → vc9) : Prop := (∀ i, i < N → z.2.1 92 i = nI (1024 * cl i + vv i) ∧ cl i < size ∧ vv i < p) ∧ ∀ k, k < size → (z.2.1 90 k = -1 ∧ ∀ j, j < size → (p : Int) ∣ d k j) ∨ ∃ b e, z.2.1 90 k = nI b ∧ z.2.1 91 k = nI e ∧ b ≤ e ∧ e ≤ N ∧ (∀ j, j < size → (p : Int) ∣ rs9 cl vv b (e - b) j - d k j) ∧ (p : Int) ∣ d k k - 1
section XCK6
variable {z : ow_MS}
theorem px_fr {P : Nat → Prop} {y y1 : ow_MS} {p size N : Nat} {cl vv : Nat → Nat} {d : Nat → vc9} (hf : fr P y y1) (hP : ¬ P 90 ∧ ¬ P 91 ∧ ¬ P 92) (h : px9 y p size N cl vv d) : px9 y1 p size N cl vv d := by
  unfold px9
  rw [(hf _ hP.1).2.1, (hf _ hP.2.1).2.1, (hf _ hP.2.2).2.1]
  exact h
theorem re_inv {a p : Nat} (hp : prT p) (hp9 : p ≤ 997) (h1 : 1 ≤ a) (h2 : a < p) : Te (fun K => qe_X13_inverseOf K (nI a) (nI p) z) (fun r => r.2 = z ∧ ∃ k, k < p ∧ r.1 = nI k ∧ k * a % p = 1) := by
  have hp2 := hp.1
  obtain ⟨k0, hk1, hk2, hk3⟩ := pr_inv hp h1 h2
  have key : ∀ (d k : Nat), k + d = k0 → Tt (fun K i => q_X13_inverseOf K i 1 (nI a) (nI p) (nI k) z) (fun r => r.2 = z ∧ ∃ k, k < p ∧ r.1 = nI k ∧ k * a % p = 1) := by
    intro d
    induction d with
    | zero =>
      intro k hk
      have hk : k = k0 := by omega
      subst hk
      have hb : k * a < 2 ^ 31 := by
        have := Nat.mul_le_mul (show k ≤ 997 by omega) (show a ≤ 997 by omega)
        omega
      refine u_X13_inverseOf_1 ?_; unfold qm_X13_inverseOf_1
      rw [pk_mul, pk_rem hb (by omega) (by omega), hk3]
      exact w_nzI (fun e => by have := (nI_eq (a := p) (b := 0) (by omega) (by omega)).mp e; omega) (w_ifT rfl (w_some ⟨rfl, k, hk2, rfl, hk3⟩))
    | succ d ih =>
      intro k hk
      have hb : k * a < 2 ^ 31 := by
        have := Nat.mul_le_mul (show k ≤ 997 by omega) (show a ≤ 997 by omega)
        omega
      have hm : k * a % p < p := Nat.mod_lt _ (by omega)
      refine u_X13_inverseOf_1 ?_; unfold qm_X13_inverseOf_1
      rw [pk_mul, pk_rem hb (by omega) (by omega), nI_1]
      exact w_nzI (fun e => by have := (nI_eq (a := p) (b := 0) (by omega) (by omega)).mp e; omega) (w_if (fun h9 => w_some ⟨rfl, k, by omega, rfl, (nI_eq (a := k * a % p) (b := 1) (by omega) (by omega)).mp h9⟩) (fun _ => ih (k + 1) (by omega)))
  refine e_X13_inverseOf ?_
  refine u_X13_inverseOf_0 ?_; unfold qm_X13_inverseOf_0
  exact key (k0 - 1) 1 (by omega)
theorem md_dv {p a : Nat} (x : Int) (h : (p : Int) ∣ (a : Int) - x) : (p : Int) ∣ ((a % p : Nat) : Int) - x := by
  have h1 : (p : Int) ∣ ((a % p : Nat) : Int) - (a : Int) := dv_md (Nat.mod_mod _ _)
  have := Int.dvd_add h1 h
  rw [show ((a % p : Nat) : Int) - (a : Int) + ((a : Int) - x) = ((a % p : Nat) : Int) - x by omega] at this
  exact this
theorem z_dv {p a : Nat} {x : Int} (h : (p : Int) ∣ (a : Int) - x) (ha : a % p = 0) : (p : Int) ∣ x := by
  have := md_dv x h
  rw [ha] at this
  have := Int.dvd_neg.mpr this
  rw [show -(((0 : Nat) : Int) - x) = x by omega] at this
  exact this
theorem re_reduced {size p b n N0 : Nat} {cl0 vv0 : Nat → Nat} {d9 M9 : Nat → vc9} (hp : prT p) (hp9 : p ≤ 997) (hs : size ≤ 1140) (hb : b ≤ 20000) (hpb : p ≤ b) (hI : plI z size) (h93 : z.1 93 = nI N0) (hN0 : N0 < 2 ^ 31) (hx : px9 z p size N0 cl0 vv0 d9) (hE : El9 p size M9 n d9) (hw : wkR z p size b (M9 n)) : Te (fun K => qe_X13_reduced K (nI size) (nI p) z) (fun r => plI r.2 size ∧ fr rdH z r.2 ∧ ∃ N1 cl vv d' ρ, r.2.1 93 = nI N1 ∧ N1 < 2 ^ 31 ∧ px9 r.2 p size N1 cl vv d' ∧ El9 p size M9 (n + 1) d' ∧ r.1 = nI ρ ∧ ρ ≤ 1 ∧ rk9 p size (rwl9 M9 (n + 1)) = rk9 p size (rwl9 M9 n) + ρ) := by
  have hp2 := hp.1
  have hpr := prp_of hp
  have htri := tri_le hs
  have hpz : nI p ≠ 0 := fun e => by have := (nI_eq (a := p) (b := 0) (by omega) (by omega)).mp e; omega
  let Q : Int32 × ow_MS → Prop := fun r => plI r.2 size ∧ fr rdH z r.2 ∧ ∃ N1 cl vv d' ρ, r.2.1 93 = nI N1 ∧ N1 < 2 ^ 31 ∧ px9 r.2 p size N1 cl vv d' ∧ El9 p size M9 (n + 1) d' ∧ r.1 = nI ρ ∧ ρ ≤ 1 ∧ rk9 p size (rwl9 M9 (n + 1)) = rk9 p size (rwl9 M9 n) + ρ
  have wB : ∀ {y : ow_MS} {cur : vc9}, wkR y p size b cur → wkB y size b := fun h i hi => by
    obtain ⟨a, a1, a2, -⟩ := h i hi
    exact ⟨a, a2, a1⟩
  have c1 : ∀ (d k : Nat) (y : ow_MS) (cur : vc9), k + d = size → plI y size → y.1 93 = nI N0 → px9 y p size N0 cl0 vv0 d9 → wkR y p size b cur → (∀ j, j < k → (p : Int) ∣ cur j) → sp9 p size (rwl9 d9 size) (fun j => M9 n j - cur j) → fr rdH z y → Tt (fun K i => q_X13_reduced K i 1 (nI size) (nI p) (nI k) 0 0 0 0 y) Q := by
    intro d
    induction d with
    | zero =>
      intro k y cur hk hI h93 hx hw hz0 hsp hf
      refine u_X13_reduced_1 ?_; unfold qm_X13_reduced_1
      refine w_leT (by omega) (by omega) (w_okZ (Or.inl rfl) (w_some ⟨hI, hf, N0, cl0, vv0, d9, 0, h93, hN0, hx, ?_⟩))
      have hin : sp9 p size (rwl9 d9 size) (M9 n) := sp_q (fun j hj => by
        rw [show M9 n j - (M9 n j - cur j) = cur j by omega]
        exact hz0 j (by omega)) hsp
      obtain ⟨e1, e2⟩ := El_n hE hin
      exact ⟨e1, rfl, by omega, e2⟩
    | succ d ih =>
      intro k y cur hk hI h93 hx hw hz0 hsp hf
      have hks : k < size := by omega
      obtain ⟨w, ew, hwb, hwd⟩ := hw k hks
      have hrm : w % p < p := Nat.mod_lt _ (by omega)
      have hf2 : fr rdH z (usI y 89 k (nI (w % p))) := fr_I2 hf (by unfold rdH; omega)
      have hI2 : plI (usI y 89 k (nI (w % p))) size := plI_89 (fr_I rfl) hI
      have hx2 : px9 (usI y 89 k (nI (w % p))) p size N0 cl0 vv0 d9 := px_fr (fr_I (P := fun g => g = 89) rfl) (by omega) hx
      have hw2 : wkR (usI y 89 k (nI (w % p))) p size b cur := fun i hi => by
        by_cases hik : i = k
        · rw [hik]
          exact ⟨w % p, po_usI_at, by omega, md_dv _ hwd⟩
        · obtain ⟨w3, e3, h3, d3⟩ := hw i hi
          exact ⟨w3, rd_ne hik e3, h3, d3⟩
      have c5 : ∀ (x4 : Int32) (y : ow_MS) (cur : vc9), plI y size → y.1 93 = nI N0 → px9 y p size N0 cl0 vv0 d9 → wkR y p size b cur → (∀ j, j < k + 1 → (p : Int) ∣ cur j) → sp9 p size (rwl9 d9 size) (fun j => M9 n j - cur j) → fr rdH z y → Tt (fun K i => q_X13_reduced K i 5 (nI size) (nI p) (nI k) x4 0 0 0 y) Q := by
        intro x4 y cur a1 a2 a3 a4 a5 a6 a7
        refine u_X13_reduced_5 ?_; unfold qm_X13_reduced_5
        rw [nI_1]
        exact ih (k + 1) y cur (by omega) a1 a2 a3 a4 a5 a6 a7
      have hI2' := hI2
      obtain ⟨N, n1, n2, n3, n4⟩ := hI2
      have eN : N = N0 := (nI_eq (a := N) (b := N0) (by omega) hN0).mp (n1.symm.trans h93)
      subst eN
      have hN : N ≤ 650370 := by omega
      refine u_X13_reduced_1 ?_; unfold qm_X13_reduced_1
      refine w_leF (by omega) (by omega) (w_rdI ml89 rfl (by omega) ew (w_nzI hpz ?_))
      rw [pk_rem (by omega) (by omega) (by omega)]
      refine w_wrI ml89 rfl (by omega) (w_eqN (b := 0) (by omega) (by omega) (fun h0 => c5 _ _ cur hI2' n1 hx2 hw2 (fun j hj => ?_) hsp hf2) (fun h0 => ?_))
      · by_cases e : j = k
        · rw [e]
          exact z_dv hwd h0
        · exact hz0 j (by omega)
      have cnk : ¬ (p : Int) ∣ cur k := fun h9 => h0 (by
        have := Int.dvd_add hwd h9
        rw [show (w : Int) - cur k + cur k = w by omega] at this
        exact Nat.mod_eq_zero_of_dvd (Int.natCast_dvd_natCast.mp this))
      rcases hx2.2 k hks with ⟨hm1, hzr⟩ | ⟨b1, e1, g1, g2, g3, g4, g5, g6⟩
      · -- a new row
        refine w_rdI ml90 rfl (by omega) hm1 (w_ifT rfl (w_cs1 (re_inv hp hp9 (a := w % p) (by omega) hrm) (fun a y9 ⟨e9, iv, hiv, eiv, hinv⟩ => ?_)))
        have e9 : y9 = usI y 89 k (nI (w % p)) := e9
        have eiv2 : a = nI iv := eiv
        subst e9
        rw [eiv2]
        have hu := unk_set (size := size) (v := N) (by omega) hm1 size (by omega)
        have tt : (p : Int) ∣ (iv : Int) * ((w % p : Nat) : Int) - 1 := by
          have := dv_md (p := p) (x := iv * (w % p)) (y := 1) (by rw [hinv, Nat.mod_eq_of_lt (by omega)])
          rw [Int.natCast_mul] at this
          exact this
        have ivk : (p : Int) ∣ (iv : Int) * cur k - 1 := by
          have h1 := Int.dvd_neg.mpr (dvr9 (iv : Int) (md_dv _ hwd))
          have := Int.dvd_add tt h1
          rw [show (iv : Int) * ((w % p : Nat) : Int) - 1 + -((iv : Int) * (((w % p : Nat) : Int) - cur k)) = (iv : Int) * cur k - 1 by rw [Int.mul_sub]; omega] at this
          exact this
        have El := El_y (u := fun j => (iv : Int) * cur j) hpr hE hks hzr hsp hz0 cnk tt zq_r
        refine w_rdF n1 (w_wrI ml90 rfl (by omega) ?_)
        have c2 : ∀ (d2 i M : Nat) (cl vv : Nat → Nat) (y : ow_MS), i + d2 = size → k ≤ i → N ≤ M → M + k ≤ N + i → fr rdH z y → y.1 93 = nI M → wkR y p size b cur → (∀ j, j < size → j ≠ k → (y.2.1 90 j = -1 ∧ ∀ i, i < size → (p : Int) ∣ d9 j i) ∨ ∃ b e, y.2.1 90 j = nI b ∧ y.2.1 91 j = nI e ∧ b ≤ e ∧ e ≤ N ∧ (∀ i, i < size → (p : Int) ∣ rs9 cl0 vv0 b (e - b) i - d9 j i) ∧ (p : Int) ∣ d9 j j - 1) → y.2.1 90 k = nI N → (∀ i, i < M → y.2.1 92 i = nI (1024 * cl i + vv i) ∧ cl i < size ∧ vv i < p) → (∀ i, i < N → cl i = cl0 i ∧ vv i = vv0 i) → (∀ j, j < size → (p : Int) ∣ rs9 cl vv N (M - N) j - (if k ≤ j ∧ j < i then (iv : Int) * cur j else 0)) → M + unkF y size size + (size - k) ≤ triF size size + (M - N) → Tt (fun K t => q_X13_reduced K t 2 (nI size) (nI p) (nI k) (nI (w % p)) (nI iv) (nI i) 0 y) Q := by
          intro d2
          induction d2 with
          | zero =>
            intro i M cl vv y hi hki hNM hM hf h93 hw hrow hk9 hpool hold hrs hun
            refine u_X13_reduced_2 ?_; unfold qm_X13_reduced_2
            refine w_leT (by omega) (by omega) (w_rdF h93 (w_wrI ml91 rfl (by omega) (w_okZ (Or.inr rfl) (w_some ⟨⟨M, h93, ?_, fun j hj => ?_, fun i hi => ?_⟩, fr_I2 hf (by unfold rdH; omega), M, cl, vv, (fun j => if j = k then (fun j => (iv : Int) * cur j) else d9 j), 1, h93, by omega, ⟨fun i hi => ?_, fun j hj => ?_⟩, El.1, rfl, Nat.le_refl 1, El.2⟩))))
            · rw [unk_eq (y := y) size (fun i _ => by rw [po_usI_ot (by omega)])]
              omega
            · by_cases hjk : j = k
              · rw [hjk]
                exact Or.inr ⟨N, M, by rw [po_usI_ot (by omega)]; exact hk9, po_usI_at, hNM, Nat.le_refl _⟩
              · rcases hrow j hj hjk with h9 | ⟨b1, e1, g1, g2, g3, g4, -⟩
                · exact Or.inl (rd_ot (by omega) h9.1)
                · exact Or.inr ⟨b1, e1, rd_ot (by omega) g1, rd_ne hjk g2, g3, by omega⟩
            · obtain ⟨g1, g2, g3⟩ := hpool i hi
              exact ⟨cl i, vv i, g2, by omega, rd_ot (by omega) g1⟩
            · obtain ⟨g1, g2, g3⟩ := hpool i hi
              exact ⟨rd_ot (by omega) g1, g2, g3⟩
            · dsimp only
              by_cases hjk : j = k
              · rw [if_pos hjk, hjk]
                refine Or.inr ⟨N, M, rd_ot (by omega) hk9, po_usI_at, hNM, Nat.le_refl _, fun t ht => ?_, ivk⟩
                have := hrs t ht
                by_cases q : k ≤ t ∧ t < i
                · rw [if_pos q] at this
                  exact this
                · rw [if_neg q, Int.sub_zero] at this
                  exact Int.dvd_sub this (dvr9 (iv : Int) (hz0 t (by omega)))
              · rw [if_neg hjk]
                rcases hrow j hj hjk with h9 | ⟨b1, e1, g1, g2, g3, g4, g5, g6⟩
                · exact Or.inl ⟨rd_ot (by omega) h9.1, h9.2⟩
                · refine Or.inr ⟨b1, e1, rd_ot (by omega) g1, rd_ne hjk g2, g3, by omega, fun t ht => ?_, g6⟩
                  rw [rs_cg (fun i hi => hold i (by omega))]
                  exact g5 t ht
          | succ d2 ih2 =>
            intro i M cl vv y hi hki hNM hM hf h93 hw hrow hk9 hpool hold hrs hun
            obtain ⟨w4, ew4, hw4, hd4⟩ := hw i (by omega)
            have hr4 : w4 % p < p := Nat.mod_lt _ (by omega)
            have hmul : w4 % p * iv < 2 ^ 31 := by
              have := Nat.mul_le_mul (show w4 % p ≤ 997 by omega) (show iv ≤ 997 by omega)
              omega
            have hro : w4 % p * iv % p < p := Nat.mod_lt _ (by omega)
            have hval : (p : Int) ∣ ((w4 % p * iv % p : Nat) : Int) - (iv : Int) * cur i := by
              have h1 := dvr9 (iv : Int) (md_dv _ hd4)
              refine md_dv _ ?_
              rw [Int.natCast_mul, Int.mul_comm ((w4 % p : Nat) : Int), ← Int.mul_sub]
              exact h1
            have ni := hrs i (by omega)
            rw [if_neg (by omega), Int.sub_zero] at ni
            refine u_X13_reduced_2 ?_; unfold qm_X13_reduced_2
            refine w_leF (by omega) (by omega) (w_rdI ml89 rfl (by omega) ew4 (w_nzI hpz (w_nzI hpz ?_)))
            rw [pk_rem (by omega) (by omega) (by omega), pk_mul, pk_rem hmul (by omega) (by omega)]
            refine w_eqN (b := 0) (by omega) (by omega) (fun hz9 => ?_) (fun hz9 => w_rdF h93 ?_)
            · refine u_X13_reduced_3 ?_; unfold qm_X13_reduced_3
              rw [nI_1]
              refine ih2 (i + 1) M cl vv y (by omega) (by omega) hNM (by omega) hf h93 hw hrow hk9 hpool hold (fun j hj => ?_) hun
              by_cases q : j = i
              · rw [q, if_pos ⟨hki, by omega⟩]
                rw [hz9] at hval
                have := Int.dvd_add ni hval
                rw [show rs9 cl vv N (M - N) i + (((0 : Nat) : Int) - (iv : Int) * cur i) = rs9 cl vv N (M - N) i - (iv : Int) * cur i by omega] at this
                exact this
              · have := hrs j hj
                by_cases q2 : k ≤ j ∧ j < i
                · rw [if_pos q2] at this
                  rw [if_pos ⟨q2.1, by omega⟩]
                  exact this
                · rw [if_neg q2] at this
                  rw [if_neg (fun h9 => q2 ⟨h9.1, by omega⟩)]
                  exact this
            · rw [show (1024 : Int32) * nI i = nI (1024 * i) from pk_mul 1024 i, nI_add]
              refine w_wrI ml92 rfl (by omega) (w_rdF (x := nI M) h93 (w_wrF ?_))
              refine u_X13_reduced_3 ?_; unfold qm_X13_reduced_3
              rw [nI_1]
              refine ih2 (i + 1) (M + 1) (fun t => if t = M then i else cl t) (fun t => if t = M then w4 % p * iv % p else vv t) _ (by omega) (by omega) (by omega) (by omega) (fr_F2 (fr_I2 hf (by unfold rdH; omega)) (by unfold rdH; omega)) (po_usF_at.trans (nI_1 M)) (fun i hi => ?_) (fun j hj hjk => ?_) ?_ (fun t ht => ?_) (fun t ht => ?_) (fun j hj => ?_) ?_
              · obtain ⟨w5, e5, h5, d5⟩ := hw i hi
                exact ⟨w5, rd_ot (by omega) e5, h5, d5⟩
              · show ((usI y 92 M _).2.1 90 j = -1 ∧ _) ∨ ∃ b e, (usI y 92 M _).2.1 90 j = nI b ∧ (usI y 92 M _).2.1 91 j = nI e ∧ _
                rw [po_usI_ot (by omega), po_usI_ot (by omega)]
                exact hrow j hj hjk
              · show (usI y 92 M _).2.1 90 k = nI N
                rw [po_usI_ot (by omega)]
                exact hk9
              · show (usI y 92 M _).2.1 92 t = nI (1024 * (if t = M then i else cl t) + (if t = M then w4 % p * iv % p else vv t)) ∧ _ ∧ _
                by_cases htM : t = M
                · rw [if_pos htM, if_pos htM, htM]
                  exact ⟨po_usI_at, by omega, hro⟩
                · rw [if_neg htM, if_neg htM]
                  obtain ⟨g1, g2, g3⟩ := hpool t (by omega)
                  exact ⟨rd_ne htM g1, g2, g3⟩
              · rw [if_neg (by omega), if_neg (by omega)]
                exact hold t ht
              · have e9 : M + 1 - N = (M - N) + 1 := by omega
                rw [e9, rs_s, rs_cg (cl := cl) (vv := vv) (fun i hi => ⟨if_neg (by omega), if_neg (by omega)⟩)]
                show (p : Int) ∣ rs9 cl vv N (M - N) j + (if (if N + (M - N) = M then i else cl (N + (M - N))) = j then ((if N + (M - N) = M then w4 % p * iv % p else vv (N + (M - N)) : Nat) : Int) else 0) - _
                rw [if_pos (show N + (M - N) = M by omega), if_pos (show N + (M - N) = M by omega)]
                have hj9 := hrs j hj
                by_cases q : i = j
                · subst q
                  rw [if_pos rfl, if_pos ⟨hki, by omega⟩]
                  have := Int.dvd_add ni hval
                  rw [show rs9 cl vv N (M - N) i + (((w4 % p * iv % p : Nat) : Int) - (iv : Int) * cur i) = rs9 cl vv N (M - N) i + ((w4 % p * iv % p : Nat) : Int) - (iv : Int) * cur i by omega] at this
                  exact this
                · rw [if_neg q, Int.add_zero]
                  by_cases q2 : k ≤ j ∧ j < i
                  · rw [if_pos q2] at hj9
                    rw [if_pos ⟨q2.1, by omega⟩]
                    exact hj9
                  · rw [if_neg q2] at hj9
                    rw [if_neg (fun h9 => q2 ⟨h9.1, by omega⟩)]
                    exact hj9
              · rw [unk_eq (y := y) size (fun i _ => by show (usI y 92 M _).2.1 90 i = _; rw [po_usI_ot (by omega)])]
                omega
        refine c2 (size - k) k N cl0 vv0 _ (by omega) (Nat.le_refl _) (Nat.le_refl _) (by omega) (fr_I2 hf2 (by unfold rdH; omega)) n1 (fun i hi => ?_) (fun j hj hjk => ?_) po_usI_at (fun t ht => ?_) (fun i hi => ⟨rfl, rfl⟩) (fun j hj => ?_) (by omega)
        · obtain ⟨w5, e5, h5, d5⟩ := hw2 i hi
          exact ⟨w5, rd_ot (by omega) e5, h5, d5⟩
        · rw [po_usI_ne hjk, po_usI_ot (g := 91) (h := 90) (by omega)]
          exact hx2.2 j hj
        · rw [po_usI_ot (g := 92) (h := 90) (by omega)]
          exact hx2.1 t ht
        · rw [if_neg (by omega), Nat.sub_self]
          exact Int.dvd_zero _
      · -- a kept row is taken off
        have b31 : b1 < 2 ^ 31 := by omega
        refine w_rdI ml90 rfl (by omega) g1 (w_ifF (rn_neg1 b31) (w_rdI ml90 rfl (by omega) g1 ?_))
        have ech := hE.1 k hks
        have c4 : ∀ (d2 i : Nat) (y : ow_MS), i + d2 = e1 → b1 ≤ i → plI y size → y.1 93 = nI N → px9 y p size N cl0 vv0 d9 → y.2.1 91 k = nI e1 → wkR y p size b (fun j => cur j - ((w % p : Nat) : Int) * rs9 cl0 vv0 b1 (i - b1) j) → fr rdH z y → Tt (fun K t => q_X13_reduced K t 4 (nI size) (nI p) (nI k) (nI (w % p)) (nI i) 0 0 y) Q := by
          intro d2
          induction d2 with
          | zero =>
            intro i y hi hib hI h93 hx h91 hw hf
            have ei : i = e1 := by omega
            rw [ei] at hw
            refine u_X13_reduced_4 ?_; unfold qm_X13_reduced_4
            refine w_rdI ml91 rfl (by omega) h91 (w_leT (by omega) (by omega) (c5 _ y (fun j => cur j - ((w % p : Nat) : Int) * d9 k j) hI h93 hx (wkR_cg hw (Nat.le_refl _) (fun j hj => ?_)) (fun j hj => ?_) ?_ hf))
            · have := Int.dvd_neg.mpr (dvr9 ((w % p : Nat) : Int) (g5 j hj))
              rw [show -(((w % p : Nat) : Int) * (rs9 cl0 vv0 b1 (e1 - b1) j - d9 k j)) = cur j - ((w % p : Nat) : Int) * rs9 cl0 vv0 b1 (e1 - b1) j - (cur j - ((w % p : Nat) : Int) * d9 k j) by rw [Int.mul_sub]; omega] at this
              exact this
            · by_cases q : j = k
              · rw [q]
                have := Int.dvd_neg.mpr (Int.dvd_add (md_dv _ hwd) (dvr9 ((w % p : Nat) : Int) g6))
                rw [show -(((w % p : Nat) : Int) - cur k + ((w % p : Nat) : Int) * (d9 k k - 1)) = cur k - ((w % p : Nat) : Int) * d9 k k by rw [Int.mul_sub, Int.mul_one]; omega] at this
                exact this
              · exact Int.dvd_sub (hz0 j (by omega)) (dvr9 _ (ech.1 j (by omega)))
            · refine sp_q (fun j _ => ?_) (sp_a hsp (sp_m ((w % p : Nat) : Int) (sp_in (rwl_in hks))))
              rw [show M9 n j - (cur j - ((w % p : Nat) : Int) * d9 k j) - (M9 n j - cur j + ((w % p : Nat) : Int) * d9 k j) = 0 by omega]
              exact Int.dvd_zero _
          | succ d2 ih4 =>
            intro i y hi hib hI h93 hx h91 hw hf
            obtain ⟨o3, o1, o2⟩ := hx.1 i (by omega)
            obtain ⟨w5, e5, h5, d5⟩ := hw (cl0 i) o1
            have hmul : w5 + (p - w % p) * vv0 i < 2 ^ 31 := by
              have := Nat.mul_le_mul (show p - w % p ≤ 997 by omega) (show vv0 i ≤ 1023 by omega)
              omega
            have hro : (w5 + (p - w % p) * vv0 i) % p < p := Nat.mod_lt _ (by omega)
            refine u_X13_reduced_4 ?_; unfold qm_X13_reduced_4
            refine w_rdI ml91 rfl (by omega) h91 (w_leF (by omega) (by omega) (w_rdI ml92 rfl (by omega) o3 ?_))
            rw [shr10 (by omega), show (1024 * cl0 i + vv0 i) / 1024 = cl0 i by omega]
            refine w_rdI ml89 rfl (by omega) e5 (w_rdI ml92 rfl (by omega) o3 (w_nzI hpz ?_))
            rw [and1023 (by omega), show (1024 * cl0 i + vv0 i) % 1024 = vv0 i by omega, show nI p - nI (w % p) = nI (p - w % p) from pk_sub (by omega), pk_mul, nI_add, pk_rem hmul (by omega) (by omega), nI_1]
            refine w_wrI ml89 rfl (by omega) (ih4 (i + 1) _ (by omega) (by omega) (plI_89 (fr_I rfl) hI) h93 (px_fr (fr_I (P := fun g => g = 89) rfl) (by omega) hx) (rd_ot (by omega) h91) (fun t ht => ?_) (fr_I2 hf (by unfold rdH; omega)))
            dsimp only at d5 ⊢
            rw [show i + 1 - b1 = (i - b1) + 1 by omega, rs_s, show b1 + (i - b1) = i by omega]
            by_cases htc : t = cl0 i
            · refine ⟨(w5 + (p - w % p) * vv0 i) % p, by rw [htc, po_usI_at], by omega, ?_⟩
              rw [if_pos htc.symm, htc]
              have m2 : (p : Int) ∣ (p : Int) * (vv0 i : Int) := Int.dvd_mul_right _ _
              have e9 : ((w5 + (p - w % p) * vv0 i : Nat) : Int) = (w5 : Int) + ((p : Int) * vv0 i - ((w % p : Nat) : Int) * vv0 i) := by
                rw [Int.natCast_add, Int.natCast_mul, Int.ofNat_sub (show w % p ≤ p by omega), Int.sub_mul]
              refine md_dv _ ?_
              rw [e9]
              have := Int.dvd_add d5 m2
              rw [show (w5 : Int) - (cur (cl0 i) - ((w % p : Nat) : Int) * rs9 cl0 vv0 b1 (i - b1) (cl0 i)) + (p : Int) * vv0 i = (w5 : Int) + ((p : Int) * vv0 i - ((w % p : Nat) : Int) * vv0 i) - (cur (cl0 i) - ((w % p : Nat) : Int) * (rs9 cl0 vv0 b1 (i - b1) (cl0 i) + (vv0 i : Int))) by rw [Int.mul_add]; omega] at this
              exact this
            · obtain ⟨w6, e6, h6, d6⟩ := hw t ht
              refine ⟨w6, rd_ne htc e6, h6, ?_⟩
              rw [if_neg (fun h9 => htc h9.symm), Int.add_zero]
              exact d6
        refine c4 (e1 - b1) b1 _ (by omega) (Nat.le_refl _) hI2' n1 hx2 g2 (wkR_cg hw2 (Nat.le_refl _) (fun j hj => ?_)) hf2
        rw [Nat.sub_self, show cur j - (cur j - ((w % p : Nat) : Int) * rs9 cl0 vv0 b1 0 j) = ((w % p : Nat) : Int) * 0 by show cur j - (cur j - ((w % p : Nat) : Int) * 0) = _; omega, Int.mul_zero]
        exact Int.dvd_zero _
  refine e_X13_reduced ?_
  refine u_X13_reduced_0 ?_; unfold qm_X13_reduced_0
  refine c1 size 0 z (M9 n) (by omega) hI h93 hx hw (fun j hj => absurd hj (Nat.not_lt_zero _)) (sp_q (fun j _ => ?_) sp_0) fr_rf
  rw [show M9 n j - M9 n j - 0 = 0 by omega]
  exact Int.dvd_zero _
end XCK6
end
section
/-! 99zzzzzzzzzzzzzzzzyzs.xcih -/
-- CHAIN: the reference's rankOf, exactly
def rkX (y : ow_MS) (n : Nat) (A : rn_L) (sg : Nat → Bool) (c mi : Nat) : Prop := oNet y n A sg ∧ stX y A sg c ∧ plX y A sg c mi ∧ y.1 88 = nI mi
noncomputable def RKR (p : Int) (A : rn_L) (sg : Nat → Bool) (c : Nat) (dg : Int) (h : Nat) : Nat := RK9 p c (gG9 A) (relL9 A sg (fun x => x) c) (fun y => gV9 (y, 0)) (fun y => gV9 (prA9 A (y, 0))) (LsR A sg) (LcN A sg) dg h
section XCK7
variable {z : ow_MS}
theorem rkX_fr {n : Nat} {y y1 : ow_MS} {A : rn_L} {sg : Nat → Bool} {c mi : Nat} {P : Nat → Prop} (hn : mw_net n) (hf : fr P y y1) (hP : ∀ g, P g → g = 86 ∨ g = 87 ∨ 89 ≤ g ∧ g ≤ 93) (h : rkX y n A sg c mi) : rkX y1 n A sg c mi := by
  have hmn := net_mod hn
  have no : ∀ g, ¬ (g = 86 ∨ g = 87 ∨ 89 ≤ g ∧ g ≤ 93) → ¬ P g := fun g hg h9 => hg (hP g h9)
  refine ⟨oNet_fr hf (fun g hg => by have := hP g hg; omega) h.1, stX_fr hf (no 81 (by omega)) (no 82 (by omega)) (no 83 (by omega)) h.2.1, ⟨fun h' q hh hq => ?_, fun s m hs hm => ?_⟩, by rw [(hf 88 (no 88 (by omega))).1]; exact h.2.2.2⟩
  · rw [(hf 85 (no 85 (by omega))).2.1]
    exact h.2.2.1.1 h' q hh hq
  · rw [(hf 84 (no 84 (by omega))).2.1]
    exact h.2.2.1.2 s m hs hm
theorem re_rankOf {n P r q p mi : Nat} {A : rn_L} {sg : Nat → Bool} {T : ow_NT} (hn : mw_net n) (hK : chOK A sg T.1 P) (hC0 : rkX z n A sg T.1 mi) (hmi : mi ≤ T.1) (hN : isoN A sg (fun x => x) T) (hT : pm1 T) (hv : vn T.1 T.2.2.1) (hbd : bdA A) (hC : cu9 T.1 2000 (gG9 A) (fun y => gV9 (y, 0)) (fun y => gV9 (prA9 A (y, 0))) (fun y => gV9 (prA9 A (y, 0))) (relL9 A sg (fun x => x) T.1)) (hr : r < T.1) (hq : q < 80) (hp : prT p) (hp9 : p ≤ 997) : Te (fun K => qe_X13_rankOf K n (nI r) (nI q) (nI p) z) (fun o => fr rdH z o.2 ∧ o.1 = nI (RKR p A sg T.1 (dgq T.1 mi q) r)) := by
  have hK' := hK
  obtain ⟨hok, hc, hCl, hL9, hbs, hblk⟩ := hK
  have hV := okF_len hok
  have hp2 := hp.1
  have hLT := LT_R hN hT hv hc hbd hL9
  have h2c : 2 ^ T.1 ≤ 256 := two_mono (b := 8) hc
  have eRK : RKR p A sg T.1 (dgq T.1 mi q) r = rk9 p (sz9 T.1 (LcN A sg) (dgq T.1 mi q) (r + 1)) (rwl9 (MT9 T.1 (gG9 A) (relL9 A sg (fun x => x) T.1) (fun y => gV9 (y, 0)) (fun y => gV9 (prA9 A (y, 0))) (LsR A sg) (LcN A sg) (dgq T.1 mi q) r) (sz9 T.1 (LcN A sg) (dgq T.1 mi q) r)) := rfl
  let Q : Int32 × ow_MS → Prop := fun o => fr rdH z o.2 ∧ o.1 = nI (RKR p A sg T.1 (dgq T.1 mi q) r)
  have iF : ∀ {y : ow_MS}, fr rdH z y → rkX y n A sg T.1 mi := fun hf => rkX_fr hn hf (fun g hg => by unfold rdH at hg; omega) hC0
  have esz := hC0.2.2.1.1 (r + 1) q (by omega) hq
  have esz0 := hC0.2.2.1.1 r q (by omega) hq
  have hs0 : sz9 T.1 (LcN A sg) (dgq T.1 mi q) r ≤ 1140 := bkF_sz hL9 (hblk _)
  have hsz2 : sz9 T.1 (LcN A sg) (dgq T.1 mi q) (r + 1) ≤ 1140 := bkF_sz hL9 (hblk _)
  generalize hMM : MT9 T.1 (gG9 A) (relL9 A sg (fun x => x) T.1) (fun y => gV9 (y, 0)) (fun y => gV9 (prA9 A (y, 0))) (LsR A sg) (LcN A sg) (dgq T.1 mi q) r = MM at eRK
  generalize hsz : sz9 T.1 (LcN A sg) (dgq T.1 mi q) (r + 1) = size at esz hsz2 eRK
  refine e_X13_rankOf ?_
  refine u_X13_rankOf_0 ?_; unfold qm_X13_rankOf_0
  rw [show nI r + 1 = nI (r + 1) from nI_1 _, show (80 : Int32) * nI (r + 1) = nI (80 * (r + 1)) from pk_mul 80 _, nI_add, show (80 : Int32) * nI r = nI (80 * r) from pk_mul 80 _, nI_add]
  refine w_rdI ml85 rfl (by omega) esz (w_eqN (b := 0) (by omega) (by omega) (fun h9 => w_some ⟨fr_rf, ?_⟩) (fun _ => w_rdI ml85 rfl (by omega) esz0 (w_eqN (b := 0) (by omega) (by omega) (fun h9 => w_some ⟨fr_rf, ?_⟩) (fun _ => w_rdF hC0.1.1.V (w_nzI (by decide) ?_)))))
  · rw [eRK, h9, rk_w0]
    rfl
  · rw [eRK, h9]
    rfl
  rw [hV, half_V (by omega)]
  let ST : Nat → ow_MS → Prop := fun k y => fr rdH z y ∧ plI y size ∧ ∃ N cl vv d9, y.1 93 = nI N ∧ N < 2 ^ 31 ∧ px9 y p size N cl vv d9 ∧ El9 p size MM k d9
  have c2 : ∀ (d s : Nat) (y : ow_MS), s + d = 2 ^ T.1 → ST (smH (bkF (LcN A sg) (dgq T.1 mi q)) r 0 s) y → Tt (fun K i => q_X13_rankOf K i 2 (nI r) (nI q) (nI p) (nI size) (nI T.1) (nI (rk9 p size (rwl9 MM (smH (bkF (LcN A sg) (dgq T.1 mi q)) r 0 s)))) (nI s) 0 0 n 0 0 y) Q := by
    intro d
    induction d with
    | zero =>
      intro s y hs hst
      refine u_X13_rankOf_2 ?_; unfold qm_X13_rankOf_2
      rw [shl1 (by omega)]
      refine w_leT (by omega) (by omega) (w_some ⟨hst.1, ?_⟩)
      rw [eRK, show s = 2 ^ T.1 by omega]
      rfl
    | succ d ih =>
      intro s y hs hst
      have hsl : s < 2 ^ T.1 := by omega
      have hL := hL9 s hsl
      have h2L : 2 ^ LcN A sg s ≤ 512 := two_mono (b := 9) hL
      have hps := pc_le hsl
      have c9 : ∀ (k : Nat) (x9 : Int32) (y : ow_MS), k = smH (bkF (LcN A sg) (dgq T.1 mi q)) r 0 (s + 1) → ST k y → Tt (fun K i => q_X13_rankOf K i 9 (nI r) (nI q) (nI p) (nI size) (nI T.1) (nI (rk9 p size (rwl9 MM k))) (nI s) x9 0 n 0 0 y) Q := by
        intro k x9 y hk hst
        refine u_X13_rankOf_9 ?_; unfold qm_X13_rankOf_9
        rw [nI_1]
        rw [hk] at hst ⊢
        exact ih (s + 1) y (by omega) hst
      have c3 : pc s = r → ∀ (d2 m : Nat) (y : ow_MS), m + d2 = 2 ^ LcN A sg s → ST (smH (bkF (LcN A sg) (dgq T.1 mi q)) r 0 s + cq9 (LcN A sg) (dgq T.1 mi q) s m) y → Tt (fun K i => q_X13_rankOf K i 3 (nI r) (nI q) (nI p) (nI size) (nI T.1) (nI (rk9 p size (rwl9 MM (smH (bkF (LcN A sg) (dgq T.1 mi q)) r 0 s + cq9 (LcN A sg) (dgq T.1 mi q) s m)))) (nI s) (nI m) 0 n 0 0 y) Q := by
        intro hpo d2
        induction d2 with
        | zero =>
          intro m y hm hst
          refine u_X13_rankOf_3 ?_; unfold qm_X13_rankOf_3
          rw [bc_pc (by omega)]
          refine w_ifT (by rw [hpo]) (w_rdI ml82 rfl (by omega) ((iF hst.1).2.1.1 s hsl) ?_)
          rw [shl1 (by omega)]
          refine w_leT (by omega) (by omega) (c9 _ _ y ?_ hst)
          rw [smH_s, if_pos hpo, show m = 2 ^ LcN A sg s by omega, cq9_all (by omega)]
        | succ d2 ih3 =>
          intro m y hm hst
          have hst0 := hst
          obtain ⟨hf, hI, N, cl, vv, d9, h93, hN31, hx, hE⟩ := hst
          have hml : m < 2 ^ LcN A sg s := by omega
          have hCy := iF hf
          obtain ⟨tq, hq80⟩ := tp_qOf hK' (stX_I hCy.2.1) hCy.2.2.2 hmi hsl hml
          have c8 : ∀ (k : Nat) (y : ow_MS), k = smH (bkF (LcN A sg) (dgq T.1 mi q)) r 0 s + cq9 (LcN A sg) (dgq T.1 mi q) s (m + 1) → ST k y → Tt (fun K i => q_X13_rankOf K i 8 (nI r) (nI q) (nI p) (nI size) (nI T.1) (nI (rk9 p size (rwl9 MM k))) (nI s) (nI m) 0 n 0 0 y) Q := by
            intro k y hk hst
            refine u_X13_rankOf_8 ?_; unfold qm_X13_rankOf_8
            rw [show nI m + 1 = nI (m + 1) from nI_1 _]
            rw [hk] at hst ⊢
            exact ih3 (m + 1) y (by omega) hst
          refine u_X13_rankOf_3 ?_; unfold qm_X13_rankOf_3
          rw [bc_pc (by omega)]
          refine w_ifT (by rw [hpo]) (w_rdI ml82 rfl (by omega) (hCy.2.1.1 s hsl) ?_)
          rw [shl1 (by omega)]
          refine w_leF (by omega) (by omega) (w_rdF hCy.2.2.2 (w_cs1 tq (fun a y1 e1 => ?_)))
          cases e1
          refine w_eqN (by omega) (by omega) (fun hqe => ?_) (fun hqe => c8 _ y ?_ hst0)
          · have hkp := (qv_kp hsl hc hmi hL hml).mp hqe
            have hva : va9 T.1 (LcN A sg) (dgq T.1 mi q) r s m := ⟨hsl, hpo, hml, hkp⟩
            have ecq : cq9 (LcN A sg) (dgq T.1 mi q) s m = cpN (pc m) m := by
              unfold cq9
              rw [hkp]
            have eix : smH (bkF (LcN A sg) (dgq T.1 mi q)) r 0 s + cq9 (LcN A sg) (dgq T.1 mi q) s m = ix9 (LcN A sg) (dgq T.1 mi q) s m := by
              rw [ecq]
              unfold ix9
              rw [hpo]
            have ecs : smH (bkF (LcN A sg) (dgq T.1 mi q)) r 0 s + cq9 (LcN A sg) (dgq T.1 mi q) s m + 1 = smH (bkF (LcN A sg) (dgq T.1 mi q)) r 0 s + cq9 (LcN A sg) (dgq T.1 mi q) s (m + 1) := by
              rw [cq9_s, if_pos hkp]
              omega
            generalize hkk : smH (bkF (LcN A sg) (dgq T.1 mi q)) r 0 s + cq9 (LcN A sg) (dgq T.1 mi q) s m = kk at hE eix ecs
            have c7 : ∀ (x10 : Int32) (ρ : Nat) (y : ow_MS), rk9 p size (rwl9 MM (kk + 1)) = rk9 p size (rwl9 MM kk) + ρ → ST (kk + 1) y → Tt (fun K i => q_X13_rankOf K i 7 (nI r) (nI q) (nI p) (nI size) (nI T.1) (nI (rk9 p size (rwl9 MM kk))) (nI s) (nI m) x10 n (nI ρ) (nI (rk9 p size (rwl9 MM kk))) y) Q := by
              intro x10 ρ y he hst
              refine u_X13_rankOf_7 ?_; unfold qm_X13_rankOf_7
              rw [nI_add, ← he]
              exact c8 _ y ecs hst
            have c5 : ∀ (d3 x : Nat) (y : ow_MS), x + d3 = T.1 → fr rdH z y → plI y size → y.1 93 = nI N → px9 y p size N cl vv d9 → wkR y p size (p + x * (2 * p)) (row9 (gG9 A) (LsR A sg) (LcN A sg) (fun y => gV9 (y, 0)) (fun y => gV9 (prA9 A (y, 0))) (dgq T.1 mi q) s m x) → Tt (fun K i => q_X13_rankOf K i 5 (nI r) (nI q) (nI p) (nI size) (nI T.1) (nI (rk9 p size (rwl9 MM kk))) (nI s) (nI m) (nI x) n 0 0 y) Q := by
              intro d3
              induction d3 with
              | zero =>
                intro x y hx9 hf hI h93 hx hw
                have hb : p + x * (2 * p) ≤ 20000 := by
                  have := Nat.mul_le_mul (show x ≤ 8 by omega) (show 2 * p ≤ 1994 by omega)
                  omega
                have hw2 : wkR y p size (p + x * (2 * p)) (MM kk) := wkR_cg hw (Nat.le_refl _) (fun j hj => by
                  rw [← hMM, eix, MT_row hC hLT (by omega) hva (by rw [hsz]; exact hj), show x = T.1 by omega, Int.sub_self]
                  exact Int.dvd_zero _)
                refine u_X13_rankOf_5 ?_; unfold qm_X13_rankOf_5
                refine w_leT (by omega) (by omega) (w_cs1 (re_reduced hp hp9 hsz2 hb (by omega) hI h93 hN31 hx hE hw2) ?_)
                rintro a y1 ⟨I1, f1, N1, cl1, vv1, d1, ρ, r1, r2, r3, r4, r5, r6, r7⟩
                dsimp only at I1 f1 r1 r3 r5
                have st : ST (kk + 1) y1 := ⟨fr_tr hf f1, I1, N1, cl1, vv1, d1, r1, r2, r3, r4⟩
                rw [r5]
                rcases (show ρ = 0 ∨ ρ = 1 by omega) with e | e
                · rw [e] at r7 ⊢
                  exact w_ifT rfl (c7 _ 0 y1 r7 st)
                · rw [e] at r7 ⊢
                  exact w_ifF (by decide) (c7 _ 1 y1 r7 st)
              | succ d3 ih5 =>
                intro x y hx9 hf hI h93 hx hw
                have hCy := iF hf
                have hw1 : p + x * (2 * p) ≤ p + (x + 1) * (2 * p) := by rw [Nat.add_mul]; omega
                have c6 : ∀ (y : ow_MS), fr rdH z y → plI y size → y.1 93 = nI N → px9 y p size N cl vv d9 → wkR y p size (p + (x + 1) * (2 * p)) (row9 (gG9 A) (LsR A sg) (LcN A sg) (fun y => gV9 (y, 0)) (fun y => gV9 (prA9 A (y, 0))) (dgq T.1 mi q) s m (x + 1)) → Tt (fun K i => q_X13_rankOf K i 6 (nI r) (nI q) (nI p) (nI size) (nI T.1) (nI (rk9 p size (rwl9 MM kk))) (nI s) (nI m) (nI x) n 0 0 y) Q := by
                  intro y a1 a2 a3 a4 a5
                  refine u_X13_rankOf_6 ?_; unfold qm_X13_rankOf_6
                  rw [show nI x + 1 = nI (x + 1) from nI_1 _]
                  exact ih5 (x + 1) y (by omega) a1 a2 a3 a4 a5
                refine u_X13_rankOf_5 ?_; unfold qm_X13_rankOf_5
                rw [bit_nI (by omega) (by omega)]
                refine w_leF (by omega) (by omega) (w_eqN (b := 0) (by unfold btN; omega) (by omega) (fun h0 => w_cs0 (re_step (q := q) (r := r) (m := m) (b := p + x * (2 * p)) (v9 := row9 (gG9 A) (LsR A sg) (LcN A sg) (fun y => gV9 (y, 0)) (fun y => gV9 (prA9 A (y, 0))) (dgq T.1 mi q) s m x) hn hK' hCy.1 hCy.2.1 hCy.2.2.1 hmi hN hT hv hbd hC hva (by omega) h0 hp2 hp9 (by rw [hsz]; exact hw)) ?_) (fun h0 => c6 y hf hI h93 hx (wkR_cg hw hw1 (fun j _ => ?_))))
                · rintro y1 ⟨w1, f1⟩
                  rw [hsz] at w1
                  have e93 : y1.1 93 = nI N := by
                    rw [(f1 93 (by omega)).1]
                    exact h93
                  refine c6 y1 (fr_tr hf (fr_mono (fun g hg => by unfold rdH; omega) f1)) (plI_89 f1 hI) e93 (px_fr f1 (by omega) hx) (wkR_cg w1 (by rw [Nat.add_mul]; omega) (fun j _ => ?_))
                  have e0 : rwX (gG9 A) (LsR A sg) (LcN A sg) (fun y => gV9 (y, 0)) (fun y => gV9 (prA9 A (y, 0))) (dgq T.1 mi q) s m x j = par9 (tb s) x * cnI (ix9 (LcN A sg) (dgq T.1 mi q) (s + 2 ^ x)) j (di9 (gG9 A) (LsR A sg) (LcN A sg) (fun y => gV9 (y, 0)) (fun y => gV9 (prA9 A (y, 0))) s m x) := by
                    unfold rwX
                    rw [if_neg (by omega)]
                  show (p : Int) ∣ _ - (row9 (gG9 A) (LsR A sg) (LcN A sg) (fun y => gV9 (y, 0)) (fun y => gV9 (prA9 A (y, 0))) (dgq T.1 mi q) s m x j + rwX (gG9 A) (LsR A sg) (LcN A sg) (fun y => gV9 (y, 0)) (fun y => gV9 (prA9 A (y, 0))) (dgq T.1 mi q) s m x j)
                  rw [e0, Int.sub_self]
                  exact Int.dvd_zero _
                · have e0 : rwX (gG9 A) (LsR A sg) (LcN A sg) (fun y => gV9 (y, 0)) (fun y => gV9 (prA9 A (y, 0))) (dgq T.1 mi q) s m x j = 0 := by
                    unfold rwX
                    exact if_pos ((bt_01 s x).resolve_left h0)
                  show (p : Int) ∣ row9 (gG9 A) (LsR A sg) (LcN A sg) (fun y => gV9 (y, 0)) (fun y => gV9 (prA9 A (y, 0))) (dgq T.1 mi q) s m x j - (row9 (gG9 A) (LsR A sg) (LcN A sg) (fun y => gV9 (y, 0)) (fun y => gV9 (prA9 A (y, 0))) (dgq T.1 mi q) s m x j + rwX (gG9 A) (LsR A sg) (LcN A sg) (fun y => gV9 (y, 0)) (fun y => gV9 (prA9 A (y, 0))) (dgq T.1 mi q) s m x j)
                  rw [e0, Int.add_zero, Int.sub_self]
                  exact Int.dvd_zero _
            have c4 : ∀ (d3 k : Nat) (y : ow_MS), k + d3 = size → fr rdH z y → plI y size → y.1 93 = nI N → px9 y p size N cl vv d9 → (∀ i, i < k → y.2.1 89 i = 0) → Tt (fun K i => q_X13_rankOf K i 4 (nI r) (nI q) (nI p) (nI size) (nI T.1) (nI (rk9 p size (rwl9 MM kk))) (nI s) (nI m) (nI k) n 0 0 y) Q := by
              intro d3
              induction d3 with
              | zero =>
                intro k y hk hf hI h93 hx h0
                refine u_X13_rankOf_4 ?_; unfold qm_X13_rankOf_4
                exact w_leT (by omega) (by omega) (c5 T.1 0 y (by omega) hf hI h93 hx (fun i hi => ⟨0, h0 i (by omega), Nat.zero_le _, Int.dvd_zero _⟩))
              | succ d3 ih4 =>
                intro k y hk hf hI h93 hx h0
                refine u_X13_rankOf_4 ?_; unfold qm_X13_rankOf_4
                rw [show nI k + 1 = nI (k + 1) from nI_1 _]
                refine w_leF (by omega) (by omega) (w_wrI ml89 rfl (by omega) (ih4 (k + 1) _ (by omega) (fr_I2 hf (by unfold rdH; omega)) (plI_89 (fr_I rfl) hI) h93 (px_fr (fr_I (P := fun g => g = 89) rfl) (by omega) hx) (fun i hi => ?_)))
                by_cases hik : i = k
                · rw [hik, po_usI_at]
                · exact rd_ne hik (h0 i (by omega))
            exact c4 size 0 y (by omega) hf hI h93 hx (fun i hi => absurd hi (by omega))
          · rw [cq9_s, if_neg (fun h9 => hqe ((qv_kp hsl hc hmi hL hml).mpr h9)), Nat.add_zero]
      refine u_X13_rankOf_2 ?_; unfold qm_X13_rankOf_2
      rw [shl1 (by omega)]
      refine w_leF (by omega) (by omega) ?_
      by_cases hpo : pc s = r
      · have := c3 hpo (2 ^ LcN A sg s) 0 y (by omega) (by rw [cq9_0, Nat.add_zero]; exact hst)
        rw [cq9_0, Nat.add_zero] at this
        exact this
      · refine u_X13_rankOf_3 ?_; unfold qm_X13_rankOf_3
        rw [bc_pc (by omega)]
        refine w_ifF (fun h9 => hpo ((nI_eq (by omega) (by omega)).mp h9)) (c9 _ _ y ?_ hst)
        rw [smH_s, if_neg hpo, Nat.add_zero]
  have c1 : ∀ (d k : Nat) (y : ow_MS), k + d = size → fr rdH z y → (∀ i, i < k → y.2.1 90 i = -1) → Tt (fun K i => q_X13_rankOf K i 1 (nI r) (nI q) (nI p) (nI size) (nI T.1) (nI k) 0 0 0 n 0 0 y) Q := by
    intro d
    induction d with
    | zero =>
      intro k y hk hf h9
      have hk : k = size := by omega
      subst hk
      refine u_X13_rankOf_1 ?_; unfold qm_X13_rankOf_1
      refine w_leT (by omega) (by omega) (w_wrF (c2 (2 ^ T.1) 0 _ (by omega) ⟨fr_F2 hf (by unfold rdH; omega), ⟨0, po_usF_at, ?_, fun i hi => Or.inl (h9 i hi), fun i hi => absurd hi (by omega)⟩, 0, fun _ => 0, fun _ => 0, fun _ _ => 0, po_usF_at, by omega, ⟨fun i hi => absurd hi (Nat.not_lt_zero _), fun i hi => Or.inl ⟨h9 i hi, fun j _ => Int.dvd_zero _⟩⟩, El_0⟩))
      rw [unk_all (y := usF y 93 0) k h9]
      omega
    | succ d ih =>
      intro k y hk hf h9
      refine u_X13_rankOf_1 ?_; unfold qm_X13_rankOf_1
      rw [nI_1]
      refine w_leF (by omega) (by omega) (w_wrI ml90 rfl (by omega) (ih (k + 1) _ (by omega) (fr_I2 hf (by unfold rdH; omega)) (fun i hi => ?_)))
      by_cases hik : i = k
      · rw [hik, po_usI_at]
      · exact rd_ne hik (h9 i (by omega))
  exact c1 size 0 z (by omega) fr_rf (fun i hi => absurd hi (by omega))
end XCK7
end
section
/-! 99zzzzzzzzzzzzzzzzyzt.xcii -/
/-! chain: the reference exactly -/
noncomputable def rtR (p : Int) (A : rn_L) (sg : Nat → Bool) (c mi r q : Nat) : Int := (sz9 c (LcN A sg) (dgq c mi q) r : Int) - (if r < c then (RKR p A sg c (dgq c mi q) r : Int) else 0) - (if r = 0 then 0 else (RKR p A sg c (dgq c mi q) (r - 1) : Int))
/-- the reference's table -/
def rfN (p : Nat) (A : rn_L) (sg : Nat → Bool) (c : Nat) (z : ow_MS) (ans : Int32) : Prop := c ≤ 8 ∧ ng9 A sg ≤ c ∧ (∀ s, s < 2 ^ c → LcN A sg s ≤ 9) ∧ z.1 88 = nI (ng9 A sg) ∧ (∀ r q, r < 10 → q < 80 → z.2.1 87 (80 * r + q) = iI (if r ≤ c then rtR p A sg c (ng9 A sg) r q else 0)) ∧ ans = iI (sN9 (fun q => sN9 (fun r => rtR p A sg c (ng9 A sg) r q) (c + 1)) 80)
/-- the tables stay -/
def tkR (z z1 : ow_MS) : Prop := z1.1 88 = z.1 88 ∧ z1.2.1 87 = z.2.1 87
theorem tkR_fr {P : Nat → Prop} {z z1 : ow_MS} (hf : fr P z z1) (h1 : ¬ P 87) (h2 : ¬ P 88) : tkR z z1 := ⟨(hf 88 h2).1, (hf 87 h1).2.1⟩
theorem tkR_tr {z z1 z2 : ow_MS} (h : tkR z z1) (h1 : tkR z1 z2) : tkR z z2 := ⟨h1.1.trans h.1, h1.2.trans h.2⟩
/-- what chain wants of a diagram -/
def prC (A : rn_L) (sg : Nat → Bool) : Prop := ∃ T w, isoN A sg (fun x => x) T ∧ vn T.1 T.2.2.1 ∧ pm1 T ∧ gaA A w ∧ bdA A
section XCK8
theorem wr_take {A : rn_L} {sg : Nat → Bool} : ∀ n, n ≤ A.flatten.length → wrN A sg n = (((A.flatten.take n).filter (fun p => decide (p.2 = 0) && true)).length : Int) - 2 * (((A.flatten.take n).filter (fun p => decide (p.2 = 0) && sg p.1)).length : Int) := by
  intro n
  induction n with
  | zero => exact fun _ => rfl
  | succ n ih =>
    intro h
    have i := ih (by omega)
    have e := vAt_of (A := A) (v := n) (by omega)
    rw [List.take_add_one, e]
    show wrN A sg n + (if uns A n = 0 then (if sg (crs A n) then -1 else 1) else 0) = _
    rw [i]
    simp only [Option.toList_some, List.filter_append, List.length_append]
    unfold uns crs
    generalize vAt A n = v
    obtain ⟨x, u⟩ := v
    dsimp only
    by_cases hu : u = 0
    · subst hu
      cases hs : sg x <;> simp [hs] <;> omega
    · simp [hu]
theorem on_true : ∀ c, ons9 (fun _ => true) c = c := by
  intro c
  induction c with
  | zero => rfl
  | succ c ih =>
    show ons9 (fun _ => true) c + (if true = true then 1 else 0) = c + 1
    rw [ih, if_pos rfl]
theorem on_le {s : Nat → Bool} : ∀ c, ons9 s c ≤ c := by
  intro c
  induction c with
  | zero => exact Nat.le_refl 0
  | succ c ih =>
    show ons9 s c + (if s c = true then 1 else 0) ≤ c + 1
    split <;> omega
theorem wr_ng {A : rn_L} {sg : Nat → Bool} {nm : Nat → Nat} {c : Nat} (hb : bdA A) (hO : nmO A nm c) : wrN A sg A.flatten.length = (c : Int) - 2 * ng9 A sg ∧ ng9 A sg ≤ c := by
  have h2 : ∀ p, p ∈ A.flatten → p.2 < 2 := fun p hp => (hb.2.1 p hp).2
  have e1 : ng9 A (fun _ => true) = c := by
    rw [ng_ons hb.1 h2 hO]
    exact on_true c
  have e2 : ng9 A sg ≤ c := by
    rw [ng_ons hb.1 h2 hO]
    exact on_le c
  have := wr_take (A := A) (sg := sg) A.flatten.length (Nat.le_refl _)
  rw [List.take_length] at this
  unfold ng9 at e1 e2 ⊢
  rw [this, e1]
  exact ⟨rfl, e2⟩
variable {X : (Nat → Nat → Int32) → Prop} {z : ow_MS} {St : plT}
section XCK9
theorem re_isPrime {x : Int32} : Te (fun K => qe_X13_isPrime K x z) (fun r => r.2 = z ∧ (r.1 = 0 ∧ (¬ ∃ p, x = nI p ∧ prT p ∧ p ≤ 997) ∨ r.1 = 1 ∧ ∃ p, x = nI p ∧ prT p ∧ p ≤ 997)) := by
  let Q : Int32 × ow_MS → Prop := fun r => r.2 = z ∧ (r.1 = 0 ∧ (¬ ∃ p, x = nI p ∧ prT p ∧ p ≤ 997) ∨ r.1 = 1 ∧ ∃ p, x = nI p ∧ prT p ∧ p ≤ 997)
  have c30 : (¬ ∃ p, x = nI p ∧ prT p ∧ p ≤ 997) → ∀ (x2 : Int32), Tt (fun K i => q_X13_isPrime K i 3 x 0 x2 0 z) Q := by
    intro hno x2
    refine u_X13_isPrime_3 ?_; unfold qm_X13_isPrime_3
    exact w_ifT rfl (w_okZ (Or.inl rfl) (w_some ⟨rfl, Or.inl ⟨rfl, hno⟩⟩))
  have c1 : (¬ ∃ p, x = nI p ∧ prT p ∧ p ≤ 997) → Tt (fun K i => q_X13_isPrime K i 1 x 0 0 0 z) Q := by
    intro hno
    refine u_X13_isPrime_1 ?_; unfold qm_X13_isPrime_1
    refine u_X13_isPrime_2 ?_; unfold qm_X13_isPrime_2
    exact c30 hno _
  refine e_X13_isPrime ?_
  refine u_X13_isPrime_0 ?_; unfold qm_X13_isPrime_0
  refine w_if (fun h8 => c1 ?_) (fun h2 => w_if (fun h8 => c1 ?_) (fun h9 => ?_))
  · rintro ⟨p, rfl, hp, h9⟩
    have := (nI_ltI (b := 2) (by omega) (by omega)).mp h8
    have := hp.1
    omega
  · rintro ⟨p, rfl, hp, h9⟩
    have := (nI_ltI (a := 997) (by omega) (by omega)).mp h8
    omega
  obtain ⟨p, hp31, rfl⟩ := nI_of (x := x) (fun h8 => h2 (by
    rw [Int32.lt_iff_toInt_lt] at h8 ⊢
    exact Int.lt_trans h8 (by decide)))
  have hp2 : 2 ≤ p := by
    rcases Nat.lt_or_ge p 2 with h8 | h8
    · exact absurd (nI_lt (b := 2) h8 (by omega)) h2
    · exact h8
  have hp9 : p ≤ 997 := by
    rcases Nat.lt_or_ge 997 p with h8 | h8
    · exact absurd (nI_lt (a := 997) h8 hp31) h9
    · exact h8
  have key : ∀ (d k : Nat), k + d = 32 → 2 ≤ k → (∀ j, 2 ≤ j → j < k → p % j ≠ 0) → Tt (fun K i => q_X13_isPrime K i 3 (nI p) 1 (nI k) 0 z) Q := by
    intro d
    induction d with
    | zero =>
      intro k hk hk2 hall
      have hk : k = 32 := by omega
      subst hk
      refine u_X13_isPrime_3 ?_; unfold qm_X13_isPrime_3
      rw [pk_mul]
      refine w_ifF (by decide) (w_ltT (by omega) (by omega) (w_okZ (Or.inr rfl) (w_some ⟨rfl, Or.inr ⟨rfl, p, rfl, ⟨hp2, fun j hj hjj => hall j hj ?_⟩, hp9⟩⟩)))
      rcases Nat.lt_or_ge j 32 with h8 | h8
      · exact h8
      · have := Nat.mul_le_mul h8 h8
        omega
    | succ d ih =>
      intro k hk hk2 hall
      have hkk : k * k ≤ 1024 := Nat.mul_le_mul (show k ≤ 32 by omega) (show k ≤ 32 by omega)
      refine u_X13_isPrime_3 ?_; unfold qm_X13_isPrime_3
      rw [pk_mul, pk_rem hp31 (by omega) (by omega)]
      refine w_ifF (by decide) (w_lt (by omega) (by omega) (fun hlt => w_okZ (Or.inr rfl) (w_some ⟨rfl, Or.inr ⟨rfl, p, rfl, ⟨hp2, fun j hj hjj => hall j hj ?_⟩, hp9⟩⟩)) (fun hge => w_nzI (fun e => by have := (nI_eq (a := k) (b := 0) (by omega) (by omega)).mp e; omega) (w_if (fun h0 => ?_) (fun h0 => ?_))))
      · rcases Nat.lt_or_ge j k with h8 | h8
        · exact h8
        · have := Nat.mul_le_mul h8 h8
          omega
      · refine u_X13_isPrime_4 ?_; unfold qm_X13_isPrime_4
        refine c30 ?_ _
        rintro ⟨p', e', hp', h9'⟩
        have e' := nI_inj9 (a := p) (b := p') (by omega) (by omega) e'
        subst e'
        have h0 := (nI_eq (a := p % k) (b := 0) (by have := Nat.mod_lt p (show 0 < k by omega); omega) (by omega)).mp h0
        exact hp'.2 k hk2 (by omega) h0
      · refine u_X13_isPrime_4 ?_; unfold qm_X13_isPrime_4
        rw [nI_1]
        refine ih (k + 1) (by omega) (by omega) (fun j hj hjk => ?_)
        by_cases hjk2 : j = k
        · rw [hjk2]
          exact fun e => h0 (by rw [e]; rfl)
        · exact hall j hj (by omega)
  refine u_X13_isPrime_2 ?_; unfold qm_X13_isPrime_2
  exact key 30 2 (by omega) (by omega) (fun j h1 h2 => absurd h1 (by omega))
end XCK9
theorem xq_chain {d p0 : Int32} (h : gI X z) (hR : relR z St) (hP : ∀ e A sg, e < 40 → St e = some (A, sg) → prC A sg) : Te (fun K => qe_X13_chain K d p0 z) (fun r => (r.2.1 1 = nI 1 ∧ tkR z r.2 ∧ ∀ e, e < 40 → d = nI e → St e = none) ∨ ∃ e A sg, e < 40 ∧ d = nI e ∧ St e = some (A, sg) ∧ (r.2.1 1 = nI 2 ∧ tkR z r.2 ∧ (¬ ∃ p, p0 = nI p ∧ prT p ∧ p ≤ 997) ∨ ∃ p, p0 = nI p ∧ prT p ∧ p ≤ 997 ∧ ∃ c P mm, okF A.flatten c ∧ mk A mm P ∧ (r.2.1 1 = nI 3 ∧ tkR z r.2 ∧ 9 < c + P ∨ r.2.1 1 = 0 ∧ c + P ≤ 9 ∧ rfN p A sg c r.2 r.1))) := by
  let Q : Int32 × ow_MS → Prop := fun r => (r.2.1 1 = nI 1 ∧ tkR z r.2 ∧ ∀ e, e < 40 → d = nI e → St e = none) ∨ ∃ e A sg, e < 40 ∧ d = nI e ∧ St e = some (A, sg) ∧ (r.2.1 1 = nI 2 ∧ tkR z r.2 ∧ (¬ ∃ p, p0 = nI p ∧ prT p ∧ p ≤ 997) ∨ ∃ p, p0 = nI p ∧ prT p ∧ p ≤ 997 ∧ ∃ c P mm, okF A.flatten c ∧ mk A mm P ∧ (r.2.1 1 = nI 3 ∧ tkR z r.2 ∧ 9 < c + P ∨ r.2.1 1 = 0 ∧ c + P ≤ 9 ∧ rfN p A sg c r.2 r.1))
  have h1 := gI_1 (c := 0) h
  have hR1 := relR_1 (c := 0) hR
  refine e_X13_chain ?_
  refine u_X13_chain_0 ?_; unfold qm_X13_chain_0
  refine w_wrF (w_hasX hR1 (fun h0 => w_ifT rfl (w_mono (w_failX h1 fr_1) (fun r hr => Or.inl ⟨hr.2.1, tkR_fr hr.2.2 (by unfold rPs rSc; omega) (by unfold rPs rSc; omega), h0⟩))) (fun e A sg he hx hs hv hne => w_ifF (by decide) (w_cs1 re_isPrime (fun a9 y9 ⟨e9, k9⟩ => ?_))))
  subst hx
  have e9 : y9 = usF z 1 0 := e9
  have k9 : a9 = 0 ∧ (¬ ∃ p, p0 = nI p ∧ prT p ∧ p ≤ 997) ∨ a9 = 1 ∧ ∃ p, p0 = nI p ∧ prT p ∧ p ≤ 997 := k9
  subst e9
  refine w_if (fun h9 => w_mono (w_failX h1 fr_1) (fun r hr => Or.inr ⟨e, A, sg, he, rfl, hs, Or.inl ⟨hr.2.1, tkR_fr hr.2.2 (by unfold rPs rSc; omega) (by unfold rPs rSc; omega), ?_⟩⟩)) (fun h9 => ?_)
  · rcases k9 with k9 | k9
    · exact k9.2
    · have k8 : a9 = 1 := k9.1
      rw [k8] at h9
      exact absurd h9 (by decide)
  obtain ⟨p, rfl, hp, hp9⟩ : ∃ p, p0 = nI p ∧ prT p ∧ p ≤ 997 := by
    rcases k9 with k9 | k9
    · exact absurd k9.1 h9
    · exact k9.2
  obtain ⟨T, w0, hN, hvn, hT, hga, hbd⟩ := hP e A sg he hs
  have hO := nm_id hN hvn
  have hCu := cuA (prp_of hp) (iv_of hp) (isoV_of hN hvn) hT hga hbd hO
  refine w_cs0 (to_open pn1 he hv) (fun z2 ⟨o2, f2⟩ => ?_)
  have g2 : gI X z2 := gI_net pn1 f2 (fun g hg => by omega) h1
  have hl := o2.len
  have hC := o2.2.2.2
  have hd := wkF_ok o2.wk
  obtain ⟨c, hok, hc⟩ := o2.2.2.1
  have hV := okF_len hok
  have hcT : T.1 = c := by
    have := hN.2.1
    omega
  subst hcT
  have t2 : z2.1 1 = 0 := by
    rw [(f2 1 (by omega)).1]
    exact po_usF_at
  refine w_cs0 (tn_split pn1 (by omega) (by omega) hd o2.1) (fun z3 ⟨f3, P, hpt⟩ => ?_)
  obtain ⟨mm, hmk, hmm⟩ := mk_of (by omega) hpt
  obtain ⟨p1, p2, p3, p4⟩ := hpt
  have tk3 : tkR z z3 := tkR_tr (tkR_fr (fr_F (P := fun g => g = 1) rfl) (by omega) (by omega)) (tkR_tr (tkR_fr f2 (by omega) (by omega)) (tkR_fr f3 (by unfold frP; omega) (by unfold frP; omega)))
  have t3 : z3.1 1 = 0 := by rw [(f3 1 (by unfold frP; omega)).1]; exact t2
  have o3 : oNet z3 1000 A sg := oNet_fr f3 (fun g hg => by unfold frP at hg; omega) o2
  have g3 : gI X z3 := gI_net pn1 f3 (fun g hg => by unfold frP at hg; omega) g2
  refine w_rdF o3.1.V (w_nzI (by decide) ?_)
  rw [hV, half_V (by omega)]
  refine w_rdF p1 ?_
  rw [nI_add]
  refine w_le (b := 9) (by omega) (by omega) (fun hcP => ?_) (fun h9 => w_mono (w_failX (z0 := z3) g3 fr_rf) (fun r hr => Or.inr ⟨e, A, sg, he, rfl, hs, Or.inr ⟨p, rfl, hp, hp9, T.1, P, mm, hok, hmk, Or.inl ⟨hr.2.1, tkR_tr tk3 (tkR_fr hr.2.2 (by unfold rPs rSc; omega) (by unfold rPs rSc; omega)), by omega⟩⟩⟩))
  have hP1 : 1 ≤ P := by
    have hA0 : 0 < A.length := by
      cases A with
      | nil => exact absurd rfl hne
      | cons a A => exact Nat.succ_pos _
    rcases p3.1 0 hA0 with h8 | ⟨q, hq, -⟩
    · exact absurd h8 (p4 0 hA0)
    · omega
  have hK : chOK A sg T.1 P := ch_ok hok hC p3 p4 (by omega) hP1 hcP
  refine w_cs1 (tp_writhe2 pn1 o3) (fun a4 y4 e4 => ?_)
  cases e4
  obtain ⟨ew, hmi⟩ := wr_ng (sg := sg) hbd hO
  rw [ew]
  have emi : (nI T.1 - iI ((T.1 : Int) - 2 * ng9 A sg)) / 2 = nI (ng9 A sg) := half_ng ⟨T.1, by omega⟩ ⟨ng9 A sg, by omega⟩ hmi
  rw [emi]
  generalize hmiE : ng9 A sg = mi at hmi
  refine w_nzI (by decide) (w_wrF ?_)
  have o5 : oNet (usF z3 88 (nI mi)) 1000 A sg := oNet_fr (fr_F (P := fun g => g = 88) rfl) (fun g hg => by omega) o3
  refine w_cs0 (re_makeStates pn1 o5 hK) (fun z6 ⟨I6, f6⟩ => ?_)
  have h88 : z6.1 88 = nI mi := by rw [(f6 88 (by unfold stH; omega)).1]; exact po_usF_at
  refine w_cs0 (re_placeAll hK (stX_I I6) h88 hmi) (fun z7 ⟨I7, f7, hz7⟩ => ?_)
  have o7 : oNet z7 1000 A sg := oNet_fr f7 (fun g hg => by unfold plH at hg; omega) (oNet_fr f6 (fun g hg => by unfold stH at hg; omega) o5)
  have hf7 : fr (fun g => g = 47 ∨ 81 ≤ g ∧ g ≤ 93) z3 z7 := fr_tr (fr_F (by omega)) (fr_tr (fr_mono (fun g hg => by unfold stH at hg; omega) f6) (fr_mono (fun g hg => by unfold plH at hg; omega) f7))
  have g7 : gI X z7 := gI_fr hf7 (fun g hg => by unfold per; omega) g3
  have hC7 : rkX z7 1000 A sg T.1 mi := ⟨o7, stX_fr f7 (by unfold plH; omega) (by unfold plH; omega) (by unfold plH; omega) I6, I7, by rw [(f7 88 (by unfold plH; omega)).1]; exact h88⟩
  let F : Nat → Prop := fun g => g = 86 ∨ g = 87 ∨ 89 ≤ g ∧ g ≤ 93
  have cF : ∀ {y : ow_MS}, fr F z7 y → rkX y 1000 A sg T.1 mi := fun hf => rkX_fr pn1 hf (fun g hg => hg) hC7
  have gF : ∀ {y : ow_MS}, fr F z7 y → gI X y := fun hf => gI_fr hf (fun g hg => by have hg : g = 86 ∨ g = 87 ∨ 89 ≤ g ∧ g ≤ 93 := hg; unfold per; omega) g7
  have hc8 : T.1 ≤ 8 := hK.2.1
  have t7 : z7.1 1 = 0 := by
    rw [(hf7 1 (by omega)).1]
    exact t3
  have hn9 := hK.2.2.2.1
  let rt9 : Nat → Nat → Int := fun r q => rtR p A sg T.1 mi r q
  let rk8 : Nat → Nat → Nat := fun r q => RKR p A sg T.1 (dgq T.1 mi q) r
  have c1 : ∀ (d q : Nat) (x4 : Int32) (y : ow_MS), q + d = 80 → fr F z7 y → (∀ q', q' < 80 → y.2.1 86 (80 * T.1 + q') = 0) → (∀ r q', r < 10 → q' < 80 → y.2.1 87 (80 * r + q') = iI (if r ≤ T.1 ∧ q' < q then rt9 r q' else 0)) → x4 = iI (sN9 (fun q' => sN9 (fun r => rt9 r q') (T.1 + 1)) q) → Tt (fun K i => q_X13_chain K i 1 (nI e) (nI p) (nI T.1) x4 (nI q) 0 0 0 y) Q := by
    intro d
    induction d with
    | zero =>
      intro q x4 y hq hf h86 h87 hx4
      have hq : q = 80 := by omega
      subst hq
      refine u_X13_chain_1 ?_; unfold qm_X13_chain_1
      refine w_leT (a := 80) (by omega) (by omega) (w_some (Or.inr ⟨e, A, sg, he, rfl, hs, Or.inr ⟨p, rfl, hp, hp9, T.1, P, mm, hok, hmk, Or.inr ⟨?_, hcP, ?_⟩⟩⟩))
      · show y.1 1 = 0
        rw [(hf 1 (show ¬ (1 = 86 ∨ 1 = 87 ∨ 89 ≤ 1 ∧ 1 ≤ 93) by omega)).1]
        exact t7
      · refine ⟨hc8, by rw [hmiE]; exact hmi, hn9, ?_, fun r q hr hq => ?_, ?_⟩
        · rw [hmiE]
          exact (cF hf).2.2.2
        · rw [hmiE]
          refine (h87 r q hr hq).trans ?_
          by_cases h9 : r ≤ T.1
          · rw [if_pos h9, if_pos ⟨h9, hq⟩]
          · rw [if_neg h9, if_neg (fun h8 => h9 h8.1)]
        · rw [hmiE]
          exact hx4
    | succ d ih =>
      intro q x4 y hq hf h86 h87 hx4
      have c3 : ∀ (d2 r : Nat) (x4 : Int32) (y : ow_MS), r + d2 = T.1 + 1 → fr F z7 y → (∀ q', q' < 80 → y.2.1 86 (80 * T.1 + q') = 0) → (∀ r', r' < T.1 → y.2.1 86 (80 * r' + q) = nI (rk8 r' q)) → (∀ r' q', r' < 10 → q' < 80 → y.2.1 87 (80 * r' + q') = iI (if r' ≤ T.1 ∧ (q' < q ∨ q' = q ∧ r' < r) then rt9 r' q' else 0)) → x4 = iI (sN9 (fun q' => sN9 (fun r => rt9 r q') (T.1 + 1)) q + sN9 (fun r => rt9 r q) r) → Tt (fun K i => q_X13_chain K i 3 (nI e) (nI p) (nI T.1) x4 (nI q) (nI r) 0 0 y) Q := by
        intro d2
        induction d2 with
        | zero =>
          intro r x4 y hr hf h86 h86q h87 hx4
          have hr : r = T.1 + 1 := by omega
          subst hr
          refine u_X13_chain_3 ?_; unfold qm_X13_chain_3
          rw [show nI q + 1 = nI (q + 1) from nI_1 _]
          refine w_ltT (by omega) (by omega) (ih (q + 1) x4 y (by omega) hf h86 (fun r' q' hr' hq' => ?_) hx4)
          rw [h87 r' q' hr' hq']
          by_cases h9 : r' ≤ T.1 ∧ q' < q + 1
          · rw [if_pos h9, if_pos ⟨h9.1, by omega⟩]
          · rw [if_neg h9, if_neg (fun h8 => h9 ⟨h8.1, by omega⟩)]
        | succ d2 ih3 =>
          intro r x4 y hr hf h86 h86q h87 hx4
          have e1 : (80 : Int32) * nI r + nI q = nI (80 * r + q) := by rw [show (80 : Int32) * nI r = nI (80 * r) from pk_mul 80 r, nI_add]
          have hrT : r ≤ T.1 := by omega
          have c4 : ∀ (t0 t1 : Int32), t1 - t0 = iI (rt9 r q) → Tt (fun K i => q_X13_chain K i 4 (nI e) (nI p) (nI T.1) x4 (nI q) (nI r) t0 t1 y) Q := by
            intro t0 t1 ht
            refine u_X13_chain_4 ?_; unfold qm_X13_chain_4
            rw [e1, show nI r + 1 = nI (r + 1) from nI_1 _, ht]
            refine w_wrI ml87 rfl (by omega) (ih3 (r + 1) _ _ (by omega) (fr_I2 hf (Or.inr (Or.inl rfl))) (fun q' hq' => ?_) (fun r' hr' => ?_) (fun r' q' hr' hq' => ?_) ?_)
            · exact (congrFun (po_usI_ot (by omega)) _).trans (h86 q' hq')
            · exact (congrFun (po_usI_ot (by omega)) _).trans (h86q r' hr')
            · by_cases h9 : r' = r ∧ q' = q
              · obtain ⟨rfl, rfl⟩ := h9
                rw [if_pos ⟨hrT, Or.inr ⟨rfl, by omega⟩⟩]
                exact po_usI_at
              · refine (po_usI_ne (fun h8 => h9 (by omega))).trans ((h87 r' q' hr' hq').trans ?_)
                by_cases h7 : r' ≤ T.1 ∧ (q' < q ∨ q' = q ∧ r' < r)
                · rw [if_pos h7, if_pos ⟨h7.1, by omega⟩]
                · rw [if_neg h7, if_neg (fun h8 => h7 ⟨h8.1, by omega⟩)]
            · rw [hx4, iI_add]
              show _ = iI (_ + (sN9 (fun r => rt9 r q) r + rt9 r q))
              rw [Int.add_assoc]
          have e85 : y.2.1 85 (80 * r + q) = nI (sz9 T.1 (LcN A sg) (dgq T.1 mi q) r) := (cF hf).2.2.1.1 r q (by omega) (by omega)
          have e86 : y.2.1 86 (80 * r + q) = iI (if r < T.1 then (rk8 r q : Int) else 0) := by
            by_cases h9 : r < T.1
            · rw [if_pos h9, h86q r h9, nI_iI]
            · have h9 : r = T.1 := by omega
              subst h9
              rw [if_neg (by omega)]
              exact h86 q (by omega)
          refine u_X13_chain_3 ?_; unfold qm_X13_chain_3
          rw [e1]
          refine w_ltF (by omega) (by omega) (w_rdI ml85 rfl (by omega) e85 (w_rdI ml86 rfl (by omega) e86 (w_eqN (b := 0) (by omega) (by omega) (fun hr0 => c4 _ _ ?_) (fun hr0 => ?_))))
          · show _ = iI (_ - _ - if r = 0 then 0 else _)
            rw [if_pos hr0, Int.sub_zero, nI_iI, iI_sub]
            exact Int32.sub_zero _
          · refine w_rdI (i := 80 * (r - 1) + q) ml86 (by rw [show nI r - 1 = nI (r - 1) from pk_sub (b := 1) (by omega), show (80 : Int32) * nI (r - 1) = nI (80 * (r - 1)) from pk_mul 80 _, nI_add]) (by omega) (h86q (r - 1) (by omega)) (c4 _ _ ?_)
            show _ = iI (_ - _ - if r = 0 then 0 else _)
            rw [if_neg hr0, nI_iI, nI_iI, iI_sub, iI_sub]
      have c2 : ∀ (d2 r : Nat) (y : ow_MS), r + d2 = T.1 → fr F z7 y → (∀ q', q' < 80 → y.2.1 86 (80 * T.1 + q') = 0) → (∀ r', r' < r → y.2.1 86 (80 * r' + q) = nI (rk8 r' q)) → (∀ r q', r < 10 → q' < 80 → y.2.1 87 (80 * r + q') = iI (if r ≤ T.1 ∧ q' < q then rt9 r q' else 0)) → Tt (fun K i => q_X13_chain K i 2 (nI e) (nI p) (nI T.1) x4 (nI q) (nI r) 0 0 y) Q := by
        intro d2
        induction d2 with
        | zero =>
          intro r y hr hf h86 h86q h87
          have hr : r = T.1 := by omega
          subst hr
          refine u_X13_chain_2 ?_; unfold qm_X13_chain_2
          refine w_leT (by omega) (by omega) (c3 (T.1 + 1) 0 x4 y (by omega) hf h86 h86q (fun r' q' hr' hq' => ?_) ?_)
          · rw [h87 r' q' hr' hq']
            by_cases h7 : r' ≤ T.1 ∧ q' < q
            · rw [if_pos h7, if_pos ⟨h7.1, by omega⟩]
            · rw [if_neg h7, if_neg (fun h8 => h7 ⟨h8.1, by omega⟩)]
          · rw [hx4]
            exact congrArg iI (Int.add_zero _).symm
        | succ d2 ih2 =>
          intro r y hr hf h86 h86q h87
          refine u_X13_chain_2 ?_; unfold qm_X13_chain_2
          refine w_leF (by omega) (by omega) (w_cs1 (re_rankOf pn1 hK (cF hf) hmi hN hT hvn hbd hCu (by omega) (by omega) hp hp9) (fun a8 y8 ⟨f8, e8⟩ => ?_))
          have f8 : fr rdH y y8 := f8
          have e8 : a8 = nI (rk8 r q) := e8
          have k86 : y8.2.1 86 = y.2.1 86 := (f8 86 (by unfold rdH; omega)).2.1
          have k87 : y8.2.1 87 = y.2.1 87 := (f8 87 (by unfold rdH; omega)).2.1
          rw [show (80 : Int32) * nI r = nI (80 * r) from pk_mul 80 r, nI_add, show nI r + 1 = nI (r + 1) from nI_1 _]
          refine w_wrI ml86 rfl (by omega) (ih2 (r + 1) _ (by omega) (fr_I2 (fr_tr hf (fr_mono (fun g hg => by unfold rdH at hg; exact Or.inr (Or.inr hg)) f8)) (Or.inl rfl)) (fun q' hq' => ?_) (fun r' hr' => ?_) (fun r' q' hr' hq' => ?_))
          · refine (po_usI_ne (by omega)).trans ?_
            rw [k86]
            exact h86 q' hq'
          · by_cases h9 : r' = r
            · subst h9
              rw [e8]
              exact po_usI_at
            · refine (po_usI_ne (by omega)).trans ?_
              rw [k86]
              exact h86q r' (by omega)
          · refine (congrFun (po_usI_ot (by omega)) _).trans ?_
            rw [k87]
            exact h87 r' q' hr' hq'
      refine u_X13_chain_1 ?_; unfold qm_X13_chain_1
      exact w_leF (a := 80) (by omega) (by omega) (c2 T.1 0 y (by omega) hf h86 (fun r' hr' => absurd hr' (by omega)) h87)
  refine c1 80 0 0 z7 (by omega) fr_rf (fun q' hq' => (hz7 _ (by omega)).1) (fun r q' hr hq' => ?_) rfl
  rw [if_neg (fun h8 => by omega)]
  exact (hz7 _ (by omega)).2
end XCK8
end
