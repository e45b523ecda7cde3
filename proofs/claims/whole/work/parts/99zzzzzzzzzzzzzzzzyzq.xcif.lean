-- CHAIN: the reference's step, exactly
def wkR (z : ow_MS) (p size b : Nat) (v : vc9) : Prop := ∀ j, j < size → ∃ a, z.2.1 89 j = nI a ∧ a ≤ b ∧ (p : Int) ∣ (a : Int) - v j
section XCK5
variable {z : ow_MS}
theorem wkR_cg {p size b b' : Nat} {v v' : vc9} (h : wkR z p size b v) (hb : b ≤ b') (e : zq9 p size v v') : wkR z p size b' v' := fun j hj => by
  obtain ⟨a, a1, a2, a3⟩ := h j hj
  refine ⟨a, a1, by omega, ?_⟩
  have := Int.dvd_add a3 (e j hj)
  rw [show (a : Int) - v j + (v j - v' j) = a - v' j by omega] at this
  exact this
theorem wkR_add {p size b i nb : Nat} {v : vc9} {x : Int32} (h : wkR z p size b v) (hi : i < size) (hx : z.2.1 89 i = x) : wkR (usI z 89 i (x + nI nb)) p size (b + nb) (fun j => v j + if j = i then (nb : Int) else 0) := fun j hj => by
  dsimp only
  by_cases e : j = i
  · obtain ⟨a, a1, a2, a3⟩ := h j hj
    rw [e] at a1 a3 ⊢
    refine ⟨a + nb, ?_, by omega, ?_⟩
    · rw [po_usI_at, ← hx, a1, nI_add]
    · rw [if_pos rfl, show ((a + nb : Nat) : Int) - (v i + (nb : Int)) = (a : Int) - v i by omega]
      exact a3
  · obtain ⟨a, a1, a2, a3⟩ := h j hj
    refine ⟨a, rd_ne e a1, by omega, ?_⟩
    rw [if_neg e, Int.add_zero]
    exact a3
theorem sy9 (a j : Nat) : (if a = j then (1 : Int) else 0) = if j = a then 1 else 0 := by
  by_cases q : j = a
  · rw [if_pos q, if_pos q.symm]
  · rw [if_neg q, if_neg (fun h9 => q h9.symm)]
theorem cn_o1 {p nb par : Int} {w : Nat} (h : p ∣ nb - par) (f : Nat → Nat) (m1 : Nat) (v : vc9) : zq9 p w (fun j => v j + if j = f m1 then nb else 0) (fun j => v j + par * cnI f j [m1]) := fun j _ => by
  show p ∣ v j + (if j = f m1 then nb else 0) - (v j + par * ((if f m1 = j then 1 else 0) + 0))
  rw [sy9]
  generalize v j = R9
  by_cases q : j = f m1
  · rw [if_pos q, if_pos q, show R9 + nb - (R9 + par * (1 + 0)) = nb - par by omega]
    exact h
  · rw [if_neg q, if_neg q, show R9 + 0 - (R9 + par * (0 + 0)) = 0 by omega]
    exact Int.dvd_zero _
theorem cn_o2 {p nb par : Int} {w : Nat} (h : p ∣ nb - par) (f : Nat → Nat) (m1 m2 : Nat) (v : vc9) : zq9 p w (fun j => (v j + if j = f m1 then nb else 0) + if j = f m2 then nb else 0) (fun j => v j + par * cnI f j [m2, m1]) ∧ zq9 p w (fun j => (v j + if j = f m1 then nb else 0) + if j = f m2 then nb else 0) (fun j => v j + par * cnI f j [m1, m2]) := by
  have key : ∀ j, p ∣ v j + (if j = f m1 then nb else 0) + (if j = f m2 then nb else 0) - (v j + par * ((if j = f m2 then 1 else 0) + (if j = f m1 then 1 else 0))) := fun j => by
    generalize v j = R9
    by_cases q1 : j = f m1
    · rw [if_pos q1, if_pos q1]
      by_cases q2 : j = f m2
      · rw [if_pos q2, if_pos q2, show R9 + nb + nb - (R9 + par * (1 + 1)) = 2 * (nb - par) by omega]
        exact dvr9 2 h
      · rw [if_neg q2, if_neg q2, show R9 + nb + 0 - (R9 + par * (0 + 1)) = nb - par by omega]
        exact h
    · rw [if_neg q1, if_neg q1]
      by_cases q2 : j = f m2
      · rw [if_pos q2, if_pos q2, show R9 + 0 + nb - (R9 + par * (1 + 0)) = nb - par by omega]
        exact h
      · rw [if_neg q2, if_neg q2, show R9 + 0 + (0 : Int) - (R9 + par * (0 + 0)) = 0 by omega]
        exact Int.dvd_zero _
  have e1 : ∀ j, cnI f j [m2, m1] = (if j = f m2 then 1 else 0) + (if j = f m1 then 1 else 0) := fun j => by
    show (if f m2 = j then 1 else 0) + ((if f m1 = j then 1 else 0) + 0) = _
    rw [sy9 (f m2) j, sy9 (f m1) j, Int.add_zero]
  have e2 : ∀ j, cnI f j [m1, m2] = (if j = f m2 then 1 else 0) + (if j = f m1 then 1 else 0) := fun j => by
    show (if f m1 = j then 1 else 0) + ((if f m2 = j then 1 else 0) + 0) = _
    rw [sy9 (f m1) j, sy9 (f m2) j, Int.add_zero, Int.add_comm]
  refine ⟨fun j _ => ?_, fun j _ => ?_⟩
  · dsimp only
    rw [e1 j]
    exact key j
  · dsimp only
    rw [e2 j]
    exact key j
theorem orK {k l L : Nat} (hk : k < 2 ^ L) (hl : l < L) (hL : L ≤ 9) (h0 : btN k l = 0) : nI k ||| ((1 : Int32) <<< (nI l &&& 31)) = nI (k + 2 ^ l) := by
  have h2 : k < 512 := Nat.lt_of_lt_of_le hk (two_mono (b := 9) hL)
  have h3 := or_512 ⟨k / 16, by omega⟩ ⟨k % 16, by omega⟩ ⟨l, by omega⟩
  dsimp only at h3
  rw [show 16 * (k / 16) + k % 16 = k by omega, or_add h0] at h3
  exact h3
theorem bt_one {m l : Nat} (hm : m < 1024) (hl : l < 10) : ((nI m >>> (nI l &&& 31)) &&& 1 = (1 : Int32)) ↔ btN m l = 1 := by
  rw [crS hm hl]
  rcases bt_01 m l with e | e <;> rw [e] <;> decide
theorem re_step {n P s m x pr b q r mi : Nat} {A : rn_L} {sg : Nat → Bool} {T : ow_NT} {v9 : vc9} (hn : mw_net n) (hK : chOK A sg T.1 P) (hA : oNet z n A sg) (hI : stX z A sg T.1) (hpl : plX z A sg T.1 mi) (hmi : mi ≤ T.1) (hN : isoN A sg (fun x => x) T) (hT : pm1 T) (hv : vn T.1 T.2.2.1) (hbd : bdA A) (hC : cu9 T.1 2000 (gG9 A) (fun y => gV9 (y, 0)) (fun y => gV9 (prA9 A (y, 0))) (fun y => gV9 (prA9 A (y, 0))) (relL9 A sg (fun x => x) T.1)) (hva : va9 T.1 (LcN A sg) (dgq T.1 mi q) r s m) (hx : x < T.1) (hb : btN s x = 0) (hpr1 : 2 ≤ pr) (hpr : pr ≤ 997) (hw : wkR z pr (sz9 T.1 (LcN A sg) (dgq T.1 mi q) (r + 1)) b v9) : Te (fun K => qe_X13_step K n (nI s) (nI m) (nI x) (nI pr) z) (fun z1 => wkR z1 pr (sz9 T.1 (LcN A sg) (dgq T.1 mi q) (r + 1)) (b + 2 * pr) (fun j => v9 j + par9 (tb s) x * cnI (ix9 (LcN A sg) (dgq T.1 mi q) (s + 2 ^ x)) j (di9 (gG9 A) (LsR A sg) (LcN A sg) (fun y => gV9 (y, 0)) (fun y => gV9 (prA9 A (y, 0))) s m x)) ∧ fr (fun g => g = 89) z z1) := by
  have hK' := hK
  obtain ⟨hok, hc, hCl, hL9, hbs, hblk⟩ := hK
  have hs : s < 2 ^ T.1 := hva.1
  have hm : m < 2 ^ LcN A sg s := hva.2.2.1
  have hLT := LT_R hN hT hv hc hbd hL9
  have hV := okF_len hok
  have hd := wkF_ok hA.wk
  have hmn := net_mod hn
  have h2c : 2 ^ T.1 ≤ 256 := two_mono (b := 8) hc
  have ht := st_lt hs hx hb
  have hLs := hL9 s hs
  have hLt := hL9 (s + 2 ^ x) ht
  have hm10 : m < 1024 := Nat.lt_of_lt_of_le hm (two_mono (b := 10) (by omega))
  have hb1 : bsN A sg (s + 2 ^ x + 1) ≤ bsN A sg (2 ^ T.1) := bs_mono ht
  rw [bs_s] at hb1
  generalize hdi : di9 (gG9 A) (LsR A sg) (LcN A sg) (fun y => gV9 (y, 0)) (fun y => gV9 (prA9 A (y, 0))) s m x = DI
  generalize hsz : sz9 T.1 (LcN A sg) (dgq T.1 mi q) (r + 1) = size at hw
  have hsz2 : size ≤ 1140 := by
    rw [← hsz]
    exact bkF_sz hL9 (hblk _)
  let Q : ow_MS → Prop := fun z1 => wkR z1 pr size (b + 2 * pr) (fun j => v9 j + par9 (tb s) x * cnI (ix9 (LcN A sg) (dgq T.1 mi q) (s + 2 ^ x)) j DI) ∧ fr (fun g => g = 89) z z1
  have lo : ∀ {t g : Nat}, t < 2 ^ T.1 → g < A.flatten.length → z.2.1 81 (32 * t + g) = nI (lbR A sg t g) := fun h1 h2 => hI.2.2 _ _ h1 h2
  have lb9 : ∀ {t g : Nat}, t < 2 ^ T.1 → g < A.flatten.length → lbR A sg t g < 10 := fun {t g} h1 h2 => by
    have := lb_LcN (A := A) (sg := sg) (s := t) h2
    have := hL9 t h1
    omega
  obtain ⟨v0, v01, v02⟩ := ok_has hok hx
  -- what comes of it has its place
  have vd : ∀ m', m' ∈ DI → m' < 2 ^ LcN A sg (s + 2 ^ x) ∧ z.2.1 84 (bsN A sg (s + 2 ^ x) + m') = nI (ix9 (LcN A sg) (dgq T.1 mi q) (s + 2 ^ x) m') ∧ ix9 (LcN A sg) (dgq T.1 mi q) (s + 2 ^ x) m' < size := fun m' hm' => by
    rw [← hdi] at hm'
    have a := va_di hC hLT (by omega) hva hx hb hm'
    have e := (qv_kp (A := A) (sg := sg) (mi := mi) (q := q) ht hc hmi hLt a.2.2.1).mpr a.2.2.2
    have e2 := hpl.2 _ m' ht a.2.2.1
    rw [e] at e2
    refine ⟨a.2.2.1, e2, ?_⟩
    rw [← hsz]
    exact ix_sz a (by omega)
  obtain ⟨q1, q2, -⟩ := hC.2.2.2 x hx
  have sp := (K_sp (G := gG9 A) (Ls := LsR A sg) (ns := LcN A sg) (P1 := fun y => gV9 (y, 0)) (P2 := fun y => gV9 (prA9 A (y, 0))) (s := s) (m := m) (x := x)).1
  obtain ⟨k01, k02⟩ := K_0 (m := m) (s := s) (x := x) (P1 := fun y => gV9 (y, 0)) (P2 := fun y => gV9 (prA9 A (y, 0))) hLT
  obtain ⟨tl1, tl2, tl3, tl4⟩ := tn_lp hC hx hb
  obtain ⟨sl1, sl2, sl3, -⟩ := hLT s hs
  obtain ⟨ul1, ul2, ul3, -⟩ := hLT _ ht
  have u2 : ∀ p, p ∈ A.flatten → p.2 < 2 := fun p hp => (hbd.2.1 p hp).2
  generalize hKP : K9 (gG9 A) (LsR A sg) (LcN A sg) (fun y => gV9 (y, 0)) (fun y => gV9 (prA9 A (y, 0))) s m x = KP at sp k01 k02
  have c1 : ∀ (d v : Nat), v + d = v0 → (∀ u, u < v → crs A u ≠ x) → Tt (fun K i => q_X13_step K i 1 (nI s) (nI m) (nI x) (nI pr) (nI v) 0 0 0 0 0 0 0 0 0 0 0 n 0 z) Q := by
    have found : ∀ v, v < A.flatten.length → crs A v = x → Tt (fun K i => q_X13_step K i 1 (nI s) (nI m) (nI x) (nI pr) (nI v) 0 0 0 0 0 0 0 0 0 0 0 n 0 z) Q := by
      intro v hvl hcv
      have hml := mtf_lt hd hvl
      have hpv := rn_pv_lt hvl
      have hpm := rn_pv_lt hml
      have atS := at_R hN hT hv hc hbd hs hvl (by omega)
      have atT := at_R hN hT hv hc hbd ht hvl (by omega)
      have abS := ab_R hN hT hv hc hbd hs hvl (by omega)
      have abT := ab_R hN hT hv hc hbd ht hvl (by omega)
      rw [hcv] at abS abT
      generalize hla : lbR A sg s v = la at atS abS
      generalize hlb : lbR A sg s (rn_pv A v) = lb at atS abS
      generalize hka : lbR A sg (s + 2 ^ x) v = ka at atT abT
      generalize hkb : lbR A sg (s + 2 ^ x) (rn_pv A v) = kb at atT abT
      have la9 : la < 10 := by rw [← hla]; exact lb9 hs hvl
      have lb10 : lb < 10 := by rw [← hlb]; exact lb9 hs hpv
      have ka9 : ka < LcN A sg (s + 2 ^ x) := by rw [← hka]; exact lb_LcN hvl
      have kb9 : kb < LcN A sg (s + 2 ^ x) := by rw [← hkb]; exact lb_LcN hpv
      have ka0 : btN KP ka = 0 := by
        rcases abT with ⟨e1, e2⟩ | ⟨e1, e2⟩ <;> rw [e1]
        · exact k01
        · exact k02
      have kb0 : btN KP kb = 0 := by
        rcases abT with ⟨e1, e2⟩ | ⟨e1, e2⟩ <;> rw [e2]
        · exact k02
        · exact k01
      have eab : la = lb ↔ LsR A sg s (gV9 (x, 0)) = LsR A sg s (gV9 (prA9 A (x, 0))) := by
        rcases abS with ⟨e1, e2⟩ | ⟨e1, e2⟩ <;> rw [e1, e2]
        exact ⟨fun h => h.symm, fun h => h.symm⟩
      -- the list, by a and b
      have dE : la = lb → btN m la = 0 → DI = [KP] := fun h1 h2 => by
        rw [← hdi, ← hKP]
        unfold di9
        have h3 := eab.mp h1
        rw [if_pos h3]
        have h4 : btN m (LsR A sg s (gV9 (x, 0))) = 0 := by
          rcases abS with ⟨e1, e2⟩ | ⟨e1, e2⟩
          · rw [← e1]
            exact h2
          · rw [h3, ← e1]
            exact h2
        rw [if_pos h4]
      have dE1 : la = lb → btN m la = 1 → DI = [KP + 2 ^ ka, KP + 2 ^ kb] ∨ DI = [KP + 2 ^ kb, KP + 2 ^ ka] := fun h1 h2 => by
        rw [← hdi, ← hKP]
        unfold di9
        have h3 := eab.mp h1
        rw [if_pos h3]
        have h4 : ¬ btN m (LsR A sg s (gV9 (x, 0))) = 0 := by
          rcases abS with ⟨e1, e2⟩ | ⟨e1, e2⟩
          · rw [← e1]
            omega
          · rw [h3, ← e1]
            omega
        rw [if_neg h4]
        rcases abT with ⟨e1, e2⟩ | ⟨e1, e2⟩ <;> rw [e1, e2]
        · exact Or.inr rfl
        · exact Or.inl rfl
      have dN0 : ¬ la = lb → btN m la = 0 → btN m lb = 0 → DI = [] := fun h1 h2 h3 => by
        rw [← hdi]
        unfold di9
        rw [if_neg (fun h => h1 (eab.mpr h))]
        have : btN m (LsR A sg s (gV9 (x, 0))) = 0 ∧ btN m (LsR A sg s (gV9 (prA9 A (x, 0)))) = 0 := by
          rcases abS with ⟨e1, e2⟩ | ⟨e1, e2⟩ <;> rw [← e1, ← e2]
          · exact ⟨h2, h3⟩
          · exact ⟨h3, h2⟩
        rw [if_pos this]
      have dN1 : ¬ la = lb → btN m la + btN m lb = 1 → DI = [KP] := fun h1 h2 => by
        rw [← hdi, ← hKP]
        unfold di9
        dsimp only
        rw [if_neg (fun h => h1 (eab.mpr h))]
        have : btN m (LsR A sg s (gV9 (x, 0))) + btN m (LsR A sg s (gV9 (prA9 A (x, 0)))) = 1 := by
          rcases abS with ⟨e1, e2⟩ | ⟨e1, e2⟩ <;> rw [← e1, ← e2] <;> omega
        rw [if_neg (by omega), if_pos (by omega)]
      have dN2 : ¬ la = lb → btN m la = 1 → btN m lb = 1 → DI = [KP + 2 ^ ka] := fun h1 h2 h3 => by
        rw [← hdi, ← hKP]
        unfold di9
        dsimp only
        have nl : ¬ LsR A sg s (gV9 (x, 0)) = LsR A sg s (gV9 (prA9 A (x, 0))) := fun h => h1 (eab.mpr h)
        rw [if_neg nl]
        have : btN m (LsR A sg s (gV9 (x, 0))) = 1 ∧ btN m (LsR A sg s (gV9 (prA9 A (x, 0)))) = 1 := by
          rcases abS with ⟨e1, e2⟩ | ⟨e1, e2⟩ <;> rw [← e1, ← e2]
          · exact ⟨h2, h3⟩
          · exact ⟨h3, h2⟩
        rw [if_neg (by omega), if_neg (by omega)]
        have et : LsR A sg (s + 2 ^ x) (gV9 (x, 0)) = LsR A sg (s + 2 ^ x) (gV9 (prA9 A (x, 0))) := (ul3 _ _ q1 q2).mpr (tl3 (fun h => nl ((sl3 _ _ q1 q2).mpr h)))
        rcases abT with ⟨e1, e2⟩ | ⟨e1, e2⟩
        · rw [e1]
        · rw [e1, et]
      have c2 : ∀ (one : Nat), one ≤ pr → (pr : Int) ∣ (one : Int) - par9 (tb s) x → Tt (fun K i => q_X13_step K i 2 (nI s) (nI m) (nI x) (nI pr) (nI v) (nI (mtf A v)) (nI (s + 2 ^ x)) 0 0 0 0 0 0 0 0 0 n (nI one) z) Q := by
        intro one hone hpar
        have add1 : ∀ {m' : Nat} (y : ow_MS) (bb : Nat) (u9 : vc9) {E : ow_MS → Nat → Nat → Option ow_MS} (j : Int32), m' ∈ DI → fr (fun g => g = 89) z y → wkR y pr size bb u9 → j = nI m' → (∀ y1, fr (fun g => g = 89) z y1 → wkR y1 pr size (bb + one) (fun i => u9 i + if i = ix9 (LcN A sg) (dgq T.1 mi q) (s + 2 ^ x) m' then (one : Int) else 0) → Tt (E y1) Q) → Tt (fun K i => rdI mX y 83 (nI (s + 2 ^ x)) fun v1 => rdI mX y 84 (v1 + j) fun v2 => rdI mX y 89 v2 fun v3 => wrI mX y 89 v2 (v3 + nI one) fun y1 => E y1 K i) Q := by
          intro m' y bb u9 E j hm' hf hwy hj H
          obtain ⟨d1, d2, d3⟩ := vd m' hm'
          have e83 : y.2.1 83 (s + 2 ^ x) = nI (bsN A sg (s + 2 ^ x)) := by
            rw [(hf 83 (by omega)).2.1]
            exact hI.2.1 _ (by omega)
          have e84 : y.2.1 84 (bsN A sg (s + 2 ^ x) + m') = nI (ix9 (LcN A sg) (dgq T.1 mi q) (s + 2 ^ x) m') := by
            rw [(hf 84 (by omega)).2.1]
            exact d2
          exact w_rdI ml83 rfl (by omega) e83 (w_rdI (i := bsN A sg (s + 2 ^ x) + m') ml84 (by rw [hj, nI_add]) (by omega) e84 (w_rdI ml89 rfl (by omega) rfl (w_wrI ml89 rfl (by omega) (H _ (fr_I2 hf rfl) (wkR_add hwy d3 rfl)))))
        have Q1 : ∀ (y : ow_MS) (m1 : Nat), DI = [m1] → fr (fun g => g = 89) z y → wkR y pr size (b + one) (fun i => v9 i + if i = ix9 (LcN A sg) (dgq T.1 mi q) (s + 2 ^ x) m1 then (one : Int) else 0) → Q y := fun y m1 e hf h => ⟨by rw [e]; exact wkR_cg h (by omega) (cn_o1 hpar _ m1 v9), hf⟩
        have Q0 : DI = [] → Q z := fun e => ⟨by
          rw [e]
          exact wkR_cg hw (by omega) (fun j _ => by
            show (pr : Int) ∣ v9 j - (v9 j + par9 (tb s) x * 0)
            rw [Int.mul_zero, Int.add_zero, Int.sub_self]
            exact Int.dvd_zero _), fr_rf⟩
        have c9 : ∀ (x15 x16 : Int32), Tt (fun K i => q_X13_step K i 9 (nI s) (nI m) (nI x) (nI pr) (nI v) (nI (mtf A v)) (nI (s + 2 ^ x)) (nI one) (nI la) (nI lb) (nI ka) (nI kb) (nI KP) x15 x16 0 n (nI (btN m la)) z) Q := by
          intro x15 x16
          have er1 := orK sp ka9 hLt ka0
          have er2 := orK sp kb9 hLt kb0
          have c13 : ∀ (x15 x16 x17 : Int32) (y : ow_MS), Q y → Tt (fun K i => q_X13_step K i 13 (nI s) (nI m) (nI x) (nI pr) (nI v) (nI (mtf A v)) (nI (s + 2 ^ x)) (nI one) (nI la) (nI lb) (nI ka) (nI kb) (nI KP) x15 x16 x17 n 0 y) Q := by
            intro x15 x16 x17 y hq
            refine u_X13_step_13 ?_; unfold qm_X13_step_13
            exact w_some hq
          have c12 : ∀ (x15 x16 x17 : Int32), DI = [KP] → Tt (fun K i => q_X13_step K i 12 (nI s) (nI m) (nI x) (nI pr) (nI v) (nI (mtf A v)) (nI (s + 2 ^ x)) (nI one) (nI la) (nI lb) (nI ka) (nI kb) (nI KP) x15 x16 x17 n 0 z) Q := by
            intro x15 x16 x17 e
            refine u_X13_step_12 ?_; unfold qm_X13_step_12
            exact add1 z b v9 _ (by rw [e]; exact List.mem_cons_self) fr_rf hw rfl (fun y1 f1 w1 => c13 _ _ _ y1 (Q1 y1 KP e f1 w1))
          have c11 : ∀ (x15 : Int32) (fa fb : Nat), fa = btN m la → fb = btN m lb → ¬ la = lb → fa + fb ≤ 1 → Tt (fun K i => q_X13_step K i 11 (nI s) (nI m) (nI x) (nI pr) (nI v) (nI (mtf A v)) (nI (s + 2 ^ x)) (nI one) (nI la) (nI lb) (nI ka) (nI kb) (nI KP) x15 (nI fa) (nI fb) n 0 z) Q := by
            intro x15 fa fb hfa hfb hne hle
            refine u_X13_step_11 ?_; unfold qm_X13_step_11
            rcases bt_01 m la with e1 | e1 <;> rcases bt_01 m lb with e2 | e2
            · exact w_ifT (by rw [hfa, e1]; rfl) (w_ifT (by rw [hfb, e2]; rfl) (c13 _ _ _ z (Q0 (dN0 hne e1 e2))))
            · exact w_ifT (by rw [hfa, e1]; rfl) (w_ifF (by rw [hfb, e2]; decide) (c12 _ _ _ (dN1 hne (by omega))))
            · exact w_ifF (by rw [hfa, e1]; decide) (c12 _ _ _ (dN1 hne (by omega)))
            · omega
          have c10 : ∀ (x15 : Int32) (fa fb : Nat), fa = btN m la → fb = btN m lb → ¬ la = lb → Tt (fun K i => q_X13_step K i 10 (nI s) (nI m) (nI x) (nI pr) (nI v) (nI (mtf A v)) (nI (s + 2 ^ x)) (nI one) (nI la) (nI lb) (nI ka) (nI kb) (nI KP) x15 (nI fa) 0 n (nI fb) z) Q := by
            intro x15 fa fb hfa hfb hne
            refine u_X13_step_10 ?_; unfold qm_X13_step_10
            rcases bt_01 m la with e1 | e1
            · exact w_ifT (by rw [hfa, e1]; rfl) (c11 _ fa fb hfa hfb hne (by rcases bt_01 m lb with e2 | e2 <;> omega))
            · refine w_ifF (by rw [hfa, e1]; decide) ?_
              rcases bt_01 m lb with e2 | e2
              · exact w_ifT (by rw [hfb, e2]; rfl) (c11 _ fa fb hfa hfb hne (by omega))
              · refine w_ifF (by rw [hfb, e2]; decide) ?_
                have e := dN2 hne e1 e2
                exact add1 z b v9 _ (by rw [e]; exact List.mem_cons_self) fr_rf hw er1 (fun y1 f1 w1 => c13 _ _ _ y1 (Q1 y1 _ e f1 w1))
          refine u_X13_step_9 ?_; unfold qm_X13_step_9
          refine w_if (fun h9 => ?_) (fun h9 => ?_)
          · have hab : la = lb := (nI_eq (by omega) (by omega)).mp h9
            rcases bt_01 m la with e1 | e1
            · have e := dE hab e1
              exact w_ifT (by rw [e1]; rfl) (add1 z b v9 _ (by rw [e]; exact List.mem_cons_self) fr_rf hw rfl (fun y1 f1 w1 => w_some (Q1 y1 KP e f1 w1)))
            · have e := dE1 hab e1
              refine w_ifF (by rw [e1]; decide) (add1 (m' := KP + 2 ^ ka) z b v9 _ ?_ fr_rf hw er1 (fun y1 f1 w1 => add1 (m' := KP + 2 ^ kb) y1 (b + one) _ _ ?_ f1 w1 er2 (fun y2 f2 w2 => w_some ?_)))
              · rcases e with e | e <;> rw [e] <;> simp
              · rcases e with e | e <;> rw [e] <;> simp
              · refine ⟨?_, f2⟩
                rcases e with e | e <;> rw [e]
                · exact wkR_cg w2 (by omega) (cn_o2 hpar _ _ _ v9).2
                · exact wkR_cg w2 (by omega) (cn_o2 hpar _ _ _ v9).1
          · have hab : ¬ la = lb := fun e => h9 (by rw [e])
            rcases bt_01 m lb with e2 | e2
            · exact w_ifF (fun h8 => by have := (bt_one hm10 lb10).mp h8; omega) (c10 _ _ 0 rfl e2.symm hab)
            · exact w_ifT ((bt_one hm10 lb10).mpr e2) (c10 _ _ 1 rfl e2.symm hab)
        -- which bits stand in what stays
        have c7 : ∀ (d k rr : Nat), k + d = eC A + 1 → 1 ≤ k → rr < 2 ^ LcN A sg (s + 2 ^ x) → (∀ l, tb rr l = true ↔ (∃ u, u < A.flatten.length ∧ lbR A sg s u ≠ la ∧ lbR A sg s u ≠ lb ∧ btN m (lbR A sg s u) = 1 ∧ lbR A sg (s + 2 ^ x) u = l) ∨ ∃ k', 1 ≤ k' ∧ k' < k ∧ btN m (LcN A sg s - k') = 1 ∧ l = LcN A sg (s + 2 ^ x) - k') → Tt (fun K i => q_X13_step K i 7 (nI s) (nI m) (nI x) (nI pr) (nI v) (nI (mtf A v)) (nI (s + 2 ^ x)) (nI one) (nI la) (nI lb) (nI ka) (nI kb) (nI rr) (nI (eC A)) (nI k) 0 n 0 z) Q := by
          have heC : eC A ≤ 6 := by have := neC_eC A; omega
          have hLe : ∀ t, eC A ≤ LcN A sg t := fun t => by unfold LcN; omega
          intro d
          induction d with
          | zero =>
            intro k rr hk hk1 hrr hbits
            have ek : k = eC A + 1 := by omega
            have eKP : rr = KP := by
              rw [← hKP]
              refine K_un hC hLT hrr (fun l hl => ?_)
              rw [hbits l]
              constructor
              · rintro (⟨u, u1, u3, u4, u5, u6⟩ | ⟨k', k1, k2, k3, k4⟩)
                · have nS : ¬ (relL9 A sg (fun x => x) T.1 (tb s) (gV9 (vAt A u)) (gV9 (x, 0)) ∨ relL9 A sg (fun x => x) T.1 (tb s) (gV9 (vAt A u)) (gV9 (prA9 A (x, 0)))) := fun h9 => by
                    have gu : gG9 A (gV9 (vAt A u)) := Or.inl ⟨_, vAt_mem u1, rfl⟩
                    have h8 := h9.imp (fun h => (sl3 _ _ gu q1).mpr h) (fun h => (sl3 _ _ gu q2).mpr h)
                    rw [LsR_v hbd.1 u2 u1] at h8
                    rcases abS with ⟨e1, e2⟩ | ⟨e1, e2⟩ <;> rw [← e1, ← e2] at h8
                    · exact h8.elim u3 u4
                    · exact h8.elim u4 u3
                  have nT := fun h9 => nS ((tl1 _).mpr h9)
                  have gu : gG9 A (gV9 (vAt A u)) := Or.inl ⟨_, vAt_mem u1, rfl⟩
                  have eT : LsR A sg (s + 2 ^ x) (gV9 (vAt A u)) = l := by
                    rw [LsR_v hbd.1 u2 u1]
                    exact u6
                  refine ⟨fun h9 => nT (Or.inl ((ul3 _ _ gu q1).mp (eT.trans h9))), fun h9 => nT (Or.inr ((ul3 _ _ gu q2).mp (eT.trans h9))), _, gu, eT, ?_⟩
                  rw [LsR_v hbd.1 u2 u1]
                  exact u5
                · obtain ⟨i, i1, i2, i3⟩ := cb_at (A := A) (l := eC A - k') A.length (by rw [cb_all, cirs_eC]; omega)
                  have a1 := LsR_c (sg := sg) (s := s) hbd (i := i)
                  have a2 := LsR_c (sg := sg) (s := s + 2 ^ x) hbd (i := i)
                  have e1 : LsR A sg s (1000 + i) = LcN A sg s - k' := by
                    rw [a1, i3]
                    unfold LcN
                    omega
                  have e2 : LsR A sg (s + 2 ^ x) (1000 + i) = l := by
                    rw [a2, i3, k4]
                    unfold LcN
                    omega
                  have gi : gG9 A (1000 + i) := Or.inr ⟨i, i1, i2, rfl⟩
                  have hO := nm_id hN hv
                  have no : ∀ p, p ∈ A.flatten → ¬ relL9 A sg (fun x => x) T.1 (tb (s + 2 ^ x)) (1000 + i) (gV9 p) := fun p hp h9 => by
                    have g9 := gV_lt hbd hp
                    rcases relL_out hbd.1 hO h9 with h8 | ⟨⟨p', b1, b2⟩, -⟩
                    · omega
                    · have := gV_lt hbd b1
                      omega
                  have m0 : (x, 0) ∈ A.flatten := (hO.1 x hx).1
                  refine ⟨fun h9 => no _ m0 ((ul3 _ _ gi q1).mp (e2.trans h9)), fun h9 => no _ (prA_in hbd.1 m0) ((ul3 _ _ gi q2).mp (e2.trans h9)), _, gi, e2, ?_⟩
                  rw [e1]
                  exact k3
              · rintro ⟨n1, n2, g, g1, g2, g3⟩
                rcases g1 with ⟨p, p1, p2⟩ | ⟨i, i1, i2, i3⟩
                · obtain ⟨u, hu, e⟩ := List.getElem_of_mem p1
                  have e : vAt A u = p := vAt_eq (by rw [List.getElem?_eq_getElem hu, e])
                  rw [p2, ← e] at g2 g3
                  rw [LsR_v hbd.1 u2 hu] at g3
                  have gu : gG9 A (gV9 (vAt A u)) := Or.inl ⟨_, vAt_mem hu, rfl⟩
                  have nT : ¬ (relL9 A sg (fun x => x) T.1 (tb (s + 2 ^ x)) (gV9 (vAt A u)) (gV9 (x, 0)) ∨ relL9 A sg (fun x => x) T.1 (tb (s + 2 ^ x)) (gV9 (vAt A u)) (gV9 (prA9 A (x, 0)))) := fun h9 => h9.elim (fun h => n1 (g2.symm.trans ((ul3 _ _ gu q1).mpr h))) (fun h => n2 (g2.symm.trans ((ul3 _ _ gu q2).mpr h)))
                  have nS := fun h9 => nT ((tl1 _).mp h9)
                  have n3 : lbR A sg s u ≠ LsR A sg s (gV9 (x, 0)) := fun h9 => nS (Or.inl ((sl3 _ _ gu q1).mp (by rw [LsR_v hbd.1 u2 hu]; exact h9)))
                  have n4 : lbR A sg s u ≠ LsR A sg s (gV9 (prA9 A (x, 0))) := fun h9 => nS (Or.inr ((sl3 _ _ gu q2).mp (by rw [LsR_v hbd.1 u2 hu]; exact h9)))
                  rw [LsR_v hbd.1 u2 hu] at g2
                  refine Or.inl ⟨u, hu, ?_, ?_, g3, g2⟩
                  · rcases abS with ⟨e1, e2⟩ | ⟨e1, e2⟩ <;> rw [e1]
                    · exact n3
                    · exact n4
                  · rcases abS with ⟨e1, e2⟩ | ⟨e1, e2⟩ <;> rw [e2]
                    · exact n4
                    · exact n3
                · rw [i3] at g2 g3
                  rw [LsR_c hbd] at g2 g3
                  have ci := cb_mono (A := A) A.length i1
                  rw [cb_s i2, cb_all, cirs_eC] at ci
                  refine Or.inr ⟨eC A - cb9 A i, by omega, by omega, ?_, ?_⟩
                  · rw [show LcN A sg s - (eC A - cb9 A i) = rtsN (lpA A sg (nI s) A.flatten.length) A.flatten.length + cb9 A i by unfold LcN; omega]
                    exact g3
                  · rw [← g2]
                    unfold LcN
                    omega
            rw [eKP]
            refine u_X13_step_7 ?_; unfold qm_X13_step_7
            refine w_ltT (by omega) (by omega) ?_
            rcases bt_01 m la with e1 | e1
            · have q9 := c9 (nI (eC A)) (nI k)
              rw [e1] at q9
              exact w_ifF (fun h8 => by have := (bt_one hm10 la9).mp h8; omega) q9
            · have q9 := c9 (nI (eC A)) (nI k)
              rw [e1] at q9
              exact w_ifT ((bt_one hm10 la9).mpr e1) q9
          | succ d ih7 =>
            intro k rr hk hk1 hrr hbits
            have hle : k ≤ LcN A sg (s + 2 ^ x) := by have := hLe (s + 2 ^ x); omega
            have hle2 : k ≤ LcN A sg s := by have := hLe s; omega
            obtain ⟨r1, hr1, er1, eb1⟩ := or_bx (l := LcN A sg (s + 2 ^ x) - k) hrr (by omega) hLt
            have c8 : ∀ rr, rr < 2 ^ LcN A sg (s + 2 ^ x) → (∀ l, tb rr l = true ↔ (∃ u, u < A.flatten.length ∧ lbR A sg s u ≠ la ∧ lbR A sg s u ≠ lb ∧ btN m (lbR A sg s u) = 1 ∧ lbR A sg (s + 2 ^ x) u = l) ∨ ∃ k', 1 ≤ k' ∧ k' < k + 1 ∧ btN m (LcN A sg s - k') = 1 ∧ l = LcN A sg (s + 2 ^ x) - k') → Tt (fun K i => q_X13_step K i 8 (nI s) (nI m) (nI x) (nI pr) (nI v) (nI (mtf A v)) (nI (s + 2 ^ x)) (nI one) (nI la) (nI lb) (nI ka) (nI kb) (nI rr) (nI (eC A)) (nI k) 0 n 0 z) Q := by
              intro rr hrr hbits
              refine u_X13_step_8 ?_; unfold qm_X13_step_8
              rw [show nI k + 1 = nI (k + 1) from nI_1 _]
              exact ih7 (k + 1) rr (by omega) (by omega) hrr hbits
            refine u_X13_step_7 ?_; unfold qm_X13_step_7
            refine w_ltF (by omega) (by omega) (w_rdI ml82 rfl (by omega) (hI.1 s hs) ?_)
            rw [pk_sub hle2]
            refine w_if (fun h9 => w_rdI ml82 rfl (by omega) (hI.1 _ ht) ?_) (fun h9 => c8 rr hrr (fun l => ?_))
            · rw [pk_sub hle, er1]
              refine c8 r1 hr1 (fun l => ?_)
              rw [eb1 l, Bool.or_eq_true, hbits l, decide_eq_true_iff]
              have hbt := (bt_one hm10 (show LcN A sg s - k < 10 by omega)).mp h9
              constructor
              · rintro ((h8 | ⟨k', k1, k2, k3, k4⟩) | h8)
                · exact Or.inl h8
                · exact Or.inr ⟨k', k1, by omega, k3, k4⟩
                · exact Or.inr ⟨k, hk1, by omega, hbt, h8⟩
              · rintro (h8 | ⟨k', k1, k2, k3, k4⟩)
                · exact Or.inl (Or.inl h8)
                · by_cases e : k' = k
                  · rw [e] at k4
                    exact Or.inr k4
                  · exact Or.inl (Or.inr ⟨k', k1, by omega, k3, k4⟩)
            · rw [hbits l]
              constructor
              · rintro (h8 | ⟨k', k1, k2, k3, k4⟩)
                · exact Or.inl h8
                · exact Or.inr ⟨k', k1, by omega, k3, k4⟩
              · rintro (h8 | ⟨k', k1, k2, k3, k4⟩)
                · exact Or.inl h8
                · by_cases e : k' = k
                  · rw [e] at k3
                    exact absurd ((bt_one hm10 (show LcN A sg s - k < 10 by omega)).mpr k3) h9
                  · exact Or.inr ⟨k', k1, by omega, k3, k4⟩
        have c5 : ∀ (d g rr : Nat), g + d = A.flatten.length → rr < 2 ^ LcN A sg (s + 2 ^ x) → (∀ l, tb rr l = true ↔ ∃ u, u < g ∧ lbR A sg s u ≠ la ∧ lbR A sg s u ≠ lb ∧ btN m (lbR A sg s u) = 1 ∧ lbR A sg (s + 2 ^ x) u = l) → Tt (fun K i => q_X13_step K i 5 (nI s) (nI m) (nI x) (nI pr) (nI v) (nI (mtf A v)) (nI (s + 2 ^ x)) (nI one) (nI la) (nI lb) (nI ka) (nI kb) (nI rr) (nI g) 0 0 n 0 z) Q := by
          intro d
          induction d with
          | zero =>
            intro g rr hg hrr hbits
            have eg : g = A.flatten.length := by omega
            refine u_X13_step_5 ?_; unfold qm_X13_step_5
            refine w_rdF hA.1.V (w_leT (by omega) (by omega) (w_cs1 (tp_circles2 hn (by omega) (by omega) hA.1.1) (fun a y e => ?_)))
            cases e
            refine c7 (eC A) 1 rr (by omega) (Nat.le_refl _) hrr (fun l => ?_)
            rw [hbits l, eg]
            exact ⟨fun h8 => Or.inl h8, fun h8 => h8.elim id (fun ⟨k', k1, k2, _⟩ => by omega)⟩
          | succ d ih5 =>
            intro g rr hg hrr hbits
            have hgl : g < A.flatten.length := by omega
            obtain ⟨r1, hr1, er1, eb1⟩ := or_bx hrr (lb_LcN (A := A) (sg := sg) (s := s + 2 ^ x) hgl) hLt
            have c6 : ∀ rr (x16 : Int32), rr < 2 ^ LcN A sg (s + 2 ^ x) → (∀ l, tb rr l = true ↔ ∃ u, u < g + 1 ∧ lbR A sg s u ≠ la ∧ lbR A sg s u ≠ lb ∧ btN m (lbR A sg s u) = 1 ∧ lbR A sg (s + 2 ^ x) u = l) → Tt (fun K i => q_X13_step K i 6 (nI s) (nI m) (nI x) (nI pr) (nI v) (nI (mtf A v)) (nI (s + 2 ^ x)) (nI one) (nI la) (nI lb) (nI ka) (nI kb) (nI rr) (nI g) x16 0 n 0 z) Q := by
              intro rr x16 hrr hbits
              refine u_X13_step_6 ?_; unfold qm_X13_step_6
              rw [show nI g + 1 = nI (g + 1) from nI_1 _]
              exact ih5 (g + 1) rr (by omega) hrr hbits
            have skip : (lbR A sg s g = la ∨ lbR A sg s g = lb ∨ btN m (lbR A sg s g) ≠ 1) → ∀ l, tb rr l = true ↔ ∃ u, u < g + 1 ∧ lbR A sg s u ≠ la ∧ lbR A sg s u ≠ lb ∧ btN m (lbR A sg s u) = 1 ∧ lbR A sg (s + 2 ^ x) u = l := fun h9 l => by
              rw [hbits l]
              constructor
              · rintro ⟨u, u1, h8⟩
                exact ⟨u, by omega, h8⟩
              · rintro ⟨u, u1, u3, u4, u5, u6⟩
                refine ⟨u, ?_, u3, u4, u5, u6⟩
                by_cases e : u = g
                · rw [e] at u3 u4 u5
                  rcases h9 with h | h | h
                  · exact absurd h u3
                  · exact absurd h u4
                  · exact absurd u5 h
                · omega
            have l9 := lb9 hs hgl
            refine u_X13_step_5 ?_; unfold qm_X13_step_5
            rw [i32x, i32x]
            refine w_rdF hA.1.V (w_leF (by omega) hgl (w_rdI ml81 rfl (by omega) (lo hs hgl) (w_if (fun h9 => c6 _ _ hrr (skip (Or.inl ((nI_eq (by omega) (by omega)).mp h9)))) (fun n1 => w_if (fun h9 => c6 _ _ hrr (skip (Or.inr (Or.inl ((nI_eq (by omega) (by omega)).mp h9))))) (fun n2 => w_if (fun h9 => w_rdI ml81 rfl (by omega) (lo ht hgl) ?_) (fun h9 => c6 _ _ hrr (skip (Or.inr (Or.inr (fun h8 => h9 ((bt_one hm10 l9).mpr h8)))))))))))
            rw [er1]
            refine c6 _ _ hr1 (fun l => ?_)
            rw [eb1 l, Bool.or_eq_true, hbits l, decide_eq_true_iff]
            constructor
            · rintro (⟨u, u1, h8⟩ | h8)
              · exact ⟨u, by omega, h8⟩
              · exact ⟨g, by omega, fun h => n1 (by rw [h]), fun h => n2 (by rw [h]), (bt_one hm10 l9).mp h9, h8.symm⟩
            · rintro ⟨u, u1, u3, u4, u5, u6⟩
              by_cases e : u = g
              · rw [e] at u6
                exact Or.inr u6.symm
              · exact Or.inl ⟨u, by omega, u3, u4, u5, u6⟩
        have c4 : Tt (fun K i => q_X13_step K i 4 (nI s) (nI m) (nI x) (nI pr) (nI v) (nI (mtf A v)) (nI (s + 2 ^ x)) (nI one) (nI la) (nI lb) (nI ka) 0 0 0 0 0 n (nI kb) z) Q := by
          refine u_X13_step_4 ?_; unfold qm_X13_step_4
          refine c5 A.flatten.length 0 0 (by omega) (Nat.two_pow_pos _) (fun l => ?_)
          have : tb 0 l = false := by
            unfold tb
            rw [Nat.zero_div]
            rfl
          rw [this]
          exact ⟨fun h => Bool.noConfusion h, fun ⟨u, h, _⟩ => absurd h (Nat.not_lt_zero _)⟩
        have c3 : Tt (fun K i => q_X13_step K i 3 (nI s) (nI m) (nI x) (nI pr) (nI v) (nI (mtf A v)) (nI (s + 2 ^ x)) (nI one) (nI la) 0 0 0 0 0 0 0 n (nI lb) z) Q := by
          have ka2 := lo ht hvl
          have kb2 := lo ht hpv
          have kc2 := lo ht hml
          have kd2 := lo ht hpm
          rw [hka] at ka2
          rw [hkb] at kb2
          refine u_X13_step_3 ?_; unfold qm_X13_step_3
          rw [i32x, i32x]
          refine w_rdI ml81 rfl (by omega) ka2 (w_rdI (pl10 hn) rfl (by omega) (lk_p hA.1 hvl) (w_rdI ml81 i32x (by omega) kb2 (w_if (fun h9 => w_rdI ml81 rfl (by omega) kc2 (w_if (fun h8 => w_rdI (pl10 hn) rfl (by omega) (lk_p hA.1 hml) (w_rdI ml81 i32x (by omega) kd2 ?_)) (fun h8 => ?_))) (fun h9 => w_rdI (pl10 hn) rfl (by omega) (lk_p hA.1 hvl) (w_rdI ml81 i32x (by omega) kb2 c4)))))
          · have hab : kb = ka := (nI_eq (by omega) (by omega)).mp h9
            have ed : lbR A sg (s + 2 ^ x) (rn_pv A (mtf A v)) = kb := by
              rcases atT with ⟨e1, e2⟩ | ⟨e1, e2⟩ <;> omega
            rw [ed]
            exact c4
          · have hab : kb = ka := (nI_eq (by omega) (by omega)).mp h9
            have ec : lbR A sg (s + 2 ^ x) (mtf A v) = ka := by
              rcases atT with ⟨e1, e2⟩ | ⟨e1, e2⟩ <;> omega
            exact absurd (by rw [ec]) h8
        have la2 := lo hs hvl
        have lb2 := lo hs hpv
        have lc2 := lo hs hml
        have ld2 := lo hs hpm
        rw [hla] at la2
        rw [hlb] at lb2
        refine u_X13_step_2 ?_; unfold qm_X13_step_2
        rw [i32x, i32x]
        refine w_rdI ml81 rfl (by omega) la2 (w_rdI (pl10 hn) rfl (by omega) (lk_p hA.1 hvl) (w_rdI ml81 i32x (by omega) lb2 (w_if (fun h9 => w_rdI ml81 rfl (by omega) lc2 (w_if (fun h8 => w_rdI (pl10 hn) rfl (by omega) (lk_p hA.1 hml) (w_rdI ml81 i32x (by omega) ld2 ?_)) (fun h8 => ?_))) (fun h9 => w_rdI (pl10 hn) rfl (by omega) (lk_p hA.1 hvl) (w_rdI ml81 i32x (by omega) lb2 c3)))))
        · have hab : lb = la := (nI_eq (by omega) (by omega)).mp h9
          have ed : lbR A sg s (rn_pv A (mtf A v)) = lb := by
            rcases atS with ⟨e1, e2⟩ | ⟨e1, e2⟩ <;> omega
          rw [ed]
          exact c3
        · have hab : lb = la := (nI_eq (by omega) (by omega)).mp h9
          have ec : lbR A sg s (mtf A v) = la := by
            rcases atS with ⟨e1, e2⟩ | ⟨e1, e2⟩ <;> omega
          exact absurd (by rw [ec]) h8
      have nk := nb_k ⟨s, by omega⟩ ⟨x, by omega⟩
      refine u_X13_step_1 ?_; unfold qm_X13_step_1
      refine w_rdI (pl4 hn) rfl (by omega) (lk_cu hA.1 hvl).1 (w_ifT (by rw [hcv]) (w_rdI (pl7 hn) rfl (by omega) (lk_m hd hA.1 hvl) ?_))
      rw [st_or (by omega) (by omega) hb]
      refine w_if (fun h9 => ?_) (fun h9 => ?_)
      · have e1 : par9 (tb s) x = 1 := nk.1.mp h9
        exact c2 1 (by omega) (by rw [e1]; exact Int.dvd_zero _)
      · have e1 : par9 (tb s) x = -1 := nk.2.elim (fun h8 => absurd (nk.1.mpr h8) h9) id
        rw [show nI pr - 1 = nI (pr - 1) from pk_sub (b := 1) (by omega)]
        refine c2 (pr - 1) (by omega) ?_
        rw [e1]
        exact ⟨1, by omega⟩
    intro d
    induction d with
    | zero =>
      intro v hv9 _
      exact found v (by omega) (by rw [show v = v0 by omega]; exact v02)
    | succ d ih =>
      intro v hv9 hall
      by_cases hcv : crs A v = x
      · exact found v (by omega) hcv
      · have hcx := (hA.cx (i := v) (by omega)).1
        refine u_X13_step_1 ?_; unfold qm_X13_step_1
        refine w_rdI (pl4 hn) rfl (by omega) (lk_cu hA.1 (by omega)).1 (w_ifF (fun e9 => hcv ((nI_eq (by omega) (by omega)).mp e9)) ?_)
        rw [show nI v + 1 = nI (v + 1) from nI_1 _]
        refine ih (v + 1) (by omega) (fun u hu => ?_)
        by_cases huv : u = v
        · rw [huv]; exact hcv
        · exact hall u (by omega)
  refine e_X13_step ?_
  refine u_X13_step_0 ?_; unfold qm_X13_step_0
  exact c1 v0 0 (by omega) (fun u hu => absurd hu (Nat.not_lt_zero _))
end XCK5
