/-! both sides: diagram -/
theorem te_and {O : Type} {f : Nat → Option O} {Q R : O → Prop} (h1 : Te f Q) (h2 : Te f R) : Te f (fun r => Q r ∧ R r) := w_monoE (te_all (α := Unit) (H := fun _ => True) (R := fun _ => R) h1 (fun _ _ => h2)) (fun r ⟨a, b⟩ => ⟨a, b () trivial⟩)
theorem te_sw {O P : Type} {f : Nat → Option O} {g : Nat → Option P} {R : P → Prop} {M : O → P → Prop} (h2 : Te g R) (H : ∀ b, R b → Te f (fun a => M a b)) : Te f (fun a => Te g (fun b => M a b)) := by
  obtain ⟨b, hb, hR⟩ := h2
  exact w_monoE (H b hR) (fun a ha => ⟨b, hb, ha⟩)
theorem lonA_uni {nm : rtN} {F : List vT} {a b : Nat} (h1 : lonA nm F a) (h2 : lonA nm F b) : a = b := by
  obtain ⟨⟨k, k1, k2⟩, k3⟩ := h1
  obtain ⟨⟨j, j1, j2⟩, j3⟩ := h2
  have := k3 j j1
  have := j3 k k1
  omega
/-- how the class's reader answers -/
def rcQ (t : Nat) (R : rtO) (r : Int32 × ow_MS) : Prop := match R with
  | .inl j => r.1 = nI j ∧ j ≤ t
  | .inr (nm, A) => (∃ a, a < t ∧ lonA nm A.flatten a ∧ r.1 = nI a) ∨ (∀ k, ¬ lonK nm A.flatten k) ∧ r.1 = -1 ∧ ∃ T, cAt r.2 4000 T ∧ nv T ∧ isoN A (sgN nm) (fun x => x) T ∧ pm1 T
section XDI
variable {vl : Nat → Nat} {y : ow_MS} {bt : Nat → Int32} {t : Nat} {nm : rtN} {F : List vT} {T : ow_NT}
theorem xc_finish {A : rn_L} {L : List vT} {x3 x4 : Int32} (hS : rcT t y nm (A.flatten ++ L) T) (hl : lkS T.2.2.1 A L) (hci : T.2.1 = cirs A) (hx : lsI L x3 x4) : Te (fun K => ce_X9_finish vl K 4000 x3 x4 y) (fun y1 => ∃ T1, rcT t y1 nm (A ++ [L]).flatten T1 ∧ lkS T1.2.2.1 (A ++ [L]) [] ∧ T1.2.1 = cirs (A ++ [L]) ∧ fr (cP 4000) y y1) := by
  obtain ⟨s1', s2, s3, s4, s5, s6, s7, s8⟩ := id hS
  have hN := s4.1
  have e0 : vOK (A.flatten ++ L) := ⟨s4.2.1, fun p hp => (s4.2.2.1 p hp).2⟩
  refine e_X9_finish ?_; unfold cm_X9_finish_0
  cases L with
  | nil =>
    have hx : x3 = -1 := hx
    refine w_ifT hx (w_rdF s1'.2.1 (w_wrF (w_some ⟨(T.1, T.2.1 + 1, T.2.2), ?_, lk_nil hl, ?_, fr_F (by unfold cP; omega)⟩)))
    · rw [fl_app]
      exact ⟨⟨rf_ot (by omega) s1'.1, po_usF_at.trans (nI_1 _), s1'.2.2⟩, s2, s3, s4, s5, s6, s7, s8⟩
    · rw [cirs_app, if_pos rfl, ← hci]
  | cons p L =>
    obtain ⟨hx3, q, hq, hx4⟩ := hx
    have hpF : p ∈ A.flatten ++ p :: L := List.mem_append_right _ List.mem_cons_self
    have hqF : q ∈ A.flatten ++ p :: L := List.mem_append_right _ (List.mem_of_getElem? hq)
    have b24 : ∀ r, r ∈ A.flatten ++ p :: L → lb r < 24 := fun r hr => by
      have h1 := s4.2.2.1 r hr
      unfold lb
      omega
    have hp24 := b24 p hpF
    refine w_ifF (by rw [hx3]; exact nI_nm1 (by omega)) ?_
    rw [hx3, hx4]
    refine w_cs0 (tc_link nH4 s1' (b24 q hqF) (b24 p hpF)) ?_
    rintro y1 ⟨g1, g2⟩
    refine w_some ⟨_, ⟨g1, nl_b24 s2 (b24 q hqF) (b24 p hpF), s3, ?_, ?_, fun v hv => ?_, fun k hk => ?_, s8⟩, lk_close e0 hq hl, ?_, g2⟩
    · rw [fl_app]
      exact s4
    · rw [fl_app]
      exact s5
    · rw [fl_app, (g2 11004 (by unfold cP; omega)).2.1]
      exact s6 v hv
    · rw [(g2 11003 (by unfold cP; omega)).2.1]
      exact s7 k hk
    · rw [cirs_app, if_neg (List.cons_ne_nil p L), Nat.add_zero]
      exact hci
theorem xc_firstLonely (hS : rcT t y nm F T) (ht : t ≤ 400) : Te (fun K => ce_X9_firstLonely vl K 11000 4000 y) (fun r => r.2 = y ∧ (r.1 = -1 ∧ (∀ k, ¬ lonK nm F k) ∨ ∃ a, a < t ∧ lonA nm F a ∧ r.1 = nI a)) := by
  obtain ⟨s1', s2, s3, s4, s5, s6, s7, s8⟩ := id hS
  have hN := s4.1
  -- a lonely visit
  let lv : Nat → Prop := fun v => kp v ∈ F ∧ kp (mt v) ∉ F
  have lvK : ∀ v, v < 2 * T.1 → lv v → lonK nm F (v / 2) := fun v hv ⟨h1, h2⟩ => by
    refine ⟨by omega, fun ⟨h3, h4⟩ => h2 ?_⟩
    have hm := mt_half v
    have : mt v % 2 = 0 ∨ mt v % 2 = 1 := by omega
    unfold kp
    rw [hm]
    rcases this with e | e <;> rw [e]
    · exact h3
    · exact h4
  have kLv : ∀ k, lonK nm F k → ∃ v, v < 2 * T.1 ∧ v / 2 = k ∧ lv v := fun k ⟨h1, h2⟩ => by
    obtain ⟨u, hu⟩ := s5 k (by omega)
    have hu2 : u < 2 := (s4.2.2.1 _ hu).2
    refine ⟨2 * k + u, by omega, by omega, ?_, fun h3 => h2 ?_⟩
    · unfold kp
      rw [show (2 * k + u) / 2 = k by omega, show (2 * k + u) % 2 = u by omega]
      exact hu
    · unfold kp mt at h3
      rcases (show u = 0 ∨ u = 1 by omega) with e | e
      · rw [e] at hu
        rw [e, if_pos (by omega), show (2 * k + 0 + 1) / 2 = k by omega, show (2 * k + 0 + 1) % 2 = 1 by omega] at h3
        exact ⟨hu, h3⟩
      · rw [e] at hu
        rw [e, if_neg (by omega), show (2 * k + 1 - 1) / 2 = k by omega, show (2 * k + 1 - 1) % 2 = 0 by omega] at h3
        exact ⟨h3, hu⟩
  let Q : Int32 × ow_MS → Prop := fun r => r.2 = y ∧ (r.1 = -1 ∧ (∀ k, ¬ lonK nm F k) ∨ ∃ a, a < t ∧ lonA nm F a ∧ r.1 = nI a)
  let I : Nat → Int32 → Prop := fun i l => (l = -1 ∧ ∀ v, v < i → ¬ lv v) ∨ ∃ b, b < t ∧ l = nI b ∧ (∃ v, v < i ∧ lv v ∧ atN nm (v / 2) = b) ∧ ∀ v, v < i → lv v → b ≤ atN nm (v / 2)
  have c1 : ∀ (d i : Nat) (l : Int32), i + d = 2 * T.1 → I i l → Tt (fun K t => c_X9_firstLonely vl K t 1 l (nI i) 11000 4000 y) Q := by
    intro d
    induction d with
    | zero =>
      intro i l hi hl
      have e : i = 2 * T.1 := by omega
      subst e
      refine u_X9_firstLonely_1 ?_; unfold cm_X9_firstLonely_1
      refine w_rdF s1'.1 ?_
      rw [show (2 : Int32) * nI T.1 = nI (2 * T.1) from pk_mul 2 _]
      refine w_leT (by omega) (by omega) (w_some ⟨rfl, ?_⟩)
      rcases hl with ⟨e, h⟩ | ⟨b, b1, b2, ⟨v, v1, v2, v3⟩, b4⟩
      · refine Or.inl ⟨e, fun k hk => ?_⟩
        obtain ⟨v, v1, -, v3⟩ := kLv k hk
        exact h v v1 v3
      · refine Or.inr ⟨b, b1, ⟨⟨v / 2, lvK v v1 v2, v3⟩, fun k hk => ?_⟩, b2⟩
        obtain ⟨v', w1, w2, w3⟩ := kLv k hk
        rw [← w2]
        exact b4 v' w1 w3
    | succ d ih =>
      intro i l hi hl
      have hi24 : i < 24 := by omega
      have hm24 := mt_lt (c := 12) (show i < 2 * 12 by omega)
      have c3 : ∀ l2, I (i + 1) l2 → Tt (fun K t => c_X9_firstLonely vl K t 3 l2 (nI i) 11000 4000 y) Q := by
        intro l2 h2
        refine u_X9_firstLonely_3 ?_; unfold cm_X9_firstLonely_3
        rw [nI_1]
        exact ih (i + 1) l2 (by omega) h2
      have keep : ¬ lv i → I (i + 1) l := by
        intro h9
        have ne : ∀ v, v < i + 1 → lv v → v < i := fun v hv h8 => by
          by_cases ev : v = i
          · rw [ev] at h8
            exact absurd h8 h9
          · omega
        rcases hl with ⟨e, h⟩ | ⟨b, b1, b2, ⟨v, v1, v2⟩, b4⟩
        · exact Or.inl ⟨e, fun v hv h8 => h v (ne v hv h8) h8⟩
        · exact Or.inr ⟨b, b1, b2, ⟨v, by omega, v2⟩, fun v hv h8 => b4 v (ne v hv h8) h8⟩
      refine u_X9_firstLonely_1 ?_; unfold cm_X9_firstLonely_1
      refine w_rdF s1'.1 ?_
      rw [show (2 : Int32) * nI T.1 = nI (2 * T.1) from pk_mul 2 _, xor1 ⟨i, hi24⟩]
      refine w_leF (by omega) (by omega) ?_
      rcases s6 i hi24 with ⟨e1, e2⟩ | ⟨b, b1, e1, e2, e3⟩
      · exact w_crI ch_11004 rfl hi24 e1 (w_ifT rfl (c3 l (keep (fun h => e2 h.1))))
      · refine w_crI ch_11004 rfl hi24 e1 (w_ifF (nI_nm1 (by omega)) ?_)
        rcases s6 (mt i) (by omega) with ⟨f1, f2⟩ | ⟨b', b2, f1, f2, -⟩
        · have hlv : lv i := ⟨e2, f2⟩
          have hb := e3 f2
          have hat : b < t := by
            rw [hb]
            have hk := (lvK i (by omega) hlv).1
            have := (s4.2.2.2 _ (List.getElem_mem hk)).2
            unfold atN
            rw [getD_of (List.getElem?_eq_getElem hk)]
            exact this
          have c2 : (∀ v, v < i → lv v → b ≤ atN nm (v / 2)) → Tt (fun K t => c_X9_firstLonely vl K t 2 l (nI i) 11000 4000 y) Q := by
            intro hle
            refine u_X9_firstLonely_2 ?_; unfold cm_X9_firstLonely_2
            refine w_crI ch_11004 rfl hi24 e1 (c3 _ (Or.inr ⟨b, hat, rfl, ⟨i, by omega, hlv, hb.symm⟩, fun v hv h8 => ?_⟩))
            by_cases ev : v = i
            · rw [ev]
              omega
            · exact hle v (by omega) h8
          refine w_crI ch_11004 rfl (show mt i < 24 by omega) f1 (w_ifT rfl ?_)
          rcases hl with ⟨e, h⟩ | ⟨b3, b4, e, b5, b6⟩
          · exact w_ifT e (c2 (fun v hv h8 => absurd h8 (h v hv)))
          · refine w_ifF (by rw [e]; exact nI_nm1 (by omega)) (w_crI ch_11004 rfl hi24 e1 ?_)
            rw [e]
            refine w_le (by omega) (by omega) (fun h9 => c3 _ (Or.inr ⟨b3, b4, rfl, ?_, fun v hv h8 => ?_⟩)) (fun h9 => ?_)
            · obtain ⟨v, v1, v2⟩ := b5
              exact ⟨v, by omega, v2⟩
            · by_cases ev : v = i
              · rw [ev, ← hb]
                exact h9
              · exact b6 v (by omega) h8
            · rw [← e]
              exact c2 (fun v hv h8 => by have := b6 v hv h8; omega)
        · exact w_crI ch_11004 rfl (show mt i < 24 by omega) f1 (w_ifF (nI_nm1 (by omega)) (c3 l (keep (fun h => h.2 f2))))
  refine e_X9_firstLonely ?_
  refine u_X9_firstLonely_0 ?_; unfold cm_X9_firstLonely_0
  exact c1 (2 * T.1) 0 (-1) (by omega) (Or.inl ⟨rfl, fun v hv => absurd hv (Nat.not_lt_zero _)⟩)
theorem xc_readDiagram {n : Nat} {R : rtO} (hn : y.1 11001 = nI n) (h400 : n ≤ 400) (hT : ∃ T, cAt y 4000 T ∧ ow_b24 T.2.2.1) (hbt : ∀ k, k < n → y.2.1 11002 k = bt k) (hR : rdF9 bt n (n + 1) 0 [] [] [] = R) : Te (fun K => ce_X9_readDiagram vl K 11000 4000 y) (fun r => rcQ n R r) := by
  let Q : Int32 × ow_MS → Prop := fun r => rcQ n R r
  have nf : ∀ {z : ow_MS}, fr rdP y z → z.1 11001 = nI n := fun hf => (hf 11001 (by unfold rdP cP; omega)).1.trans hn
  have bf : ∀ {z : ow_MS}, fr rdP y z → ∀ k, k < n → z.2.1 11002 k = bt k := fun hf k hk => by
    rw [(hf 11002 (by unfold rdP cP; omega)).2.1]
    exact hbt k hk
  have bad : ∀ (z : ow_MS) (b : Nat), b ≤ n → R = .inl b → Tt (fun _ _ => some (nI b, z)) Q := fun z b h1 h2 => w_some (by
    show rcQ n R (nI b, z)
    rw [h2]
    exact ⟨rfl, h1⟩)
  have c4 : ∀ (z : ow_MS) (nm : rtN) (A : rn_L) (L : List vT) (T : ow_NT) (x2 x3 x4 x5 : Int32), fr rdP y z → rcT n z nm (A.flatten ++ L) T → lkS T.2.2.1 A L → T.2.1 = cirs A → lsI L x3 x4 → A.length + 1 ≤ 6 → R = .inr (nm, A ++ [L]) → Tt (fun K t => c_X9_readDiagram vl K t 4 x2 x3 x4 x5 0 0 0 11000 4000 z) Q := by
    intro z nm A L T x2 x3 x4 x5 hf h1 h2 h3 h4 h5 hRe
    refine u_X9_readDiagram_4 ?_; unfold cm_X9_readDiagram_4
    refine w_cs0 (xc_finish h1 h2 h3 h4) ?_
    rintro z1 ⟨T1, g1, g2, g3, g4⟩
    refine w_cs1 (xc_firstLonely g1 h400) ?_
    rintro v z2 ⟨e1, e2⟩
    dsimp only at e1 e2
    rw [e1]
    refine w_some ?_
    show rcQ n R (v, z1)
    rw [hRe]
    rcases e2 with ⟨rfl, e3⟩ | e2
    · obtain ⟨s1', s2, s3, s4, s5, s6, s7, s8⟩ := g1
      have hN := s4.1
      have hok : okF (A ++ [L]).flatten T1.1 := by rw [s3]; exact rtP_okF s4 e3
      obtain ⟨n1, n2⟩ := lk_net hok (by omega) (by rw [List.length_append]; exact h5) s2 g3 g2
      have hsg : ∀ x, x < T1.1 → T1.2.2.2 x = 1 ∨ T1.2.2.2 x = -1 := fun x hx => by
        rw [s8 x hx]
        have hk : x < nm.length := by omega
        unfold sgV
        rw [getD_of (List.getElem?_eq_getElem hk)]
        exact (s4.2.2.2 _ (List.getElem_mem hk)).1
      refine Or.inr ⟨e3, rfl, T1, s1', n1, ?_, hsg⟩
      obtain ⟨i1, i2, i3, i4, i5, i6, i7, i8⟩ := n2
      refine ⟨i1, i2, i3, i4, i5, i6, fun w hw => ?_, i8⟩
      have hx := i4 w hw
      show T1.2.2.2 (crs (A ++ [L]) w) < 0 ↔ sgN nm (crs (A ++ [L]) w) = true
      unfold sgN
      rw [decide_eq_true_iff]
      have e9 := s8 _ hx
      unfold sgV at e9
      rw [← e9]
      rcases hsg _ hx with e | e <;> rw [e] <;> decide
    · exact Or.inl e2
  have c1 : ∀ (d i m : Nat) (z : ow_MS) (nm : rtN) (A : rn_L) (L : List vT) (T : ow_NT) (x3 x4 : Int32) (a : Nat), i + d = 400 → i ≤ a → n + 1 ≤ a + m → fr rdP y z → z.1 11005 = nI a → a ≤ n → rcT n z nm (A.flatten ++ L) T → lkS T.2.2.1 A L → T.2.1 = cirs A → lsI L x3 x4 → A.length + 1 ≤ 6 → rdF9 bt n m a nm A L = R → Tt (fun K t => c_X9_readDiagram vl K t 1 (nI (A.length + 1)) x3 x4 (nI i) 0 0 0 11000 4000 z) Q := by
    intro d
    induction d with
    | zero =>
      intro i m z nm A L T x3 x4 a hi hia hm hf ha han h1 h2 h3 h4 h5 hRe
      obtain ⟨m, rfl⟩ : ∃ m', m = m' + 1 := ⟨m - 1, by omega⟩
      have hRe : (if n ≤ a then Sum.inr (nm, A ++ [L]) else if bt a = 59 then (if A.length + 1 = 6 then Sum.inl a else rdF9 bt n m (a + 1) nm (A ++ [L]) []) else match pV bt n a with
        | .inl j => Sum.inl j
        | .inr (u, x, s, j) => rdC (rdF9 bt n m) nm A L a u x s j) = R := hRe
      rw [if_pos (by omega)] at hRe
      refine u_X9_readDiagram_1 ?_; unfold cm_X9_readDiagram_1
      exact w_leT (a := 400) (by omega) (by omega) (c4 z nm A L T _ x3 x4 _ hf h1 h2 h3 h4 h5 hRe.symm)
    | succ d ih =>
      intro i m z nm A L T x3 x4 a hi hia hm hf ha han h1 h2 h3 h4 h5 hRe
      obtain ⟨m, rfl⟩ : ∃ m', m = m' + 1 := ⟨m - 1, by omega⟩
      have hRe : (if n ≤ a then Sum.inr (nm, A ++ [L]) else if bt a = 59 then (if A.length + 1 = 6 then Sum.inl a else rdF9 bt n m (a + 1) nm (A ++ [L]) []) else match pV bt n a with
        | .inl j => Sum.inl j
        | .inr (u, x, s, j) => rdC (rdF9 bt n m) nm A L a u x s j) = R := hRe
      have c3 : ∀ (z1 : ow_MS) (nm1 : rtN) (A1 : rn_L) (L1 : List vT) (T1 : ow_NT) (y3 y4 y6 : Int32) (a1 : Nat), a < a1 → fr rdP y z1 → z1.1 11005 = nI a1 → a1 ≤ n → rcT n z1 nm1 (A1.flatten ++ L1) T1 → lkS T1.2.2.1 A1 L1 → T1.2.1 = cirs A1 → lsI L1 y3 y4 → A1.length + 1 ≤ 6 → rdF9 bt n m a1 nm1 A1 L1 = R → Tt (fun K t => c_X9_readDiagram vl K t 3 (nI (A1.length + 1)) y3 y4 (nI i) y6 0 0 11000 4000 z1) Q := by
        intro z1 nm1 A1 L1 T1 y3 y4 y6 a1 q0 q1 q2 q3 q4 q5 q6 q7 q8 q9
        refine u_X9_readDiagram_3 ?_; unfold cm_X9_readDiagram_3
        rw [nI_1 i]
        exact ih (i + 1) m z1 nm1 A1 L1 T1 y3 y4 a1 (by omega) (by omega) (by omega) q1 q2 q3 q4 q5 q6 q7 q8 q9
      refine u_X9_readDiagram_1 ?_; unfold cm_X9_readDiagram_1
      refine w_leF (a := 400) (by omega) (by omega) (w_rdF ha (w_rdF (nf hf) (w_le (by omega) (by omega) (fun h9 => c4 z nm A L T _ x3 x4 _ hf h1 h2 h3 h4 h5 (by rw [if_pos h9] at hRe; exact hRe.symm)) (fun hal => w_rdF ha (w_rdF ha (w_crI ch_11002 rfl (show a < 400 by omega) (bf hf a hal) ?_))))))
      rw [if_neg (by omega)] at hRe
      refine w_if (fun h59 => ?_) (fun h59 => ?_)
      · rw [if_pos h59] at hRe
        rw [nI_1]
        refine w_le (b := 6) (by omega) (by omega) (fun h6 => w_cs0 (xc_finish h1 h2 h3 h4) ?_) (fun h6 => w_rdF ha (bad z a (by omega) (by rw [if_pos (by omega)] at hRe; exact hRe.symm)))
        rintro z1 ⟨T1, g1, g2, g3, g4⟩
        rw [if_neg (by omega)] at hRe
        have ha1 : z1.1 11005 = nI a := (g4 11005 (by unfold cP; omega)).1.trans ha
        refine w_rdF ha1 (w_wrF ?_)
        rw [nI_1 a]
        have hf1 : fr rdP y (usF z1 11005 (nI (a + 1))) := fr_F2 (fr_tr hf (fr_mono (fun g hg => Or.inl hg) g4)) (by unfold rdP; omega)
        have hA1 : (A ++ [L]).length = A.length + 1 := by
          rw [List.length_append]
          rfl
        have := c3 (usF z1 11005 (nI (a + 1))) nm (A ++ [L]) [] T1 (-1) x4 (nI a) (a + 1) (by omega) hf1 po_usF_at (by omega) (by
          rw [List.append_nil]
          exact rcT_fr (P := fun g => g = 11005) (fr_F rfl) (fun g hg => by unfold cP; omega) g1) g2 g3 rfl (by omega) hRe
        rw [hA1] at this
        exact this
      · rw [if_neg h59] at hRe
        refine w_cs1 (xc_readVisit (bt := bt) ha (nf hf) hal h400 (bf hf)) ?_
        rintro v z1 ⟨f1, e1⟩
        dsimp only at f1
        have hf1 : fr rdP y z1 := fr_tr hf (fr_mono (fun g hg => by unfold rvP at hg; unfold rdP; omega) f1)
        have h11 : rcT n z1 nm (A.flatten ++ L) T := rcT_fr f1 (fun g hg => by unfold rvP at hg; unfold cP; omega) h1
        cases hp : pV bt n a with
        | inl j =>
          rw [hp] at e1 hRe
          obtain ⟨e1, e2⟩ := e1
          have e1 : v = nI j := e1
          rw [e1]
          exact w_ifF (nI_nm1 (by omega)) (bad z1 j e2 hRe.symm)
        | inr q =>
          obtain ⟨u, x, s, j⟩ := q
          rw [hp] at e1 hRe
          obtain ⟨e1, k5, k1, k2, ku, ks, k, k4, kx, k6⟩ := e1
          have e1 : v = -1 := e1
          have k5 : z1.1 11005 = nI j := k5
          have k6 : z1.1 11006 = nI k := k6
          subst kx
          have hRe : rdC (rdF9 bt n m) nm A L a u (nI k) s j = R := hRe
          unfold rdC at hRe
          rw [e1]
          refine w_ifT rfl (w_cs1 (xc_enter (bt := bt) h11 h400 k5 (by omega) k2 h400 k6 k4 hal (bf hf1) hal ku ks) ?_)
          rintro w z2 ⟨f2, e2⟩
          dsimp only at f2
          have hf2 : fr rdP y z2 := fr_tr hf1 (fr_mono (fun g hg => by unfold enR at hg; unfold rdP cP; omega) f2)
          have ha2 : z2.1 11005 = nI j := (f2 11005 (by unfold enR; omega)).1.trans k5
          have good : ∀ (nm2 : rtN) (p : vT) (T2 : ow_NT), w = nI (lb p) → T2.2.1 = T.2.1 → T2.2.2.1 = T.2.2.1 → rcT n z2 nm2 (A.flatten ++ L ++ [p]) T2 → rdF9 bt n m j nm2 A (L ++ [p]) = R → Tt (fun K t => if w = -1 then some (nI a, z2) else if x3 = -1 then c_X9_readDiagram vl K t 2 (nI (A.length + 1)) w x4 (nI i) (nI a) (-1) w 11000 4000 z2 else cs0 (ce_X7_link vl K 4000 x4 w z2) fun z14 => c_X9_readDiagram vl K t 2 (nI (A.length + 1)) x3 x4 (nI i) (nI a) (-1) w 11000 4000 z14) Q := by
            intro nm2 p T2 hw r2 r3 r1 hRe2
            rw [hw]
            have r1' : rcT n z2 nm2 (A.flatten ++ (L ++ [p])) T2 := by
              rw [← List.append_assoc]
              exact r1
            have hN2 := r1'.2.2.2.1.1
            have b24 : ∀ r, r ∈ A.flatten ++ (L ++ [p]) → lb r < 24 := fun r hr => by
              have q1 := r1'.2.2.2.1.2.2.1 r hr
              unfold lb
              omega
            have p24 := b24 p (by simp)
            have hne : nI (lb p) ≠ -1 := nI_nm1 (by omega)
            refine w_ifF hne ?_
            cases L with
            | nil =>
              have h4 : x3 = -1 := h4
              have hl2 : lkS T2.2.2.1 A [p] := by
                rw [r3]
                exact lk_one h2
              refine w_ifT h4 ?_
              refine u_X9_readDiagram_2 ?_; unfold cm_X9_readDiagram_2
              exact c3 z2 nm2 A [p] T2 (nI (lb p)) (nI (lb p)) _ j k1 hf2 ha2 k2 r1' hl2 (r2.trans h3) ⟨rfl, p, rfl, rfl⟩ h5 hRe2
            | cons q0 L =>
              obtain ⟨hx3, q, hq, hx4⟩ := h4
              have hq24 := b24 q (List.mem_append_right _ (List.mem_append_left _ (List.mem_of_getElem? hq)))
              have h024 := b24 q0 (List.mem_append_right _ (List.mem_append_left _ List.mem_cons_self))
              refine w_ifF (by rw [hx3]; exact nI_nm1 (by omega)) ?_
              rw [hx4]
              refine w_cs0 (tc_link nH4 r1'.1 hq24 p24) ?_
              rintro z3 ⟨g1, g2⟩
              obtain ⟨t1, t2, t3, t4, t5, t6, t7, t8⟩ := r1'
              have r13 : rcT n z3 nm2 (A.flatten ++ (q0 :: L ++ [p])) (ntS T2 (nl T2.2.2.1 (lb q) (lb p))) := by
                refine ⟨g1, nl_b24 t2 hq24 p24, t3, t4, t5, fun v hv => ?_, fun k hk => ?_, t8⟩
                · rw [(g2 11004 (by unfold cP; omega)).2.1]
                  exact t6 v hv
                · rw [(g2 11003 (by unfold cP; omega)).2.1]
                  exact t7 k hk
              have hl3 : lkS (nl T2.2.2.1 (lb q) (lb p)) A (q0 :: L ++ [p]) := by
                rw [r3]
                refine lk_more ?_ hq h2
                rw [List.append_assoc]
                exact ⟨t4.2.1, fun p hp => (t4.2.2.1 p hp).2⟩
              have ha3 : z3.1 11005 = nI j := (g2 11005 (by unfold cP; omega)).1.trans ha2
              refine u_X9_readDiagram_2 ?_; unfold cm_X9_readDiagram_2
              refine c3 z3 nm2 A (q0 :: L ++ [p]) _ x3 (nI (lb p)) _ j k1 (fr_tr hf2 (fr_mono (fun g hg => Or.inl hg) g2)) ha3 k2 r13 hl3 (r2.trans h3) ⟨hx3, p, ?_, rfl⟩ h5 hRe2
              have hll : (L.append [p]).length = L.length + 1 := List.length_append
              show (q0 :: L ++ [p])[(L.append [p]).length]? = some p
              rw [hll]
              rw [List.getElem?_append_right (show (q0 :: L).length ≤ L.length + 1 from Nat.le_refl _), show L.length + 1 - (q0 :: L).length = 0 from Nat.sub_self _]
              rfl
          rcases e2 with ⟨hw, -, e2⟩ | ⟨T2, r2, r3, e2⟩
          · have hw : w = -1 := hw
            rw [hw]
            refine w_ifT rfl (bad z2 a (by omega) ?_)
            rcases e2 with ⟨q1, q2⟩ | ⟨x, q1, q2⟩
            · rw [q1] at hRe
              have hRe : (if nm.length = 12 then Sum.inl a else rdF9 bt n m j (nm ++ [(nI k, s, a)]) A (L ++ [(nm.length, u)])) = R := hRe
              rw [if_pos q2] at hRe
              exact hRe.symm
            · rw [q1] at hRe
              have hRe : (if (x, u) ∈ A.flatten ++ L ∨ (nm.getD x (0, 0, 0)).2.1 ≠ s then Sum.inl a else rdF9 bt n m j nm A (L ++ [(x, u)])) = R := hRe
              unfold sgV at q2
              rw [if_pos q2] at hRe
              exact hRe.symm
          · rcases e2 with ⟨q1, q2, q3, q4⟩ | ⟨x, q1, q2, q3, q4⟩
            · rw [q1] at hRe
              have hRe : (if nm.length = 12 then Sum.inl a else rdF9 bt n m j (nm ++ [(nI k, s, a)]) A (L ++ [(nm.length, u)])) = R := hRe
              rw [if_neg q2] at hRe
              exact good _ (nm.length, u) T2 q3 r2 r3 q4 hRe
            · rw [q1] at hRe
              have hRe : (if (x, u) ∈ A.flatten ++ L ∨ (nm.getD x (0, 0, 0)).2.1 ≠ s then Sum.inl a else rdF9 bt n m j nm A (L ++ [(x, u)])) = R := hRe
              unfold sgV at q2
              rw [if_neg q2] at hRe
              exact good _ (x, u) T2 q3 r2 r3 q4 hRe
  obtain ⟨T0, t1, t2⟩ := hT
  refine e_X9_readDiagram ?_
  refine u_X9_readDiagram_0 ?_; unfold cm_X9_readDiagram_0
  refine w_cs0 (tc_fillA ch_11003 (by omega)) ?_
  rintro z1 ⟨a1, a2⟩
  refine w_cs0 (tc_fillA ch_11004 (by omega)) ?_
  rintro z2 ⟨b1, b2⟩
  have t12 : cAt z2 4000 T0 := cAt_fr b2 (fun g hg h9 => by unfold cP at hg; omega) (cAt_fr a2 (fun g hg h9 => by unfold cP at hg; omega) t1)
  refine w_cs0 (tc_empty t12) ?_
  rintro z3 ⟨d1, d2⟩
  have hf3 : fr rdP y z3 := fr_tr (fr_mono (fun g hg => by rw [hg]; unfold rdP; omega) a2) (fr_tr (fr_mono (fun g hg => by rw [hg]; unfold rdP; omega) b2) (fr_mono (fun g hg => Or.inl hg) d2))
  refine w_wrF (c1 400 0 (n + 1) (usF z3 11005 0) [] [] [] (0, 0, T0.2.2) (-1) (-1) 0 (by omega) (Nat.le_refl _) (by omega) (fr_F2 hf3 (by unfold rdP; omega)) po_usF_at (Nat.zero_le _) ?_ ⟨fun v hv => absurd hv (Nat.not_lt_zero _), fun i p q e => by rw [List.getElem?_nil] at e; cases e⟩ rfl rfl (by show 0 + 1 ≤ 6; omega) hR)
  refine ⟨cAt_fr (P := fun g => g = 11005) (fr_F rfl) (fun g hg h9 => by unfold cP at hg; omega) d1, t2, rfl, ⟨Nat.zero_le _, List.nodup_nil, fun p hp => (by cases hp), fun e he => (by cases he)⟩, fun x hx => absurd hx (Nat.not_lt_zero _), fun v hv => Or.inl ⟨?_, fun h => (by cases h)⟩, fun k hk => ?_, fun x hx => absurd hx (Nat.not_lt_zero _)⟩
  · show z3.2.1 11004 v = -1
    rw [(d2 11004 (by unfold cP; omega)).2.1]
    exact b1 v hv
  · show z3.2.1 11003 k = -1
    rw [(d2 11003 (by unfold cP; omega)).2.1, (b2 11003 (by omega)).2.1]
    exact a1 k hk
end XDI
