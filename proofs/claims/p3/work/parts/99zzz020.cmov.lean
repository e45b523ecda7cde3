section
/-! 99zzzzzt.cmov -/
/-! the class: Mover, what moves make -/
theorem nH16 : nH 16000 := by unfold nH nHL; exact List.mem_cons_of_mem _ (List.mem_cons_of_mem _ List.mem_cons_self)
theorem nH17 : nH 17000 := by unfold nH nHL; exact List.mem_cons_of_mem _ (List.mem_cons_of_mem _ (List.mem_cons_of_mem _ List.mem_cons_self))
def zI (b : Bool) : Int32 := if b = true then 1 else 0
theorem zI_t {b : Bool} (h : b = true) : zI b = 1 := if_pos h
theorem zI_01 (b : Bool) : zI b = 0 ∨ zI b = 1 := by
  cases b
  · exact Or.inl rfl
  · exact Or.inr rfl
theorem zI_ne {b : Bool} (h : ¬ zI b = 0) : b = true := by
  cases b
  · exact absurd rfl h
  · rfl
theorem zI_e {b : Bool} (h : zI b = 0) : b = false := by
  cases b
  · rfl
  · exact absurd h (by decide)
section CM
variable {vl : Nat → Nat} {y : ow_MS} {h : Nat} {T R Q : ow_NT}
theorem u_X6_isBeside_1 {vl : Nat → Nat} {x1 : Int32} {x2 : Int32} {r0 : Nat} {z : ow_MS} {Q : (Int32 × ow_MS) → Prop} (H : Tt (fun K k => cm_X6_isBeside_1 vl K (c_X6_isBeside vl K k) x1 x2 r0 z) Q) : Tt (fun K k => c_X6_isBeside vl K k 1 x1 x2 r0 z) Q := w_un (fun _ _ => rfl) H
theorem e_X6_isBeside {vl : Nat → Nat} {r0 : Nat} {x1 : Int32} {x2 : Int32} {z : ow_MS} {Q : (Int32 × ow_MS) → Prop} (H : Tt (fun K k => c_X6_isBeside vl K k 0 x1 x2 r0 z) Q) : Te (fun K => ce_X6_isBeside vl K r0 x1 x2 z) Q := w_te H
theorem u_X6_isBeside_0 {vl : Nat → Nat} {x1 : Int32} {x2 : Int32} {r0 : Nat} {z : ow_MS} {Q : (Int32 × ow_MS) → Prop} (H : Tt (fun K k => cm_X6_isBeside_0 vl K (c_X6_isBeside vl K k) x1 x2 r0 z) Q) : Tt (fun K k => c_X6_isBeside vl K k 0 x1 x2 r0 z) Q := w_un (fun _ _ => rfl) H
theorem tc_isBeside {v w : Nat} (hh : nH h) (hy : cAt y h T) (hb : ow_b24 T.2.2.1) (hv : v < 24) (hw : w < 24) : Te (fun K => ce_X6_isBeside vl K h (nI v) (nI w) y) (fun r => r.1 = zI (mv_bs T.2.2.1.1 v w) ∧ r.2 = y) := by
  have c1 : mv_bs T.2.2.1.1 v w = true → Tt (fun K t => c_X6_isBeside vl K t 1 (nI v) (nI w) h y) (fun r => r.1 = zI (mv_bs T.2.2.1.1 v w) ∧ r.2 = y) := by
    intro e
    refine u_X6_isBeside_1 ?_; unfold cm_X6_isBeside_1
    exact w_okZ (Or.inr rfl) (w_some ⟨(zI_t e).symm, rfl⟩)
  have b1 := hb.1 v
  have b2 := hb.1 w
  refine e_X6_isBeside ?_
  refine u_X6_isBeside_0 ?_; unfold cm_X6_isBeside_0
  refine w_crI (nH_1 hh) rfl hv (hy.2.2.1 v) (w_eqN (by omega) (by omega) (fun e => c1 ?_) (fun e => w_crI (nH_1 hh) rfl hw (hy.2.2.1 w) (w_eqN (by omega) (by omega) (fun e2 => c1 ?_) (fun e2 => w_okZ (Or.inl rfl) (w_some ⟨?_, rfl⟩)))))
  · unfold mv_bs
    rw [decide_eq_true e]
    rfl
  · unfold mv_bs
    rw [decide_eq_true e2, Bool.or_true]
  · have : mv_bs T.2.2.1.1 v w = false := by
      unfold mv_bs
      rw [decide_eq_false e, decide_eq_false e2]
      rfl
    rw [this]
    rfl
theorem e_X6_isLoop {vl : Nat → Nat} {r0 : Nat} {x1 : Int32} {z : ow_MS} {Q : (Int32 × ow_MS) → Prop} (H : Tt (fun K _ => cm_X6_isLoop_0 vl K x1 r0 z) Q) : Te (fun K => ce_X6_isLoop vl K r0 x1 z) Q := w_te0 H
theorem tc_isLoop {x : Nat} (hh : nH h) (hy : cAt y h T) (hb : ow_b24 T.2.2.1) (hx : x < 12) : Te (fun K => ce_X6_isLoop vl K h (nI x) y) (fun r => r.1 = zI (mv_bs T.2.2.1.1 (2 * x) (2 * x + 1)) ∧ r.2 = y) := by
  refine e_X6_isLoop ?_; unfold cm_X6_isLoop_0
  rw [show (2 : Int32) * nI x = nI (2 * x) from pk_mul 2 _, nI_1]
  refine w_cs1 (tc_isBeside hh hy hb (show 2 * x < 24 by omega) (show 2 * x + 1 < 24 by omega)) ?_
  rintro r y1 ⟨e1, e2⟩
  dsimp only at e1 e2
  rw [e1, e2]
  exact w_okZ (zI_01 _) (w_some ⟨rfl, rfl⟩)
theorem e_X6_isPair {vl : Nat → Nat} {r0 : Nat} {x1 : Int32} {x2 : Int32} {z : ow_MS} {Q : (Int32 × ow_MS) → Prop} (H : Tt (fun K _ => cm_X6_isPair_0 vl K x1 x2 r0 z) Q) : Te (fun K => ce_X6_isPair vl K r0 x1 x2 z) Q := w_te0 H
theorem tc_isPair {x w : Nat} (hh : nH h) (hy : cAt y h T) (hb : ow_b24 T.2.2.1) (hx : x < 12) (hw : w < 12) : Te (fun K => ce_X6_isPair vl K h (nI x) (nI w) y) (fun r => r.1 = zI (mv_pair T.2.2.1.1 T.2.2.2 x w) ∧ r.2 = y) := by
  have e0 : ∀ {b : Bool}, b = false → mv_pair T.2.2.1.1 T.2.2.2 x w = b → (0 : Int32) = zI (mv_pair T.2.2.1.1 T.2.2.2 x w) := fun h1 h2 => by
    rw [h2, h1]
    rfl
  refine e_X6_isPair ?_; unfold cm_X6_isPair_0
  rw [show (2 : Int32) * nI x = nI (2 * x) from pk_mul 2 _, show (2 : Int32) * nI w = nI (2 * w) from pk_mul 2 _, nI_1, nI_1]
  refine w_crI (nH_3 hh) rfl hx (hy.2.2.2.2 x) (w_crI (nH_3 hh) rfl hw (hy.2.2.2.2 w) (w_if (fun e => w_okZ (Or.inl rfl) (w_some ⟨?_, rfl⟩)) (fun e => w_cs1 (tc_isBeside hh hy hb (show 2 * x < 24 by omega) (show 2 * w < 24 by omega)) ?_)))
  · have : mv_pair T.2.2.1.1 T.2.2.2 x w = false := by
      unfold mv_pair
      rw [decide_eq_false (by rw [e]; exact fun h9 => h9 rfl)]
      rfl
    rw [this]
    rfl
  · rintro r y1 ⟨e1, e2⟩
    dsimp only at e1 e2
    rw [e1, e2]
    refine w_if (fun q => w_okZ (Or.inl rfl) (w_some ⟨?_, rfl⟩)) (fun q => w_cs1 (tc_isBeside hh hy hb (show 2 * x + 1 < 24 by omega) (show 2 * w + 1 < 24 by omega)) ?_)
    · have : mv_pair T.2.2.1.1 T.2.2.2 x w = false := by
        unfold mv_pair
        rw [zI_e q, Bool.and_false]
        rfl
      rw [this]
      rfl
    · rintro r2 y2 ⟨e3, e4⟩
      dsimp only at e3 e4
      rw [e3, e4]
      refine w_if (fun q2 => w_okZ (Or.inl rfl) (w_some ⟨?_, rfl⟩)) (fun q2 => w_okZ (Or.inr rfl) (w_some ⟨?_, rfl⟩))
      · have : mv_pair T.2.2.1.1 T.2.2.2 x w = false := by
          unfold mv_pair
          rw [zI_e q2, Bool.and_false]
        rw [this]
        rfl
      · have : mv_pair T.2.2.1.1 T.2.2.2 x w = true := by
          unfold mv_pair
          rw [zI_ne q, zI_ne q2, decide_eq_true e]
          rfl
        rw [this]
        rfl
/-- the mover's nets -/
def mvS (y : ow_MS) (R Q : ow_NT) : Prop := cAt y 16000 R ∧ cAt y 17000 Q ∧ ow_b24 R.2.2.1 ∧ ow_b24 Q.2.2.1 ∧ R.1 ≤ 12 ∧ R.2.1 ≤ 6
theorem mvS_fr {y1 : ow_MS} {Q1 : ow_NT} (h : mvS y R Q) (hf : fr (cP 17000) y y1) (hQ : cAt y1 17000 Q1) (hb : ow_b24 Q1.2.2.1) : mvS y1 R Q1 := ⟨cAt_fr hf (fun g hg h9 => by unfold cP at hg h9; omega) h.1, hQ, h.2.2.1, hb, h.2.2.2.2⟩
theorem e_X6_oneGoes {vl : Nat → Nat} {r0 : Nat} {x1 : Int32} {z : ow_MS} {Q : (Int32 × ow_MS) → Prop} (H : Tt (fun K _ => cm_X6_oneGoes_0 vl K x1 r0 z) Q) : Te (fun K => ce_X6_oneGoes vl K r0 x1 z) Q := w_te0 H
theorem tc_oneGoes {x : Nat} (hS : mvS y R Q) (hx : x < R.1) : Te (fun K => ce_X6_oneGoes vl K 12000 (nI x) y) (fun r => r.1 = zI (mv_bs R.2.2.1.1 (2 * x) (2 * x + 1)) ∧ cAt r.2 17000 (mv_t0 Q R x) ∧ fr (cP 17000) y r.2) := by
  obtain ⟨h1, h2, h3, h4, h5, h6⟩ := id hS
  refine e_X6_oneGoes ?_; unfold cm_X6_oneGoes_0
  refine w_cs1 (tc_isLoop nH16 h1 h3 (show x < 12 by omega)) ?_
  rintro r y1 ⟨e1, e2⟩
  dsimp only at e1 e2
  rw [e1, e2]
  refine w_if (fun q => w_okZ (Or.inl rfl) (w_some ⟨q.symm, ?_, fr_rf⟩)) (fun q => w_cs0 (tc_copy nH17 nH16 (by unfold nDj; omega) h2 h1 h5) ?_)
  · unfold mv_t0
    rw [zI_e q, if_neg (by decide)]
    exact h2
  · rintro y2 ⟨g1, g2⟩
    refine w_cs0 (tc_removeCrossing (T := nt_copy Q R) nH17 g1 (nt_copy_b24 h4 h3) hx h5) ?_
    rintro y3 ⟨g3, g4⟩
    refine w_okZ (Or.inr rfl) (w_some ⟨?_, ?_, fr_tr g2 g4⟩)
    · rw [zI_ne q]
      rfl
    · unfold mv_t0
      rw [if_pos (zI_ne q)]
      exact g3
theorem e_X6_twoGo {vl : Nat → Nat} {r0 : Nat} {x1 : Int32} {x2 : Int32} {z : ow_MS} {Q : (Int32 × ow_MS) → Prop} (H : Tt (fun K _ => cm_X6_twoGo_0 vl K x1 x2 r0 z) Q) : Te (fun K => ce_X6_twoGo vl K r0 x1 x2 z) Q := w_te0 H
theorem tc_twoGo {x w : Nat} (hS : mvS y R Q) (hx : x < R.1) (hw : w < R.1) : Te (fun K => ce_X6_twoGo vl K 12000 (nI x) (nI w) y) (fun r => r.1 = zI (mv_b2 R x w) ∧ cAt r.2 17000 (mv_t2 Q R x w) ∧ fr (cP 17000) y r.2) := by
  obtain ⟨h1, h2, h3, h4, h5, h6⟩ := id hS
  have no : mv_b2 R x w = false → (0 : Int32) = zI (mv_b2 R x w) ∧ cAt y 17000 (mv_t2 Q R x w) := by
    intro e
    refine ⟨by rw [e]; rfl, ?_⟩
    unfold mv_t2
    rw [e, if_neg (by decide)]
    exact h2
  refine e_X6_twoGo ?_; unfold cm_X6_twoGo_0
  refine w_le (by omega) (by omega) (fun e => w_okZ (Or.inl rfl) (w_some ⟨(no ?_).1, (no ?_).2, fr_rf⟩)) (fun e => w_cs1 (tc_isPair nH16 h1 h3 (show x < 12 by omega) (show w < 12 by omega)) ?_)
  · unfold mv_b2
    rw [decide_eq_false (by omega)]
    rfl
  · unfold mv_b2
    rw [decide_eq_false (by omega)]
    rfl
  · rintro r y1 ⟨e1, e2⟩
    dsimp only at e1 e2
    rw [e1, e2]
    have eb : mv_b2 R x w = mv_pair R.2.2.1.1 R.2.2.2 x w := by
      unfold mv_b2
      rw [decide_eq_true e, Bool.true_and]
    refine w_if (fun q => w_okZ (Or.inl rfl) (w_some ⟨(no (eb.trans (zI_e q))).1, (no (eb.trans (zI_e q))).2, fr_rf⟩)) (fun q => w_cs0 (tc_copy nH17 nH16 (by unfold nDj; omega) h2 h1 h5) ?_)
    rintro y2 ⟨g1, g2⟩
    refine w_cs0 (tc_removeCrossing (T := nt_copy Q R) nH17 g1 (nt_copy_b24 h4 h3) hx h5) ?_
    rintro y3 ⟨g3, g4⟩
    refine w_cs0 (tc_removeCrossing (T := nt_rm (nt_copy Q R) x) nH17 g3 (np_rmS_b24 (nt_copy_b24 h4 h3) (by omega)) (show w < R.1 - 1 by omega) (show R.1 - 1 ≤ 12 by omega)) ?_
    rintro y4 ⟨g5, g6⟩
    refine w_okZ (Or.inr rfl) (w_some ⟨?_, ?_, fr_tr g2 (fr_tr g4 g6)⟩)
    · rw [eb, zI_ne q]
      rfl
    · unfold mv_t2
      rw [if_pos (eb.trans (zI_ne q))]
      exact g5
theorem u_X6_placePair_1 {vl : Nat → Nat} {x1 : Int32} {x2 : Int32} {x3 : Int32} {r0 : Nat} {z : ow_MS} {Q : ow_MS → Prop} (H : Tt (fun K k => cm_X6_placePair_1 vl K (c_X6_placePair vl K k) x1 x2 x3 r0 z) Q) : Tt (fun K k => c_X6_placePair vl K k 1 x1 x2 x3 r0 z) Q := w_un (fun _ _ => rfl) H
theorem e_X6_placePair {vl : Nat → Nat} {r0 : Nat} {x1 : Int32} {x2 : Int32} {x3 : Int32} {z : ow_MS} {Q : ow_MS → Prop} (H : Tt (fun K k => c_X6_placePair vl K k 0 x1 x2 x3 r0 z) Q) : Te (fun K => ce_X6_placePair vl K r0 x1 x2 x3 z) Q := w_te H
theorem u_X6_placePair_0 {vl : Nat → Nat} {x1 : Int32} {x2 : Int32} {x3 : Int32} {r0 : Nat} {z : ow_MS} {Q : ow_MS → Prop} (H : Tt (fun K k => cm_X6_placePair_0 vl K (c_X6_placePair vl K k) x1 x2 x3 r0 z) Q) : Tt (fun K k => c_X6_placePair vl K k 0 x1 x2 x3 r0 z) Q := w_un (fun _ _ => rfl) H
theorem tc_placePair {af : Option Nat} {f g : Nat} (hS : mvS y R Q) (ha : ∀ a, af = some a → a < 24) (hf : f < 24) (hg : g < 24) (ho : af = none → 1 ≤ Q.2.1) : Te (fun K => ce_X6_placePair vl K 12000 (oNI af) (nI f) (nI g) y) (fun y1 => cAt y1 17000 (nt_pair Q af f g) ∧ fr (cP 17000) y y1) := by
  obtain ⟨h1, h2, h3, h4, h5, h6⟩ := id hS
  let P : ow_MS → Prop := fun y1 => cAt y1 17000 (nt_pair Q af f g) ∧ fr (cP 17000) y y1
  have c1 : ∀ (y1 : ow_MS) (x : Int32) (Q1 : ow_NT), cAt y1 17000 Q1 → ow_b24 Q1.2.2.1 → fr (cP 17000) y y1 → ntS Q1 (np_putBehind Q1.2.2.1 f g) = nt_pair Q af f g → Tt (fun K t => c_X6_placePair vl K t 1 x (nI f) (nI g) 12000 y1) P := by
    intro y1 x Q1 q1 q2 q3 q4
    refine u_X6_placePair_1 ?_; unfold cm_X6_placePair_1
    refine w_cs0 (tc_putBehind nH17 q1 q2 hf hg) ?_
    rintro y2 ⟨g1, g2⟩
    rw [q4] at g1
    exact w_some ⟨g1, fr_tr q3 g2⟩
  refine e_X6_placePair ?_
  refine u_X6_placePair_0 ?_; unfold cm_X6_placePair_0
  cases af with
  | none =>
    refine w_ifT rfl (w_cs0 (tc_openCircle nH17 h2 hf (ho rfl)) ?_)
    rintro y1 ⟨g1, g2⟩
    exact c1 y1 _ _ g1 (nl_b24 h4 hf hf) g2 rfl
  | some a =>
    have ha24 := ha a rfl
    refine w_ifF (nI_nm1 (by omega)) (w_cs0 (tc_putBehind nH17 h2 h4 ha24 hf) ?_)
    rintro y1 ⟨g1, g2⟩
    exact c1 y1 _ _ g1 (np_putBehind_b24 h4 ha24 hf) g2 rfl
theorem ch_c : ∀ ch : Fin 4, ((nI ch.val &&& 2) = 0 ↔ ch.val / 2 % 2 = 0) ∧ (nI ch.val &&& 1) = nI (ch.val % 2) ∧ ((nI ch.val &&& 1) = 0 ↔ ch.val % 2 = 0) := by decide +kernel
theorem u_X6_oneComes_3 {vl : Nat → Nat} {x1 : Int32} {x2 : Int32} {x3 : Int32} {x4 : Int32} {r0 : Nat} {t0 : Int32} {t1 : Int32} {z : ow_MS} {Q : (Int32 × ow_MS) → Prop} (H : Tt (fun K k => cm_X6_oneComes_3 vl K (c_X6_oneComes vl K k) x1 x2 x3 x4 r0 t0 t1 z) Q) : Tt (fun K k => c_X6_oneComes vl K k 3 x1 x2 x3 x4 r0 t0 t1 z) Q := w_un (fun _ _ => rfl) H
theorem u_X6_oneComes_2 {vl : Nat → Nat} {x1 : Int32} {x2 : Int32} {x3 : Int32} {x4 : Int32} {r0 : Nat} {t0 : Int32} {t1 : Int32} {z : ow_MS} {Q : (Int32 × ow_MS) → Prop} (H : Tt (fun K k => cm_X6_oneComes_2 vl K (c_X6_oneComes vl K k) x1 x2 x3 x4 r0 t0 t1 z) Q) : Tt (fun K k => c_X6_oneComes vl K k 2 x1 x2 x3 x4 r0 t0 t1 z) Q := w_un (fun _ _ => rfl) H
theorem u_X6_oneComes_1 {vl : Nat → Nat} {x1 : Int32} {x2 : Int32} {x3 : Int32} {x4 : Int32} {r0 : Nat} {t0 : Int32} {t1 : Int32} {z : ow_MS} {Q : (Int32 × ow_MS) → Prop} (H : Tt (fun K k => cm_X6_oneComes_1 vl K (c_X6_oneComes vl K k) x1 x2 x3 x4 r0 t0 t1 z) Q) : Tt (fun K k => c_X6_oneComes vl K k 1 x1 x2 x3 x4 r0 t0 t1 z) Q := w_un (fun _ _ => rfl) H
theorem e_X6_oneComes {vl : Nat → Nat} {r0 : Nat} {x1 : Int32} {x2 : Int32} {z : ow_MS} {Q : (Int32 × ow_MS) → Prop} (H : Tt (fun K k => c_X6_oneComes vl K k 0 x1 x2 0 0 r0 0 0 z) Q) : Te (fun K => ce_X6_oneComes vl K r0 x1 x2 z) Q := w_te H
theorem u_X6_oneComes_0 {vl : Nat → Nat} {x1 : Int32} {x2 : Int32} {x3 : Int32} {x4 : Int32} {r0 : Nat} {t0 : Int32} {t1 : Int32} {z : ow_MS} {Q : (Int32 × ow_MS) → Prop} (H : Tt (fun K k => cm_X6_oneComes_0 vl K (c_X6_oneComes vl K k) x1 x2 x3 x4 r0 t0 t1 z) Q) : Tt (fun K k => c_X6_oneComes vl K k 0 x1 x2 x3 x4 r0 t0 t1 z) Q := w_un (fun _ _ => rfl) H
theorem tc_oneComes {gap ch : Nat} (hS : mvS y R Q) (h11 : R.1 + 1 ≤ 12) (hg : gap ≤ 2 * R.1) (hc : ch < 4) : Te (fun K => ce_X6_oneComes vl K 12000 (nI gap) (nI ch) y) (fun r => r.1 = zI (mv_b1 R gap) ∧ cAt r.2 17000 (mv_t1 Q R gap ch) ∧ fr (cP 17000) y r.2) := by
  obtain ⟨h1, h2, h3, h4, h5, h6⟩ := id hS
  obtain ⟨k1, k2, k3⟩ := ch_c ⟨ch, hc⟩
  dsimp only at k1 k2 k3
  let P : Int32 × ow_MS → Prop := fun r => r.1 = zI (mv_b1 R gap) ∧ cAt r.2 17000 (mv_t1 Q R gap ch) ∧ fr (cP 17000) y r.2
  have c1 : mv_b1 R gap = true → (gap = 2 * R.1 → 1 ≤ R.2.1) → Tt (fun K t => c_X6_oneComes vl K t 1 (nI gap) (nI ch) (nI (2 * R.1)) 0 12000 0 0 y) P := by
    intro eb ho
    have c3 : ∀ (y1 : ow_MS), cAt y1 17000 (nt_add (nt_copy Q R) (mv_sg ch)) → fr (cP 17000) y y1 → Tt (fun K t => c_X6_oneComes vl K t 3 (nI gap) (nI ch) (nI (2 * R.1)) (nI (2 * R.1 + ch % 2)) 12000 (oNI (mv_af R gap)) 0 y1) P := by
      intro y1 q1 q2
      have hS1 : mvS y1 R (nt_add (nt_copy Q R) (mv_sg ch)) := mvS_fr hS q2 q1 (nt_copy_b24 h4 h3)
      refine u_X6_oneComes_3 ?_; unfold cm_X6_oneComes_3
      rw [xor1 ⟨2 * R.1 + ch % 2, by omega⟩]
      refine w_cs0 (tc_placePair hS1 (fun a ea => ?_) (show 2 * R.1 + ch % 2 < 24 by omega) (mt_lt (c := 12) (by omega)) (fun ea => ?_)) ?_
      · unfold mv_af at ea
        split at ea
        · cases ea
        · cases ea
          omega
      · unfold mv_af at ea
        split at ea
        · rename_i q
          exact ho q
        · cases ea
      · rintro y2 ⟨g1, g2⟩
        refine w_okZ (Or.inr rfl) (w_some ⟨by rw [eb]; rfl, ?_, fr_tr q2 g2⟩)
        unfold mv_t1
        rw [if_pos eb]
        exact g1
    have c2 : ∀ (y1 : ow_MS), cAt y1 17000 (R.1 + 1, R.2.1, (nt_copy Q R).2.2) → fr (cP 17000) y y1 → Tt (fun K t => c_X6_oneComes vl K t 2 (nI gap) (nI ch) (nI (2 * R.1)) 0 12000 (mv_sg ch) (nI R.1) y1) P := by
      intro y1 q1 q2
      obtain ⟨a1, a2, a3, a4, a5⟩ := q1
      have q3 : cAt (usI y1 17003 R.1 (mv_sg ch)) 17000 (nt_add (nt_copy Q R) (mv_sg ch)) := ⟨a1, a2, fun k => rd_ot (by omega) (a3 k), fun k => rd_ot (by omega) (a4 k), fun k => by
        show (usI y1 17003 R.1 (mv_sg ch)).2.1 17003 k = su (nt_copy Q R).2.2.2 R.1 (mv_sg ch) k
        by_cases e : k = R.1
        · rw [e]
          exact po_usI_at.trans (if_pos rfl).symm
        · rw [show su (nt_copy Q R).2.2.2 R.1 (mv_sg ch) k = (nt_copy Q R).2.2.2 k from if_neg e]
          exact rd_ne e (a5 k)⟩
      refine u_X6_oneComes_2 ?_; unfold cm_X6_oneComes_2
      rw [k2, nI_add]
      refine w_ctI (nH_3 nH17) rfl (show R.1 < 12 by omega) (w_eqN (by omega) (by omega) (fun e => ?_) (fun e => ?_))
      · have := c3 _ q3 (fr_I2 q2 (by unfold cP; omega))
        have ea : oNI (mv_af R gap) = -1 := by
          unfold mv_af
          rw [if_pos e]
          rfl
        rw [ea] at this
        exact this
      · have := c3 _ q3 (fr_I2 q2 (by unfold cP; omega))
        have ea : oNI (mv_af R gap) = nI gap := by
          unfold mv_af
          rw [if_neg e]
          rfl
        rw [ea] at this
        exact this
    refine u_X6_oneComes_1 ?_; unfold cm_X6_oneComes_1
    refine w_cs0 (tc_copy nH17 nH16 (by unfold nDj; omega) h2 h1 h5) ?_
    rintro y1 ⟨g1, g2⟩
    refine w_rdF g1.1 (w_wrF ?_)
    have g1' : cAt (usF y1 17008 (nI (R.1 + 1))) 17000 (R.1 + 1, R.2.1, (nt_copy Q R).2.2) := ⟨po_usF_at, rf_ot (by omega) g1.2.1, g1.2.2.1, g1.2.2.2.1, g1.2.2.2.2⟩
    have e8 : nI (nt_copy Q R).1 + 1 = nI (R.1 + 1) := nI_1 _
    rw [e8]
    have fr1 : fr (cP 17000) y (usF y1 17008 (nI (R.1 + 1))) := fr_F2 g2 (by unfold cP; omega)
    have h16 : (usF y1 17008 (nI (R.1 + 1))).1 16008 = nI R.1 := rf_ot (by omega) ((g2 16008 (by unfold cP; omega)).1.trans h1.1)
    refine w_rdF h16 (w_if (fun e => ?_) (fun e => ?_))
    · have := c2 _ g1' fr1
      rw [show mv_sg ch = 1 from if_pos (k1.mp e)] at this
      exact this
    · have := c2 _ g1' fr1
      rw [show mv_sg ch = -1 from if_neg (fun h9 => e (k1.mpr h9))] at this
      exact this
  refine e_X6_oneComes ?_
  refine u_X6_oneComes_0 ?_; unfold cm_X6_oneComes_0
  refine w_rdF h1.1 ?_
  rw [show (2 : Int32) * nI R.1 = nI (2 * R.1) from pk_mul 2 _]
  refine w_eqN (by omega) (by omega) (fun e => w_rdF h1.2.1 (w_eqN (b := 0) (by omega) (by omega) (fun e2 => ?_) (fun e2 => c1 ?_ (fun _ => by omega)))) (fun e => c1 ?_ (fun h9 => absurd h9 e))
  · have eb : mv_b1 R gap = false := by
      unfold mv_b1
      rw [decide_eq_true e, decide_eq_true e2]
      rfl
    refine w_okZ (Or.inl rfl) (w_some ⟨by rw [eb]; rfl, ?_, fr_rf⟩)
    unfold mv_t1
    rw [eb, if_neg (by decide)]
    exact h2
  · unfold mv_b1
    rw [decide_eq_false e2, Bool.and_false]
    rfl
  · unfold mv_b1
    rw [decide_eq_false e, Bool.false_and]
    rfl
theorem an2_c : ∀ s : Fin 48, ((nI (s.val / 2) &&& 1) = 0 ↔ s.val / 2 % 2 = 0) := by decide +kernel
theorem an3_c : ∀ s : Fin 24, ((nI s.val &&& 1) = 0 ↔ s.val % 2 = 0) := by decide +kernel
theorem e_X6_isOver {vl : Nat → Nat} {r0 : Nat} {x1 : Int32} {z : ow_MS} {Q : (Int32 × ow_MS) → Prop} (H : Tt (fun K _ => cm_X6_isOver_0 vl K x1 r0 z) Q) : Te (fun K => ce_X6_isOver vl K r0 x1 z) Q := w_te0 H
theorem tc_isOver {s : Nat} (hy : cAt y 16000 R) (hb : ow_b24 R.2.2.1) (hs : s < 48) : Te (fun K => ce_X6_isOver vl K 12000 (nI s) y) (fun r => r.1 = zI (mv_ov R.2.2.1.1 s) ∧ r.2 = y) := by
  obtain ⟨l1, l2⟩ := sd_c ⟨s, hs⟩
  have l3 := an2_c ⟨s, hs⟩
  have l4 := an3_c ⟨R.2.2.1.1 (s / 2), hb.1 _⟩
  dsimp only at l1 l2 l3 l4
  refine e_X6_isOver ?_; unfold cm_X6_isOver_0
  rw [l2]
  refine w_if (fun e => w_crI (nH_1 nH16) rfl (show s / 2 < 24 by omega) (hy.2.2.1 _) (w_if (fun e2 => w_okZ (Or.inr rfl) (w_some ⟨?_, rfl⟩)) (fun e2 => w_okZ (Or.inl rfl) (w_some ⟨?_, rfl⟩)))) (fun e => w_okZ (Or.inl rfl) (w_some ⟨?_, rfl⟩))
  · have : mv_ov R.2.2.1.1 s = true := by
      unfold mv_ov
      rw [decide_eq_true (l3.mp e), decide_eq_true (l4.mp e2)]
      rfl
    rw [this]
    rfl
  · have : mv_ov R.2.2.1.1 s = false := by
      unfold mv_ov
      rw [decide_eq_false (fun h9 => e2 (l4.mpr h9)), Bool.and_false]
    rw [this]
    rfl
  · have : mv_ov R.2.2.1.1 s = false := by
      unfold mv_ov
      rw [decide_eq_false (fun h9 => e (l3.mpr h9)), Bool.false_and]
    rw [this]
    rfl
theorem end_24 {N : Nat → Nat} {s : Nat} (hN : ∀ k, N k < 24) (hs : s < 48) : fc_end N s < 24 := by
  unfold fc_end
  split
  · exact hN _
  · omega
theorem u_X6_isPassable_1 {vl : Nat → Nat} {x1 : Int32} {x2 : Int32} {x3 : Int32} {x4 : Int32} {x5 : Int32} {x6 : Int32} {r0 : Nat} {z : ow_MS} {Q : (Int32 × ow_MS) → Prop} (H : Tt (fun K k => cm_X6_isPassable_1 vl K (c_X6_isPassable vl K k) x1 x2 x3 x4 x5 x6 r0 z) Q) : Tt (fun K k => c_X6_isPassable vl K k 1 x1 x2 x3 x4 x5 x6 r0 z) Q := w_un (fun _ _ => rfl) H
theorem e_X6_isPassable {vl : Nat → Nat} {r0 : Nat} {x1 : Int32} {x2 : Int32} {x3 : Int32} {z : ow_MS} {Q : (Int32 × ow_MS) → Prop} (H : Tt (fun K k => c_X6_isPassable vl K k 0 x1 x2 x3 0 0 0 r0 z) Q) : Te (fun K => ce_X6_isPassable vl K r0 x1 x2 x3 z) Q := w_te H
theorem u_X6_isPassable_0 {vl : Nat → Nat} {x1 : Int32} {x2 : Int32} {x3 : Int32} {x4 : Int32} {x5 : Int32} {x6 : Int32} {r0 : Nat} {z : ow_MS} {Q : (Int32 × ow_MS) → Prop} (H : Tt (fun K k => cm_X6_isPassable_0 vl K (c_X6_isPassable vl K k) x1 x2 x3 x4 x5 x6 r0 z) Q) : Tt (fun K k => c_X6_isPassable vl K k 0 x1 x2 x3 x4 x5 x6 r0 z) Q := w_un (fun _ _ => rfl) H
theorem tc_isPassable {a b d : Nat} (hy : cAt y 16000 R) (hb : ow_b24 R.2.2.1) (ha : a < 48) (hb2 : b < 48) (hd : d < 48) : Te (fun K => ce_X6_isPassable vl K 12000 (nI a) (nI b) (nI d) y) (fun r => r.1 = zI (mv_pass R.2.2.1.1 a b d) ∧ r.2 = y) := by
  have ea := end_24 hb.1 ha
  have eb := end_24 hb.1 hb2
  have ed := end_24 hb.1 hd
  let P : Int32 × ow_MS → Prop := fun r => r.1 = zI (mv_pass R.2.2.1.1 a b d) ∧ r.2 = y
  have c1 : ∀ x y2 z : Int32, mv_pass R.2.2.1.1 a b d = true → Tt (fun K t => c_X6_isPassable vl K t 1 (nI a) (nI b) (nI d) x y2 z 12000 y) P := by
    intro x y2 z e
    refine u_X6_isPassable_1 ?_; unfold cm_X6_isPassable_1
    exact w_okZ (Or.inr rfl) (w_some ⟨by rw [e]; rfl, rfl⟩)
  have c0 : mv_pass R.2.2.1.1 a b d = false → Tt (fun _ _ => okZ 0 (some ((0 : Int32), y))) P := fun e => w_okZ (Or.inl rfl) (w_some ⟨by rw [e]; rfl, rfl⟩)
  refine e_X6_isPassable ?_
  refine u_X6_isPassable_0 ?_; unfold cm_X6_isPassable_0
  refine w_cs1 (tc_endOf nH16 hy ha) ?_
  rintro v1 z1 ⟨q1, q2⟩
  dsimp only at q1 q2
  rw [q1, q2]
  refine w_cs1 (tc_endOf nH16 hy hb2) ?_
  rintro v2 z2 ⟨q3, q4⟩
  dsimp only at q3 q4
  rw [q3, q4]
  refine w_cs1 (tc_endOf nH16 hy hd) ?_
  rintro v3 z3 ⟨q5, q6⟩
  dsimp only at q5 q6
  rw [q5, q6, shr1v ⟨_, ea⟩, shr1v ⟨_, eb⟩, shr1v ⟨_, ed⟩]
  dsimp only
  refine w_eqN (by omega) (by omega) (fun e => c0 ?_) (fun e1 => w_eqN (by omega) (by omega) (fun e => c0 ?_) (fun e2 => w_eqN (by omega) (by omega) (fun e => c0 ?_) (fun e3 => w_cs1 (tc_isOver hy hb ha) ?_)))
  · unfold mv_pass
    rw [decide_eq_false (fun h9 => h9 e)]
    rfl
  · unfold mv_pass
    rw [decide_eq_false (p := fc_end R.2.2.1.1 b / 2 ≠ fc_end R.2.2.1.1 d / 2) (fun h9 => h9 e), Bool.false_and, Bool.and_false]
  · unfold mv_pass
    rw [decide_eq_false (p := fc_end R.2.2.1.1 a / 2 ≠ fc_end R.2.2.1.1 d / 2) (fun h9 => h9 e), Bool.false_and, Bool.and_false, Bool.and_false]
  · have ep : mv_pass R.2.2.1.1 a b d = (mv_ov R.2.2.1.1 a || (mv_ov R.2.2.1.1 b || mv_ov R.2.2.1.1 d)) := by
      unfold mv_pass
      rw [decide_eq_true e1, decide_eq_true e2, decide_eq_true e3, Bool.true_and, Bool.true_and, Bool.true_and]
    rintro v4 z4 ⟨q7, q8⟩
    dsimp only at q7 q8
    rw [q7, q8]
    refine w_if (fun e => w_cs1 (tc_isOver hy hb hb2) ?_) (fun e => c1 _ _ _ (by rw [ep, zI_ne e]; rfl))
    rintro v5 z5 ⟨q9, q10⟩
    dsimp only at q9 q10
    rw [q9, q10]
    refine w_if (fun e' => w_cs1 (tc_isOver hy hb hd) ?_) (fun e' => c1 _ _ _ (by rw [ep, zI_ne e', Bool.true_or, Bool.or_true]))
    rintro v6 z6 ⟨q11, q12⟩
    dsimp only at q11 q12
    rw [q11, q12]
    refine w_if (fun e2 => c0 (by rw [ep, zI_e e, zI_e e', zI_e e2]; rfl)) (fun e2 => c1 _ _ _ (by rw [ep, zI_ne e2, Bool.or_true, Bool.or_true]))
theorem on_48 {S : ow_NP} {G : Nat → Int32} {s : Nat} (hb : ow_b24 S) (hs : s < 48) : fc_on S G s < 48 := by
  have h1 := end_24 hb.1 hs
  have h2 := mt_lt (c := 12) (show fc_end S.1 s < 2 * 12 by omega)
  have h3 := hb.2 (mt (fc_end S.1 s))
  unfold fc_on
  split <;> omega
theorem b24_sw {Q1 : ow_NT} {a : Nat} (hR : ow_b24 R.2.2.1) (h : ow_b24 Q1.2.2.1) (ha : a < 48) : ow_b24 (nt_sw R Q1 a).2.2.1 := np_swap_b24 h (by omega) (hR.1 _)
theorem e_X6_threePass {vl : Nat → Nat} {r0 : Nat} {x1 : Int32} {z : ow_MS} {Q : (Int32 × ow_MS) → Prop} (H : Tt (fun K _ => cm_X6_threePass_0 vl K x1 r0 z) Q) : Te (fun K => ce_X6_threePass vl K r0 x1 z) Q := w_te0 H
theorem tc_threePass {a : Nat} (hS : mvS y R Q) (ha : a < 48) : Te (fun K => ce_X6_threePass vl K 12000 (nI a) y) (fun r => r.1 = zI (mv_b4 R a) ∧ cAt r.2 17000 (mv_t4 Q R a) ∧ fr (cP 17000) y r.2) := by
  obtain ⟨h1, h2, h3, h4, h5, h6⟩ := id hS
  have hb := on_48 (G := R.2.2.2) h3 ha
  have hd := on_48 (G := R.2.2.2) h3 hb
  have he := on_48 (G := R.2.2.2) h3 hd
  have no : mv_b4 R a = false → Tt (fun _ _ => okZ 0 (some ((0 : Int32), y))) (fun r => r.1 = zI (mv_b4 R a) ∧ cAt r.2 17000 (mv_t4 Q R a) ∧ fr (cP 17000) y r.2) := by
    intro e
    refine w_okZ (Or.inl rfl) (w_some ⟨by rw [e]; rfl, ?_, fr_rf⟩)
    unfold mv_t4
    rw [e, if_neg (by decide)]
    exact h2
  refine e_X6_threePass ?_; unfold cm_X6_threePass_0
  refine w_cs1 (tc_onward nH16 h1 h3 ha) ?_
  rintro v1 z1 ⟨q1, q2⟩
  dsimp only at q1 q2
  rw [q1, q2]
  refine w_cs1 (tc_onward nH16 h1 h3 hb) ?_
  rintro v2 z2 ⟨q3, q4⟩
  dsimp only at q3 q4
  rw [q3, q4]
  refine w_le (by omega) (by omega) (fun e => no ?_) (fun e1 => w_le (by omega) (by omega) (fun e => no ?_) (fun e2 => w_cs1 (tc_onward nH16 h1 h3 hd) ?_))
  · unfold mv_b4
    rw [decide_eq_false (by omega), Bool.false_and]
  · unfold mv_b4
    rw [decide_eq_false (p := a < fc_on R.2.2.1 R.2.2.2 (fc_on R.2.2.1 R.2.2.2 a)) (by omega), Bool.false_and, Bool.and_false]
  · rintro v3 z3 ⟨q5, q6⟩
    dsimp only at q5 q6
    rw [q5, q6]
    refine w_eqN (by omega) (by omega) (fun e3 => w_cs1 (tc_isPassable h1 h3 ha hb hd) ?_) (fun e3 => no ?_)
    · rintro v4 z4 ⟨q7, q8⟩
      dsimp only at q7 q8
      rw [q7, q8]
      have eb : mv_b4 R a = mv_pass R.2.2.1.1 a (fc_on R.2.2.1 R.2.2.2 a) (fc_on R.2.2.1 R.2.2.2 (fc_on R.2.2.1 R.2.2.2 a)) := by
        unfold mv_b4
        rw [decide_eq_true e1, decide_eq_true e2, decide_eq_true e3, Bool.true_and, Bool.true_and, Bool.true_and]
      refine w_if (fun e => no (eb.trans (zI_e e))) (fun e => w_cs0 (tc_copy nH17 nH16 (by unfold nDj; omega) h2 h1 h5) ?_)
      rintro y1 ⟨g1, g2⟩
      have b1 : ow_b24 (nt_copy Q R).2.2.1 := nt_copy_b24 h4 h3
      have k16 : ∀ {z : ow_MS}, fr (cP 17000) y z → cAt z 16000 R := fun hf => cAt_fr hf (fun g hg h9 => by unfold cP at hg h9; omega) h1
      have s1 := (sd_c ⟨a, ha⟩).2
      have s2 := (sd_c ⟨_, hb⟩).2
      have s3 := (sd_c ⟨_, hd⟩).2
      dsimp only at s1 s2 s3
      rw [s1, s2, s3]
      refine w_crI (nH_1 nH16) rfl (show a / 2 < 24 by omega) ((k16 g2).2.2.1 _) (w_cs0 (tc_swapPlaces nH17 g1 b1 (show a / 2 < 24 by omega) (h3.1 _)) ?_)
      rintro y2 ⟨g3, g4⟩
      have f2 := fr_tr g2 g4
      have g3 : cAt y2 17000 (nt_sw R (nt_copy Q R) a) := g3
      have b2 := b24_sw h3 b1 ha
      refine w_crI (nH_1 nH16) rfl (show fc_on R.2.2.1 R.2.2.2 a / 2 < 24 by omega) ((k16 f2).2.2.1 _) (w_cs0 (tc_swapPlaces nH17 g3 b2 (show fc_on R.2.2.1 R.2.2.2 a / 2 < 24 by omega) (h3.1 _)) ?_)
      rintro y3 ⟨g5, g6⟩
      have f3 := fr_tr f2 g6
      have g5 : cAt y3 17000 (nt_sw R (nt_sw R (nt_copy Q R) a) (fc_on R.2.2.1 R.2.2.2 a)) := g5
      have b3 := b24_sw h3 b2 hb
      refine w_crI (nH_1 nH16) rfl (show fc_on R.2.2.1 R.2.2.2 (fc_on R.2.2.1 R.2.2.2 a) / 2 < 24 by omega) ((k16 f3).2.2.1 _) (w_cs0 (tc_swapPlaces nH17 g5 b3 (show fc_on R.2.2.1 R.2.2.2 (fc_on R.2.2.1 R.2.2.2 a) / 2 < 24 by omega) (h3.1 _)) ?_)
      rintro y4 ⟨g7, g8⟩
      refine w_okZ (Or.inr rfl) (w_some ⟨by rw [eb, zI_ne e]; rfl, ?_, fr_tr f3 g8⟩)
      unfold mv_t4
      rw [if_pos (eb.trans (zI_ne e))]
      exact g7
    · unfold mv_b4
      rw [decide_eq_false (p := fc_on R.2.2.1 R.2.2.2 (fc_on R.2.2.1 R.2.2.2 (fc_on R.2.2.1 R.2.2.2 a)) = a) e3, Bool.false_and, Bool.and_false, Bool.and_false]
end CM
end
section
/-! 99zzzzzu.cmov2 -/
/-! the class: Mover.twoCome, make -/
section CM2
variable {vl : Nat → Nat} {y : ow_MS} {h : Nat} {T R Q : ow_NT}
theorem u_X6_mayMeet_1 {vl : Nat → Nat} {x1 : Int32} {x2 : Int32} {x3 : Int32} {x4 : Int32} {x5 : Int32} {x6 : Int32} {r0 : Nat} {z : ow_MS} {Q : (Int32 × ow_MS) → Prop} (H : Tt (fun K k => cm_X6_mayMeet_1 vl K (c_X6_mayMeet vl K k) x1 x2 x3 x4 x5 x6 r0 z) Q) : Tt (fun K k => c_X6_mayMeet vl K k 1 x1 x2 x3 x4 x5 x6 r0 z) Q := w_un (fun _ _ => rfl) H
theorem e_X6_mayMeet {vl : Nat → Nat} {r0 : Nat} {x1 : Int32} {x2 : Int32} {z : ow_MS} {Q : (Int32 × ow_MS) → Prop} (H : Tt (fun K k => c_X6_mayMeet vl K k 0 x1 x2 0 0 0 0 r0 z) Q) : Te (fun K => ce_X6_mayMeet vl K r0 x1 x2 z) Q := w_te H
theorem u_X6_mayMeet_0 {vl : Nat → Nat} {x1 : Int32} {x2 : Int32} {x3 : Int32} {x4 : Int32} {x5 : Int32} {x6 : Int32} {r0 : Nat} {z : ow_MS} {Q : (Int32 × ow_MS) → Prop} (H : Tt (fun K k => cm_X6_mayMeet_0 vl K (c_X6_mayMeet vl K k) x1 x2 x3 x4 x5 x6 r0 z) Q) : Tt (fun K k => c_X6_mayMeet vl K k 0 x1 x2 x3 x4 x5 x6 r0 z) Q := w_un (fun _ _ => rfl) H
theorem tc_mayMeet {v w : Nat} {F P : Nat → Int32} (h18 : ∀ k, y.2.1 18001 k = F k) (h16 : ∀ k, y.2.1 16006 k = P k) (hv : v < 24) (hw : w < 24) : Te (fun K => ce_X6_mayMeet vl K 12000 (nI v) (nI w) y) (fun r => r.1 = zI (mv_meet F P v w) ∧ r.2 = y) := by
  have hF : fH 18000 := Or.inr (Or.inl rfl)
  let Q0 : Int32 × ow_MS → Prop := fun r => r.1 = zI (mv_meet F P v w) ∧ r.2 = y
  have c1 : ∀ a b c d : Int32, mv_meet F P v w = true → Tt (fun K t => c_X6_mayMeet vl K t 1 (nI v) (nI w) a b c d 12000 y) Q0 := by
    intro a b c d e
    refine u_X6_mayMeet_1 ?_; unfold cm_X6_mayMeet_1
    exact w_okZ (Or.inr rfl) (w_some ⟨by rw [e]; rfl, rfl⟩)
  refine e_X6_mayMeet ?_
  refine u_X6_mayMeet_0 ?_; unfold cm_X6_mayMeet_0
  rw [show (2 : Int32) * nI v = nI (2 * v) from pk_mul 2 _, show (2 : Int32) * nI w = nI (2 * w) from pk_mul 2 _, nI_1, nI_1]
  refine w_crI (fH_1 hF) rfl (show 2 * v < 48 by omega) (h18 _) (w_crI (fH_1 hF) rfl (show 2 * v + 1 < 48 by omega) (h18 _) (w_crI (fH_1 hF) rfl (show 2 * w < 48 by omega) (h18 _) (w_crI (fH_1 hF) rfl (show 2 * w + 1 < 48 by omega) (h18 _) (w_crI (nH_6 nH16) rfl hv (h16 _) (w_crI (nH_6 nH16) rfl hw (h16 _) ?_)))))
  refine w_if (fun e0 => w_if (fun e1 => c1 _ _ _ _ ?_) (fun e1 => w_if (fun e2 => c1 _ _ _ _ ?_) (fun e2 => w_if (fun e3 => c1 _ _ _ _ ?_) (fun e3 => w_if (fun e4 => c1 _ _ _ _ ?_) (fun e4 => w_okZ (Or.inl rfl) (w_some ⟨?_, rfl⟩)))))) (fun e0 => c1 _ _ _ _ ?_)
  · unfold mv_meet
    rw [decide_eq_true e1, Bool.true_or, Bool.or_true]
  · unfold mv_meet
    rw [decide_eq_true e2, Bool.true_or, Bool.or_true, Bool.or_true]
  · unfold mv_meet
    rw [decide_eq_true e3, Bool.true_or, Bool.or_true, Bool.or_true, Bool.or_true]
  · unfold mv_meet
    rw [decide_eq_true e4, Bool.or_true, Bool.or_true, Bool.or_true, Bool.or_true]
  · have : mv_meet F P v w = false := by
      unfold mv_meet
      rw [decide_eq_false (fun h9 => h9 e0), decide_eq_false e1, decide_eq_false e2, decide_eq_false e3, decide_eq_false e4]
      rfl
    rw [this]
    rfl
  · unfold mv_meet
    rw [decide_eq_true e0, Bool.true_or]
/-- exactly whether a net is plane -/
theorem tc_plane {f : Nat} (hh : nH h) (hF : fH f) (hd : h + 12 ≤ f ∨ f + 9 ≤ h) (hy : cAt y h T) (hb : ow_b24 T.2.2.1) (hv : vn T.1 T.2.2.1) (hT : T.1 ≤ 12) : Te (fun K => ce_X4_isPlane vl K f h y) (fun r => r.1 = zI (nt_plane T) ∧ fr (fun q => cQ h q ∨ cF f q) y r.2) := by
  refine w_monoE (tc_isPlane hh hF hd hy hb hv hT) ?_
  rintro r ⟨⟨a, b, -, -, e1, e2, e3⟩, e4⟩
  refine ⟨?_, e4⟩
  have q1 := (np_parts_of (N := T.2.2.1.1) (c := T.1) (fun a ha => (hv a ha).1) hT (y.2.1 (h + 6))).2
  have q2 := (mr_out_rl (fun a ha => fc_on_vn hv T.2.2.2 ha) (rl_fill (4 * T.1) (y.2.1 (f + 1)) (-1)) (4 * T.1) (Nat.le_refl _)).2
  rw [q1] at e2
  rw [q2] at e1
  rw [e3, e1, e2]
  unfold zI nt_plane np_faces
  by_cases e : (mr_out (fc_on T.2.2.1 T.2.2.2) (4 * T.1) (fun _ => -1) (4 * T.1)).2 = T.1 + 2 * (np_parts T.1 T.2.2.1.1).2
  · rw [if_pos e, if_pos (decide_eq_true e)]
  · rw [if_neg e, if_neg (fun h9 => e (of_decide_eq_true h9))]
def mvP (g : Nat) : Prop := 17001 ≤ g ∧ g ≤ 17011 ∨ g = 19001 ∨ g = 19002
theorem cP_mvP {y1 : ow_MS} (hf : fr (cP 17000) y y1) : fr mvP y y1 := fr_mono (fun g hg => by unfold cP at hg; unfold mvP; omega) hf
theorem u_X6_twoCome_10 {vl : Nat → Nat} {x1 : Int32} {x2 : Int32} {x3 : Int32} {x4 : Int32} {x5 : Int32} {x6 : Int32} {x7 : Int32} {x8 : Int32} {r0 : Nat} {t0 : Int32} {t1 : Int32} {t2 : Int32} {z : ow_MS} {Q : (Int32 × ow_MS) → Prop} (H : Tt (fun K k => cm_X6_twoCome_10 vl K (c_X6_twoCome vl K k) x1 x2 x3 x4 x5 x6 x7 x8 r0 t0 t1 t2 z) Q) : Tt (fun K k => c_X6_twoCome vl K k 10 x1 x2 x3 x4 x5 x6 x7 x8 r0 t0 t1 t2 z) Q := w_un (fun _ _ => rfl) H
theorem u_X6_twoCome_9 {vl : Nat → Nat} {x1 : Int32} {x2 : Int32} {x3 : Int32} {x4 : Int32} {x5 : Int32} {x6 : Int32} {x7 : Int32} {x8 : Int32} {r0 : Nat} {t0 : Int32} {t1 : Int32} {t2 : Int32} {z : ow_MS} {Q : (Int32 × ow_MS) → Prop} (H : Tt (fun K k => cm_X6_twoCome_9 vl K (c_X6_twoCome vl K k) x1 x2 x3 x4 x5 x6 x7 x8 r0 t0 t1 t2 z) Q) : Tt (fun K k => c_X6_twoCome vl K k 9 x1 x2 x3 x4 x5 x6 x7 x8 r0 t0 t1 t2 z) Q := w_un (fun _ _ => rfl) H
theorem u_X6_twoCome_8 {vl : Nat → Nat} {x1 : Int32} {x2 : Int32} {x3 : Int32} {x4 : Int32} {x5 : Int32} {x6 : Int32} {x7 : Int32} {x8 : Int32} {r0 : Nat} {t0 : Int32} {t1 : Int32} {t2 : Int32} {z : ow_MS} {Q : (Int32 × ow_MS) → Prop} (H : Tt (fun K k => cm_X6_twoCome_8 vl K (c_X6_twoCome vl K k) x1 x2 x3 x4 x5 x6 x7 x8 r0 t0 t1 t2 z) Q) : Tt (fun K k => c_X6_twoCome vl K k 8 x1 x2 x3 x4 x5 x6 x7 x8 r0 t0 t1 t2 z) Q := w_un (fun _ _ => rfl) H
theorem u_X6_twoCome_7 {vl : Nat → Nat} {x1 : Int32} {x2 : Int32} {x3 : Int32} {x4 : Int32} {x5 : Int32} {x6 : Int32} {x7 : Int32} {x8 : Int32} {r0 : Nat} {t0 : Int32} {t1 : Int32} {t2 : Int32} {z : ow_MS} {Q : (Int32 × ow_MS) → Prop} (H : Tt (fun K k => cm_X6_twoCome_7 vl K (c_X6_twoCome vl K k) x1 x2 x3 x4 x5 x6 x7 x8 r0 t0 t1 t2 z) Q) : Tt (fun K k => c_X6_twoCome vl K k 7 x1 x2 x3 x4 x5 x6 x7 x8 r0 t0 t1 t2 z) Q := w_un (fun _ _ => rfl) H
theorem u_X6_twoCome_6 {vl : Nat → Nat} {x1 : Int32} {x2 : Int32} {x3 : Int32} {x4 : Int32} {x5 : Int32} {x6 : Int32} {x7 : Int32} {x8 : Int32} {r0 : Nat} {t0 : Int32} {t1 : Int32} {t2 : Int32} {z : ow_MS} {Q : (Int32 × ow_MS) → Prop} (H : Tt (fun K k => cm_X6_twoCome_6 vl K (c_X6_twoCome vl K k) x1 x2 x3 x4 x5 x6 x7 x8 r0 t0 t1 t2 z) Q) : Tt (fun K k => c_X6_twoCome vl K k 6 x1 x2 x3 x4 x5 x6 x7 x8 r0 t0 t1 t2 z) Q := w_un (fun _ _ => rfl) H
theorem u_X6_twoCome_5 {vl : Nat → Nat} {x1 : Int32} {x2 : Int32} {x3 : Int32} {x4 : Int32} {x5 : Int32} {x6 : Int32} {x7 : Int32} {x8 : Int32} {r0 : Nat} {t0 : Int32} {t1 : Int32} {t2 : Int32} {z : ow_MS} {Q : (Int32 × ow_MS) → Prop} (H : Tt (fun K k => cm_X6_twoCome_5 vl K (c_X6_twoCome vl K k) x1 x2 x3 x4 x5 x6 x7 x8 r0 t0 t1 t2 z) Q) : Tt (fun K k => c_X6_twoCome vl K k 5 x1 x2 x3 x4 x5 x6 x7 x8 r0 t0 t1 t2 z) Q := w_un (fun _ _ => rfl) H
theorem u_X6_twoCome_4 {vl : Nat → Nat} {x1 : Int32} {x2 : Int32} {x3 : Int32} {x4 : Int32} {x5 : Int32} {x6 : Int32} {x7 : Int32} {x8 : Int32} {r0 : Nat} {t0 : Int32} {t1 : Int32} {t2 : Int32} {z : ow_MS} {Q : (Int32 × ow_MS) → Prop} (H : Tt (fun K k => cm_X6_twoCome_4 vl K (c_X6_twoCome vl K k) x1 x2 x3 x4 x5 x6 x7 x8 r0 t0 t1 t2 z) Q) : Tt (fun K k => c_X6_twoCome vl K k 4 x1 x2 x3 x4 x5 x6 x7 x8 r0 t0 t1 t2 z) Q := w_un (fun _ _ => rfl) H
theorem u_X6_twoCome_3 {vl : Nat → Nat} {x1 : Int32} {x2 : Int32} {x3 : Int32} {x4 : Int32} {x5 : Int32} {x6 : Int32} {x7 : Int32} {x8 : Int32} {r0 : Nat} {t0 : Int32} {t1 : Int32} {t2 : Int32} {z : ow_MS} {Q : (Int32 × ow_MS) → Prop} (H : Tt (fun K k => cm_X6_twoCome_3 vl K (c_X6_twoCome vl K k) x1 x2 x3 x4 x5 x6 x7 x8 r0 t0 t1 t2 z) Q) : Tt (fun K k => c_X6_twoCome vl K k 3 x1 x2 x3 x4 x5 x6 x7 x8 r0 t0 t1 t2 z) Q := w_un (fun _ _ => rfl) H
theorem u_X6_twoCome_2 {vl : Nat → Nat} {x1 : Int32} {x2 : Int32} {x3 : Int32} {x4 : Int32} {x5 : Int32} {x6 : Int32} {x7 : Int32} {x8 : Int32} {r0 : Nat} {t0 : Int32} {t1 : Int32} {t2 : Int32} {z : ow_MS} {Q : (Int32 × ow_MS) → Prop} (H : Tt (fun K k => cm_X6_twoCome_2 vl K (c_X6_twoCome vl K k) x1 x2 x3 x4 x5 x6 x7 x8 r0 t0 t1 t2 z) Q) : Tt (fun K k => c_X6_twoCome vl K k 2 x1 x2 x3 x4 x5 x6 x7 x8 r0 t0 t1 t2 z) Q := w_un (fun _ _ => rfl) H
theorem u_X6_twoCome_1 {vl : Nat → Nat} {x1 : Int32} {x2 : Int32} {x3 : Int32} {x4 : Int32} {x5 : Int32} {x6 : Int32} {x7 : Int32} {x8 : Int32} {r0 : Nat} {t0 : Int32} {t1 : Int32} {t2 : Int32} {z : ow_MS} {Q : (Int32 × ow_MS) → Prop} (H : Tt (fun K k => cm_X6_twoCome_1 vl K (c_X6_twoCome vl K k) x1 x2 x3 x4 x5 x6 x7 x8 r0 t0 t1 t2 z) Q) : Tt (fun K k => c_X6_twoCome vl K k 1 x1 x2 x3 x4 x5 x6 x7 x8 r0 t0 t1 t2 z) Q := w_un (fun _ _ => rfl) H
theorem e_X6_twoCome {vl : Nat → Nat} {r0 : Nat} {x1 : Int32} {x2 : Int32} {x3 : Int32} {z : ow_MS} {Q : (Int32 × ow_MS) → Prop} (H : Tt (fun K k => c_X6_twoCome vl K k 0 x1 x2 x3 0 0 0 0 0 r0 0 0 0 z) Q) : Te (fun K => ce_X6_twoCome vl K r0 x1 x2 x3 z) Q := w_te H
theorem u_X6_twoCome_0 {vl : Nat → Nat} {x1 : Int32} {x2 : Int32} {x3 : Int32} {x4 : Int32} {x5 : Int32} {x6 : Int32} {x7 : Int32} {x8 : Int32} {r0 : Nat} {t0 : Int32} {t1 : Int32} {t2 : Int32} {z : ow_MS} {Q : (Int32 × ow_MS) → Prop} (H : Tt (fun K k => cm_X6_twoCome_0 vl K (c_X6_twoCome vl K k) x1 x2 x3 x4 x5 x6 x7 x8 r0 t0 t1 t2 z) Q) : Tt (fun K k => c_X6_twoCome vl K k 0 x1 x2 x3 x4 x5 x6 x7 x8 r0 t0 t1 t2 z) Q := w_un (fun _ _ => rfl) H
theorem tc_twoCome {o u ch : Nat} {F P : Nat → Int32} (hS : mvS y R Q) (hvR : vn R.1 R.2.2.1) (h10 : R.1 + 2 ≤ 12) (ho : o ≤ 2 * R.1) (hu : u ≤ 2 * R.1 + 1) (hc : ch < 4) (h18 : ∀ k, y.2.1 18001 k = F k) (h16 : ∀ k, y.2.1 16006 k = P k) : Te (fun K => ce_X6_twoCome vl K 12000 (nI o) (nI u) (nI ch) y) (fun r => r.1 = zI (mv_b3 R F P o u && nt_plane (mv_t3b Q R o u ch)) ∧ cAt r.2 17000 (mv_t3 Q R F P o u ch) ∧ fr mvP y r.2) := by
  obtain ⟨h1, h2, h3, h4, h5, h6⟩ := id hS
  obtain ⟨k1, k2, k3⟩ := ch_c ⟨ch, hc⟩
  dsimp only at k1 k2 k3
  let P0 : Int32 × ow_MS → Prop := fun r => r.1 = zI (mv_b3 R F P o u && nt_plane (mv_t3b Q R o u ch)) ∧ cAt r.2 17000 (mv_t3 Q R F P o u ch) ∧ fr mvP y r.2
  have no : mv_b3 R F P o u = false → Tt (fun _ _ => okZ 0 (some ((0 : Int32), y))) P0 := by
    intro e
    refine w_okZ (Or.inl rfl) (w_some ⟨by rw [e, Bool.false_and]; rfl, ?_, fr_rf⟩)
    unfold mv_t3
    rw [e, if_neg (by decide)]
    exact h2
  have hsame : ∀ (t : Int32), t = (if ch / 2 % 2 = 0 then 1 else 0) → (t = 0 ↔ ¬ ch / 2 % 2 = 0) := by
    intro t e
    rw [e]
    by_cases q : ch / 2 % 2 = 0
    · rw [if_pos q]
      exact ⟨fun h9 => absurd h9 (by decide), fun h9 => absurd q h9⟩
    · rw [if_neg q]
      exact ⟨fun _ => q, fun _ => rfl⟩
  -- the move is there
  have c3 : ∀ x6 : Int32, mv_b3 R F P o u = true → Tt (fun K t => c_X6_twoCome vl K t 3 (nI o) (nI u) (nI ch) (nI (2 * R.1)) (nI (2 * R.1 + 2)) x6 0 0 12000 0 0 0 y) P0 := by
    intro x6 eb
    have hnd : mv_nd R o u ≤ R.2.1 := by
      unfold mv_b3 at eb
      exact of_decide_eq_true ((Bool.and_eq_true _ _).mp eb).1
    have hb24a : ow_b24 (nt_copy Q R).2.2.1 := nt_copy_b24 h4 h3
    have haf : ∀ a, mv_af R o = some a → a < 24 := fun a ea => by
      have := mv_af_lt ho ea
      omega
    have hb24b : ow_b24 (mv_t3a Q R o ch).2.2.1 := nt_pair_b24 (Q := nt_add (nt_add (nt_copy Q R) (mv_s1 ch)) (mv_s2 ch)) hb24a haf (by omega) (by omega)
    have hau : ∀ a, mv_au R u = some a → a < 24 := fun a ea => by
      have := mv_au_in ea
      omega
    -- the end
    have c10 : ∀ (y1 : ow_MS) (x7 x8 : Int32), cAt y1 17000 (mv_t3a Q R o ch) → fr (cP 17000) y y1 → Tt (fun K t => c_X6_twoCome vl K t 10 (nI o) (nI u) (nI ch) (nI (2 * R.1)) (nI (2 * R.1 + 2)) x6 x7 x8 12000 (nI (if ch / 2 % 2 = 0 then 2 * R.1 + 3 else 2 * R.1 + 1)) (nI (if ch / 2 % 2 = 0 then 2 * R.1 + 1 else 2 * R.1 + 3)) (oNI (mv_au R u)) y1) P0 := by
      intro y1 x7 x8 q1 q2
      have hS1 : mvS y1 R (mv_t3a Q R o ch) := mvS_fr hS q2 q1 hb24b
      have hci : mv_au R u = none → 1 ≤ (mv_t3a Q R o ch).2.1 := by
        intro ea
        have hu2 : u = 2 * R.1 + 1 := by
          unfold mv_au at ea
          split at ea
          · cases ea
          · split at ea
            · cases ea
            · omega
        unfold mv_nd at hnd
        rw [if_pos hu2] at hnd
        unfold mv_t3a mv_af
        by_cases eo : o = 2 * R.1
        · rw [if_pos eo] at hnd ⊢
          show 1 ≤ R.2.1 - 1
          omega
        · rw [if_neg eo] at hnd ⊢
          show 1 ≤ R.2.1
          omega
      refine u_X6_twoCome_10 ?_; unfold cm_X6_twoCome_10
      refine w_cs0 (tc_placePair hS1 hau (by split <;> omega) (by split <;> omega) hci) ?_
      rintro y2 ⟨g1, g2⟩
      have g1 : cAt y2 17000 (mv_t3b Q R o u ch) := g1
      have hbb : ow_b24 (mv_t3b Q R o u ch).2.2.1 := nt_pair_b24 hb24b hau (by split <;> omega) (by split <;> omega)
      have hcc : (mv_t3b Q R o u ch).1 = R.1 + 2 := mv_t3b_c Q R o u ch
      refine w_cs1 (tc_plane (f := 19000) nH17 (Or.inr (Or.inr rfl)) (by omega) g1 hbb (by rw [hcc]; exact vn_t3b hvR ho) (by omega)) ?_
      rintro r y3 ⟨e1, e2⟩
      dsimp only at e1 e2
      rw [e1]
      have hf2 : fr mvP y y2 := fr_tr (cP_mvP q2) (cP_mvP g2)
      refine w_okZ (zI_01 _) (w_some ⟨by rw [eb, Bool.true_and], ?_, fr_tr hf2 (fr_mono (fun g hg => by unfold cQ cF at hg; unfold mvP; omega) e2)⟩)
      unfold mv_t3
      rw [if_pos eb]
      exact cAt_fr e2 (fun g hg h9 => by unfold cP at hg; unfold cQ cF at h9; omega) g1
    have c8 : ∀ (y1 : ow_MS) (x7 : Int32), x7 = (if ch / 2 % 2 = 0 then 1 else 0) → cAt y1 17000 (mv_t3a Q R o ch) → fr (cP 17000) y y1 → Tt (fun K t => c_X6_twoCome vl K t 8 (nI o) (nI u) (nI ch) (nI (2 * R.1)) (nI (2 * R.1 + 2)) x6 x7 0 12000 (oNI (mv_au R u)) 0 0 y1) P0 := by
      intro y1 x7 e7 q1 q2
      have hs := hsame x7 e7
      have c9 : Tt (fun K t => c_X6_twoCome vl K t 9 (nI o) (nI u) (nI ch) (nI (2 * R.1)) (nI (2 * R.1 + 2)) x6 x7 (oNI (mv_au R u)) 12000 (nI (if ch / 2 % 2 = 0 then 2 * R.1 + 1 else 2 * R.1 + 3)) (oNI (mv_au R u)) 0 y1) P0 := by
        have := c10 y1 x7 (oNI (mv_au R u)) q1 q2
        refine u_X6_twoCome_9 ?_; unfold cm_X6_twoCome_9
        rw [nI_1, nI_1]
        refine w_if (fun e => ?_) (fun e => ?_)
        · rw [if_neg (hs.mp e), if_neg (hs.mp e)] at this
          rw [if_neg (hs.mp e)]
          exact this
        · have e2 : ch / 2 % 2 = 0 := by
            apply Classical.byContradiction
            exact fun h9 => e (hs.mpr h9)
          rw [if_pos e2, if_pos e2] at this
          rw [if_pos e2]
          exact this
      refine u_X6_twoCome_8 ?_; unfold cm_X6_twoCome_8
      rw [nI_1, nI_1]
      refine w_if (fun e => ?_) (fun e => ?_)
      · rw [if_neg (hs.mp e)] at c9
        exact c9
      · have e2 : ch / 2 % 2 = 0 := by
          apply Classical.byContradiction
          exact fun h9 => e (hs.mpr h9)
        rw [if_pos e2] at c9
        exact c9
    have c7 : ∀ (y1 : ow_MS) (t0 : Int32), t0 = (if ch / 2 % 2 = 0 then 1 else 0) → cAt y1 17000 (mv_t3a Q R o ch) → fr (cP 17000) y y1 → Tt (fun K t => c_X6_twoCome vl K t 7 (nI o) (nI u) (nI ch) (nI (2 * R.1)) (nI (2 * R.1 + 2)) x6 0 0 12000 t0 0 0 y1) P0 := by
      intro y1 t0 e0 q1 q2
      have := c8 y1 t0 e0 q1 q2
      refine u_X6_twoCome_7 ?_; unfold cm_X6_twoCome_7
      refine w_le (by omega) (by omega) (fun e => w_eqN (by omega) (by omega) (fun e2 => ?_) (fun e2 => ?_)) (fun e => ?_)
      · rw [show oNI (mv_au R u) = nI (2 * R.1 + 2) from by unfold mv_au; rw [if_neg (by omega), if_pos e2]; rfl] at this
        exact this
      · rw [show oNI (mv_au R u) = -1 from by unfold mv_au; rw [if_neg (by omega), if_neg e2]; rfl] at this
        exact this
      · rw [show oNI (mv_au R u) = nI u from by unfold mv_au; rw [if_pos e]; rfl] at this
        exact this
    have c6 : ∀ (y1 : ow_MS), cAt y1 17000 (nt_add (nt_add (nt_copy Q R) (mv_s1 ch)) (mv_s2 ch)) → fr (cP 17000) y y1 → Tt (fun K t => c_X6_twoCome vl K t 6 (nI o) (nI u) (nI ch) (nI (2 * R.1)) (nI (2 * R.1 + 2)) x6 0 0 12000 (oNI (mv_af R o)) 0 0 y1) P0 := by
      intro y1 q1 q2
      have hS1 : mvS y1 R (nt_add (nt_add (nt_copy Q R) (mv_s1 ch)) (mv_s2 ch)) := mvS_fr hS q2 q1 hb24a
      refine u_X6_twoCome_6 ?_; unfold cm_X6_twoCome_6
      refine w_cs0 (tc_placePair hS1 haf (show 2 * R.1 < 24 by omega) (show 2 * R.1 + 2 < 24 by omega) (fun ea => ?_)) ?_
      · have eo : o = 2 * R.1 := by
          unfold mv_af at ea
          split at ea
          · rename_i q
            exact q
          · cases ea
        unfold mv_nd at hnd
        rw [if_pos eo] at hnd
        show 1 ≤ R.2.1
        omega
      · rintro y2 ⟨g1, g2⟩
        have g1 : cAt y2 17000 (mv_t3a Q R o ch) := g1
        refine w_if (fun e => c7 y2 1 ?_ g1 (fr_tr q2 g2)) (fun e => c7 y2 0 ?_ g1 (fr_tr q2 g2))
        · rw [if_pos (k1.mp e)]
        · rw [if_neg (fun h9 => e (k1.mpr h9))]
    have c5 : ∀ (y1 : ow_MS), cAt y1 17000 (R.1 + 2, R.2.1, (nt_copy Q R).2.2.1, su (nt_copy Q R).2.2.2 R.1 (mv_s1 ch)) → fr (cP 17000) y y1 → Tt (fun K t => c_X6_twoCome vl K t 5 (nI o) (nI u) (nI ch) (nI (2 * R.1)) (nI (2 * R.1 + 2)) x6 0 0 12000 (mv_s2 ch) (nI (R.1 + 1)) 0 y1) P0 := by
      intro y1 q1 q2
      obtain ⟨a1, a2, a3, a4, a5⟩ := q1
      have q3 : cAt (usI y1 17003 (R.1 + 1) (mv_s2 ch)) 17000 (nt_add (nt_add (nt_copy Q R) (mv_s1 ch)) (mv_s2 ch)) := ⟨a1, a2, fun k => rd_ot (by omega) (a3 k), fun k => rd_ot (by omega) (a4 k), fun k => by
        show (usI y1 17003 (R.1 + 1) (mv_s2 ch)).2.1 17003 k = su (su (nt_copy Q R).2.2.2 R.1 (mv_s1 ch)) (R.1 + 1) (mv_s2 ch) k
        by_cases e : k = R.1 + 1
        · rw [e]
          exact po_usI_at.trans (if_pos rfl).symm
        · rw [show su (su (nt_copy Q R).2.2.2 R.1 (mv_s1 ch)) (R.1 + 1) (mv_s2 ch) k = su (nt_copy Q R).2.2.2 R.1 (mv_s1 ch) k from if_neg e]
          exact rd_ne e (a5 k)⟩
      have := c6 _ q3 (fr_I2 q2 (by unfold cP; omega))
      refine u_X6_twoCome_5 ?_; unfold cm_X6_twoCome_5
      refine w_ctI (nH_3 nH17) rfl (show R.1 + 1 < 12 by omega) (w_eqN (by omega) (by omega) (fun e => ?_) (fun e => ?_))
      · rw [show oNI (mv_af R o) = -1 from by unfold mv_af; rw [if_pos e]; rfl] at this
        exact this
      · rw [show oNI (mv_af R o) = nI o from by unfold mv_af; rw [if_neg e]; rfl] at this
        exact this
    have c4 : ∀ (y1 : ow_MS), cAt y1 17000 (R.1 + 2, R.2.1, (nt_copy Q R).2.2) → fr (cP 17000) y y1 → Tt (fun K t => c_X6_twoCome vl K t 4 (nI o) (nI u) (nI ch) (nI (2 * R.1)) (nI (2 * R.1 + 2)) x6 0 0 12000 (mv_s1 ch) (nI R.1) 0 y1) P0 := by
      intro y1 q1 q2
      obtain ⟨a1, a2, a3, a4, a5⟩ := q1
      have q3 : cAt (usI y1 17003 R.1 (mv_s1 ch)) 17000 (R.1 + 2, R.2.1, (nt_copy Q R).2.2.1, su (nt_copy Q R).2.2.2 R.1 (mv_s1 ch)) := ⟨a1, a2, fun k => rd_ot (by omega) (a3 k), fun k => rd_ot (by omega) (a4 k), fun k => by
        show (usI y1 17003 R.1 (mv_s1 ch)).2.1 17003 k = su (nt_copy Q R).2.2.2 R.1 (mv_s1 ch) k
        by_cases e : k = R.1
        · rw [e]
          exact po_usI_at.trans (if_pos rfl).symm
        · rw [show su (nt_copy Q R).2.2.2 R.1 (mv_s1 ch) k = (nt_copy Q R).2.2.2 k from if_neg e]
          exact rd_ne e (a5 k)⟩
      have f3 : fr (cP 17000) y (usI y1 17003 R.1 (mv_s1 ch)) := fr_I2 q2 (by unfold cP; omega)
      have := c5 _ q3 f3
      refine u_X6_twoCome_4 ?_; unfold cm_X6_twoCome_4
      refine w_ctI (nH_3 nH17) rfl (show R.1 < 12 by omega) (w_rdF ((f3 16008 (by unfold cP; omega)).1.trans h1.1) ?_)
      rw [nI_1]
      refine w_if (fun e => ?_) (fun e => ?_)
      · rw [show mv_s2 ch = -1 from if_pos (k3.mp e)] at this
        exact this
      · rw [show mv_s2 ch = 1 from if_neg (fun h9 => e (k3.mpr h9))] at this
        exact this
    refine u_X6_twoCome_3 ?_; unfold cm_X6_twoCome_3
    refine w_cs0 (tc_copy nH17 nH16 (by unfold nDj; omega) h2 h1 h5) ?_
    rintro y1 ⟨g1, g2⟩
    refine w_rdF g1.1 (w_wrF ?_)
    have e8 : nI (nt_copy Q R).1 + 2 = nI (R.1 + 2) := nI_add R.1 2
    rw [e8]
    have g1' : cAt (usF y1 17008 (nI (R.1 + 2))) 17000 (R.1 + 2, R.2.1, (nt_copy Q R).2.2) := ⟨po_usF_at, rf_ot (by omega) g1.2.1, g1.2.2.1, g1.2.2.2.1, g1.2.2.2.2⟩
    have fr1 : fr (cP 17000) y (usF y1 17008 (nI (R.1 + 2))) := fr_F2 g2 (by unfold cP; omega)
    have := c4 _ g1' fr1
    refine w_rdF ((fr1 16008 (by unfold cP; omega)).1.trans h1.1) (w_if (fun e => ?_) (fun e => ?_))
    · rw [show mv_s1 ch = 1 from if_pos (k3.mp e)] at this
      exact this
    · rw [show mv_s1 ch = -1 from if_neg (fun h9 => e (k3.mpr h9))] at this
      exact this
  -- what is wanted
  have c2 : ∀ a b : Nat, a = (if o = 2 * R.1 then 1 else 0) → b = (if u = 2 * R.1 + 1 then 1 else 0) → Tt (fun K t => c_X6_twoCome vl K t 2 (nI o) (nI u) (nI ch) (nI (2 * R.1)) (nI (2 * R.1 + 2)) 0 0 0 12000 (nI b) (nI a) 0 y) P0 := by
    intro a b ea eb
    have hnd : mv_nd R o u = a + b := by
      unfold mv_nd
      rw [ea, eb]
    have hab : a ≤ 1 ∧ b ≤ 1 := by
      rw [ea, eb]
      constructor <;> split <;> omega
    refine u_X6_twoCome_2 ?_; unfold cm_X6_twoCome_2
    rw [nI_add]
    refine w_rdF h1.2.1 (w_lt (by omega) (by omega) (fun e => no ?_) (fun e => ?_))
    · unfold mv_b3
      rw [decide_eq_false (by omega), Bool.false_and]
    · have hd1 : decide (mv_nd R o u ≤ R.2.1) = true := decide_eq_true (by omega)
      refine w_le (by omega) (by omega) (fun e2 => c3 _ ?_) (fun e2 => w_le (by omega) (by omega) (fun e3 => c3 _ ?_) (fun e3 => w_cs1 (tc_mayMeet h18 h16 (show o < 24 by omega) (show u < 24 by omega)) ?_))
      · unfold mv_b3
        rw [hd1, decide_eq_false (show ¬ o < 2 * R.1 by omega)]
        rfl
      · unfold mv_b3
        rw [hd1, decide_eq_false (show ¬ u < 2 * R.1 by omega), Bool.false_and, Bool.and_false]
        rfl
      · rintro r y1 ⟨q1, q2⟩
        dsimp only at q1 q2
        rw [q1, q2]
        have eb3 : mv_b3 R F P o u = mv_meet F P o u := by
          unfold mv_b3
          rw [hd1, decide_eq_true e2, decide_eq_true e3, Bool.true_and, Bool.true_and, Bool.true_and, Bool.not_not]
        exact w_if (fun q => no (eb3.trans (zI_e q))) (fun q => c3 _ (eb3.trans (zI_ne q)))
  have c1 : ∀ a : Nat, a = (if o = 2 * R.1 then 1 else 0) → Tt (fun K t => c_X6_twoCome vl K t 1 (nI o) (nI u) (nI ch) (nI (2 * R.1)) (nI (2 * R.1 + 2)) 0 0 0 12000 (nI a) 0 0 y) P0 := by
    intro a ea
    refine u_X6_twoCome_1 ?_; unfold cm_X6_twoCome_1
    rw [nI_1]
    refine w_eqN (by omega) (by omega) (fun e => c2 a 1 ea ?_) (fun e => c2 a 0 ea ?_)
    · rw [if_pos e]
    · rw [if_neg e]
  refine e_X6_twoCome ?_
  refine u_X6_twoCome_0 ?_; unfold cm_X6_twoCome_0
  refine w_rdF h1.1 ?_
  rw [show (2 : Int32) * nI R.1 = nI (2 * R.1) from pk_mul 2 _, show nI (2 * R.1) + 2 = nI (2 * R.1 + 2) from nI_add _ 2]
  refine w_eqN (by omega) (by omega) (fun e => c1 1 ?_) (fun e => c1 0 ?_)
  · rw [if_pos e]
  · rw [if_neg e]
theorem e_X6_countNumbers {vl : Nat → Nat} {r0 : Nat} {x1 : Int32} {z : ow_MS} {Q : (Int32 × ow_MS) → Prop} (H : Tt (fun K _ => cm_X6_countNumbers_0 vl K x1 r0 z) Q) : Te (fun K => ce_X6_countNumbers vl K r0 x1 z) Q := w_te0 H
theorem tc_countNumbers {kd : Nat} (h1 : y.1 16008 = nI R.1) (h5 : R.1 ≤ 12) (hk : kd < 5) : Te (fun K => ce_X6_countNumbers vl K 12000 (nI kd) y) (fun r => r.1 = nI (mv_cnt R.1 kd) ∧ r.2 = y) := by
  have hkd : kd = 0 ∨ kd = 1 ∨ kd = 2 ∨ kd = 3 ∨ kd = 4 := by omega
  refine e_X6_countNumbers ?_; unfold cm_X6_countNumbers_0
  rw [show (2 : Int32) = nI 2 from rfl]
  rcases hkd with rfl | rfl | rfl | rfl | rfl
  · exact w_rdF h1 (w_ifF (by decide) (w_ifT rfl (w_rdF h1 (w_some ⟨rfl, rfl⟩))))
  · refine w_rdF h1 (w_ifF (by decide) (w_ifF (by decide) (w_ifT rfl (w_rdF h1 ?_))))
    rw [nI_1, pk_mul, nI_1, show (4 : Int32) = nI 4 from rfl, pk_mul]
    refine w_le (b := 12) (by omega) (by omega) (fun e => w_some ⟨?_, rfl⟩) (fun e => w_some ⟨?_, rfl⟩)
    · show _ = nI (if R.1 + 1 ≤ 12 then (2 * R.1 + 1) * 4 else 0)
      rw [if_pos e]
    · show _ = nI (if R.1 + 1 ≤ 12 then (2 * R.1 + 1) * 4 else 0)
      rw [if_neg (by omega)]
      rfl
  · refine w_rdF h1 (w_ifF (by decide) (w_ifF (by decide) (w_ifF (by decide) (w_ifT rfl (w_rdF h1 (w_rdF h1 (w_some ⟨?_, rfl⟩)))))))
    exact pk_mul _ _
  · refine w_rdF h1 (w_ifF (by decide) (w_ifF (by decide) (w_ifF (by decide) (w_ifF (by decide) (w_ifT rfl (w_rdF h1 ?_))))))
    rw [pk_mul, nI_1, nI_add, nI_add, pk_mul, show (4 : Int32) = nI 4 from rfl, pk_mul]
    refine w_le (b := 12) (by omega) (by omega) (fun e => w_some ⟨?_, rfl⟩) (fun e => w_some ⟨?_, rfl⟩)
    · show _ = nI (if R.1 + 2 ≤ 12 then (2 * R.1 + 1) * (2 * R.1 + 2) * 4 else 0)
      rw [if_pos e]
    · show _ = nI (if R.1 + 2 ≤ 12 then (2 * R.1 + 1) * (2 * R.1 + 2) * 4 else 0)
      rw [if_neg (by omega)]
      rfl
  · refine w_rdF h1 (w_ifT (by decide) (w_some ⟨?_, rfl⟩))
    show nI 2 * (nI 2 * nI R.1) = nI (2 * (2 * R.1))
    rw [pk_mul, pk_mul]
theorem cnt_b {c kd : Nat} (hc : c ≤ 12) (hk : kd < 5) : mv_cnt c kd ≤ 1848 := by
  have hkd : kd = 0 ∨ kd = 1 ∨ kd = 2 ∨ kd = 3 ∨ kd = 4 := by omega
  have key : ∀ c : Fin 13, mv_cnt c.val 0 ≤ 1848 ∧ mv_cnt c.val 1 ≤ 1848 ∧ mv_cnt c.val 2 ≤ 1848 ∧ mv_cnt c.val 3 ≤ 1848 ∧ mv_cnt c.val 4 ≤ 1848 := by decide
  obtain ⟨a, b, d, e, f⟩ := key ⟨c, by omega⟩
  rcases hkd with rfl | rfl | rfl | rfl | rfl
  · exact a
  · exact b
  · exact d
  · exact e
  · exact f
theorem e_X6_make {vl : Nat → Nat} {r0 : Nat} {x1 : Int32} {x2 : Int32} {z : ow_MS} {Q : (Int32 × ow_MS) → Prop} (H : Tt (fun K _ => cm_X6_make_0 vl K x1 x2 r0 z) Q) : Te (fun K => ce_X6_make vl K r0 x1 x2 z) Q := w_te0 H
theorem tc_make {kd nb : Nat} {F P : Nat → Int32} (hS : mvS y R Q) (hv : vn R.1 R.2.2.1) (hk : kd < 5) (hn : nb < mv_cnt R.1 kd) (h18 : ∀ k, y.2.1 18001 k = F k) (h16 : ∀ k, y.2.1 16006 k = P k) : Te (fun K => ce_X6_make vl K 12000 (nI kd) (nI nb) y) (fun r => r.1 = zI (mv_B kd nb Q R F P) ∧ cAt r.2 17000 (mv_T kd nb Q R F P) ∧ fr mvP y r.2) := by
  have hkd : kd = 0 ∨ kd = 1 ∨ kd = 2 ∨ kd = 3 ∨ kd = 4 := by omega
  have h5 := hS.2.2.2.2.1
  have hb := cnt_b (c := R.1) h5 hk
  have sh2 : nI nb >>> ((2 : Int32) &&& 31) = nI (nb / 4) := pk_shrN (by omega) _ 2 (by decide)
  have an3 : nI nb &&& 3 = nI (nb % 4) := pk_andN (by omega) 2 (by decide)
  refine e_X6_make ?_; unfold cm_X6_make_0
  rcases hkd with rfl | rfl | rfl | rfl | rfl
  · refine w_ifF (by decide) (w_ifT rfl (w_cs1 (tc_oneGoes hS hn) ?_))
    rintro r y1 ⟨e1, e2, e3⟩
    dsimp only at e1 e2 e3
    rw [e1]
    exact w_okZ (zI_01 _) (w_some ⟨rfl, e2, cP_mvP e3⟩)
  · have h11 : R.1 + 1 ≤ 12 := by
      rcases Nat.lt_or_ge 12 (R.1 + 1) with q | q
      · have h9 : mv_cnt R.1 1 = 0 := if_neg (by omega)
        omega
      · exact q
    have hn' : nb < (2 * R.1 + 1) * 4 := by
      rw [show mv_cnt R.1 1 = (2 * R.1 + 1) * 4 from if_pos h11] at hn
      exact hn
    rw [sh2, an3]
    refine w_ifF (by decide) (w_ifF (by decide) (w_ifT rfl (w_cs1 (tc_oneComes hS h11 (show nb / 4 ≤ 2 * R.1 by omega) (show nb % 4 < 4 by omega)) ?_)))
    rintro r y1 ⟨e1, e2, e3⟩
    dsimp only at e1 e2 e3
    rw [e1]
    exact w_okZ (zI_01 _) (w_some ⟨rfl, e2, cP_mvP e3⟩)
  · have hn' : nb < R.1 * R.1 := hn
    have hpos : 0 < R.1 := by
      rcases Nat.eq_zero_or_pos R.1 with q | q
      · rw [q] at hn'
        omega
      · exact q
    have hd1 : nb / R.1 < R.1 := Nat.div_lt_of_lt_mul hn'
    have hd2 : nb % R.1 < R.1 := Nat.mod_lt _ hpos
    have hnz : nI R.1 ≠ 0 := fun h9 => by
      have := nI_inj9 (a := R.1) (b := 0) (by omega) (by omega) h9
      omega
    refine w_ifF (by decide) (w_ifF (by decide) (w_ifF (by decide) (w_ifT rfl (w_rdF hS.1.1 (w_leF (b := 0) (by omega) hpos (w_rdF hS.1.1 (w_nzI hnz (w_rdF hS.1.1 (w_nzI hnz ?_)))))))))
    rw [pk_rem (by omega) hpos (by omega), pk_div (by omega) hpos (by omega)]
    refine w_cs1 (tc_twoGo hS hd1 hd2) ?_
    rintro r y1 ⟨e1, e2, e3⟩
    dsimp only at e1 e2 e3
    rw [e1]
    refine w_if (fun q => w_okZ (Or.inl rfl) (w_some ⟨?_, e2, cP_mvP e3⟩)) (fun q => w_okZ (Or.inr rfl) (w_some ⟨?_, e2, cP_mvP e3⟩))
    · show (0 : Int32) = zI (mv_b2 R (nb / R.1) (nb % R.1))
      exact q.symm
    · show (1 : Int32) = zI (mv_b2 R (nb / R.1) (nb % R.1))
      rw [zI_ne q]
      rfl
  · have h10 : R.1 + 2 ≤ 12 := by
      rcases Nat.lt_or_ge 12 (R.1 + 2) with q | q
      · have h9 : mv_cnt R.1 3 = 0 := if_neg (by omega)
        omega
      · exact q
    have hn' : nb < (2 * R.1 + 1) * (2 * R.1 + 2) * 4 := by
      rw [show mv_cnt R.1 3 = (2 * R.1 + 1) * (2 * R.1 + 2) * 4 from if_pos h10] at hn
      exact hn
    have ho : nb / 4 / (2 * R.1 + 2) ≤ 2 * R.1 := by
      have : nb / 4 / (2 * R.1 + 2) < 2 * R.1 + 1 := Nat.div_lt_of_lt_mul (by rw [Nat.mul_comm]; omega)
      omega
    have hu : nb / 4 % (2 * R.1 + 2) < 2 * R.1 + 2 := Nat.mod_lt _ (by omega)
    have e2c : (2 : Int32) * nI R.1 + 2 = nI (2 * R.1 + 2) := by
      rw [show (2 : Int32) * nI R.1 = nI (2 * R.1) from pk_mul 2 _]
      exact nI_add _ 2
    have hnz : nI (2 * R.1 + 2) ≠ 0 := fun h9 => by
      have := nI_inj9 (a := 2 * R.1 + 2) (b := 0) (by omega) (by omega) h9
      omega
    refine w_ifF (by decide) (w_ifF (by decide) (w_ifF (by decide) (w_ifF (by decide) (w_ifT rfl (w_rdF hS.1.1 ?_)))))
    rw [e2c, sh2, an3, pk_rem (by omega) (by omega) (by omega), pk_div (by omega) (by omega) (by omega)]
    refine w_nzI hnz (w_nzI hnz (w_cs1 (tc_twoCome hS hv h10 ho (show nb / 4 % (2 * R.1 + 2) ≤ 2 * R.1 + 1 by omega) (show nb % 4 < 4 by omega) h18 h16) ?_))
    rintro r y1 ⟨e1, e2, e3⟩
    dsimp only at e1 e2 e3
    rw [e1]
    exact w_okZ (zI_01 _) (w_some ⟨rfl, e2, e3⟩)
  · have hn' : nb < 2 * (2 * R.1) := hn
    refine w_ifT (by decide) (w_cs1 (tc_threePass hS (show nb < 48 by omega)) ?_)
    rintro r y1 ⟨e1, e2, e3⟩
    dsimp only at e1 e2 e3
    rw [e1]
    exact w_okZ (zI_01 _) (w_some ⟨rfl, e2, cP_mvP e3⟩)
end CM2
end
