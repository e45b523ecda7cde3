/-! the class: Reader.readDiagram; diagram -/
/-- what has been read: the visits F -/
def rdT (z : ow_MS) (F : List (Nat × Nat)) (T : ow_NT) : Prop := cAt z 4000 T ∧ ow_b24 T.2.2.1 ∧ T.1 ≤ 12 ∧ vOK F ∧ (∀ p, p ∈ F → p.1 < T.1) ∧ (∀ x, x < T.1 → ∃ u, (x, u) ∈ F) ∧ (∀ v, v < 24 → (z.2.1 11004 v = -1 ∧ kp v ∉ F) ∨ ∃ b, b < 400 ∧ z.2.1 11004 v = nI b ∧ kp v ∈ F) ∧ ∀ k, k < 100 → z.2.1 11003 k = -1 ∨ ∃ x, x < T.1 ∧ z.2.1 11003 k = nI x
def enR (g : Nat) : Prop := g = 4008 ∨ g = 4003 ∨ g = 11003 ∨ g = 11004
theorem kp_lb2 {p : Nat × Nat} (h : p.2 < 2) : kp (lb p) = p := by
  unfold kp lb
  exact Prod.ext (by show (2 * p.1 + p.2) / 2 = p.1; omega) (by show (2 * p.1 + p.2) % 2 = p.2; omega)
section CRE
variable {vl : Nat → Nat} {y : ow_MS} {F : List (Nat × Nat)} {T : ow_NT}
theorem u_X9_enter_3 {vl : Nat → Nat} {x2 : Int32} {x3 : Int32} {x4 : Int32} {r0 : Nat} {r1 : Nat} {t0 : Int32} {t1 : Int32} {z : ow_MS} {Q : (Int32 × ow_MS) → Prop} (H : Tt (fun K k => cm_X9_enter_3 vl K (c_X9_enter vl K k) x2 x3 x4 r0 r1 t0 t1 z) Q) : Tt (fun K k => c_X9_enter vl K k 3 x2 x3 x4 r0 r1 t0 t1 z) Q := w_un (fun _ _ => rfl) H
theorem u_X9_enter_2 {vl : Nat → Nat} {x2 : Int32} {x3 : Int32} {x4 : Int32} {r0 : Nat} {r1 : Nat} {t0 : Int32} {t1 : Int32} {z : ow_MS} {Q : (Int32 × ow_MS) → Prop} (H : Tt (fun K k => cm_X9_enter_2 vl K (c_X9_enter vl K k) x2 x3 x4 r0 r1 t0 t1 z) Q) : Tt (fun K k => c_X9_enter vl K k 2 x2 x3 x4 r0 r1 t0 t1 z) Q := w_un (fun _ _ => rfl) H
theorem u_X9_enter_1 {vl : Nat → Nat} {x2 : Int32} {x3 : Int32} {x4 : Int32} {r0 : Nat} {r1 : Nat} {t0 : Int32} {t1 : Int32} {z : ow_MS} {Q : (Int32 × ow_MS) → Prop} (H : Tt (fun K k => cm_X9_enter_1 vl K (c_X9_enter vl K k) x2 x3 x4 r0 r1 t0 t1 z) Q) : Tt (fun K k => c_X9_enter vl K k 1 x2 x3 x4 r0 r1 t0 t1 z) Q := w_un (fun _ _ => rfl) H
theorem e_X9_enter {vl : Nat → Nat} {r0 : Nat} {r1 : Nat} {x2 : Int32} {z : ow_MS} {Q : (Int32 × ow_MS) → Prop} (H : Tt (fun K k => c_X9_enter vl K k 0 x2 0 0 r0 r1 0 0 z) Q) : Te (fun K => ce_X9_enter vl K r0 r1 x2 z) Q := w_te H
theorem u_X9_enter_0 {vl : Nat → Nat} {x2 : Int32} {x3 : Int32} {x4 : Int32} {r0 : Nat} {r1 : Nat} {t0 : Int32} {t1 : Int32} {z : ow_MS} {Q : (Int32 × ow_MS) → Prop} (H : Tt (fun K k => cm_X9_enter_0 vl K (c_X9_enter vl K k) x2 x3 x4 r0 r1 t0 t1 z) Q) : Tt (fun K k => c_X9_enter vl K k 0 x2 x3 x4 r0 r1 t0 t1 z) Q := w_un (fun _ _ => rfl) H
theorem tc_enter {a k b : Nat} (hS : rdT y F T) (ha : y.1 11005 = nI a) (ha1 : 1 ≤ a) (ha4 : a ≤ 400) (hk : y.1 11006 = nI k) (hk1 : k < 100) (hb : b < 400) : Te (fun K => ce_X9_enter vl K 11000 4000 (nI b) y) (fun r => fr enR y r.2 ∧ (r.1 = -1 ∧ (∃ T', cAt r.2 4000 T' ∧ ow_b24 T'.2.2.1) ∨ ∃ p T', r.1 = nI (lb p) ∧ lb p < 24 ∧ rdT r.2 (F ++ [p]) T' ∧ T'.2.1 = T.2.1 ∧ T'.2.2.1 = T.2.2.1)) := by
  let Q : Int32 × ow_MS → Prop := fun r => fr enR y r.2 ∧ (r.1 = -1 ∧ (∃ T', cAt r.2 4000 T' ∧ ow_b24 T'.2.2.1) ∨ ∃ p T', r.1 = nI (lb p) ∧ lb p < 24 ∧ rdT r.2 (F ++ [p]) T' ∧ T'.2.1 = T.2.1 ∧ T'.2.2.1 = T.2.2.1)
  obtain ⟨s1, s2, s3, s4, s5, s6, s7, s8⟩ := id hS
  -- a visit at crossing x
  have c3 : ∀ (z : ow_MS) (T1 : ow_NT) (x u : Nat) (x3 : Int32), fr enR y z → cAt z 4000 T1 → T1.2.1 = T.2.1 → T1.2.2.1 = T.2.2.1 → T1.1 ≤ 12 → x < T1.1 → u < 2 → (∀ p, p ∈ F → p.1 < T1.1) → (∀ x', x' < T1.1 → x' = x ∨ ∃ u, (x', u) ∈ F) → (∀ v, v < 24 → (z.2.1 11004 v = -1 ∧ kp v ∉ F) ∨ ∃ b, b < 400 ∧ z.2.1 11004 v = nI b ∧ kp v ∈ F) → (∀ k, k < 100 → z.2.1 11003 k = -1 ∨ ∃ x, x < T1.1 ∧ z.2.1 11003 k = nI x) → Tt (fun K t => c_X9_enter vl K t 3 (nI b) x3 (nI x) 11000 4000 (nI u) (nI (2 * x)) z) Q := by
    intro z T1 x u x3 hf h1 h2 h3 h4 h5 h6 h7 h8 h9 h10
    have hb24 : ow_b24 T1.2.2.1 := by rw [h3]; exact s2
    have bad : Tt (fun _ _ => some ((-1 : Int32), z)) Q := w_some ⟨hf, Or.inl ⟨rfl, T1, h1, hb24⟩⟩
    have hv24 : 2 * x + u < 24 := by omega
    refine u_X9_enter_3 ?_; unfold cm_X9_enter_3
    rw [nI_add]
    rcases h9 (2 * x + u) hv24 with ⟨e1, e2⟩ | ⟨b', b1, e1, e2⟩
    · refine w_crI ch_11004 rfl hv24 e1 (w_ifT rfl (w_crI (nH_3 nH4) rfl (show x < 12 by omega) rfl (w_if (fun _ => w_ctI ch_11004 rfl hv24 (w_some ⟨fr_I2 hf (Or.inr (Or.inr (Or.inr rfl))), Or.inr ⟨(x, u), T1, rfl, hv24, ?_, h2, h3⟩⟩)) (fun _ => bad))))
      have ekp : kp (2 * x + u) = (x, u) := kp_lb2 (p := (x, u)) h6
      rw [ekp] at e2
      refine ⟨cAt_fr (P := fun q => q = 11004) (fr_I rfl) (fun g hg h => by unfold cP at hg; omega) h1, hb24, h4, ⟨?_, fun p hp => ?_⟩, fun p hp => ?_, fun x' hx' => ?_, fun v hv => ?_, fun k9 hk9 => ?_⟩
      · rw [List.nodup_append]
        refine ⟨s4.1, List.nodup_cons.mpr ⟨fun h => (by cases h), List.nodup_nil⟩, fun p hp q hq e => ?_⟩
        rw [List.mem_singleton.mp hq] at e
        rw [e] at hp
        exact e2 hp
      · rcases List.mem_append.mp hp with h | h
        · exact s4.2 p h
        · rw [List.mem_singleton.mp h]
          exact h6
      · rcases List.mem_append.mp hp with h | h
        · exact h7 p h
        · rw [List.mem_singleton.mp h]
          exact h5
      · rcases h8 x' hx' with h | ⟨u', h⟩
        · exact ⟨u, List.mem_append_right _ (by rw [h]; exact List.mem_singleton.mpr rfl)⟩
        · exact ⟨u', List.mem_append_left _ h⟩
      · by_cases ev : v = 2 * x + u
        · refine Or.inr ⟨b, hb, by rw [ev]; exact po_usI_at, List.mem_append_right _ ?_⟩
          rw [ev, ekp]
          exact List.mem_singleton.mpr rfl
        · rcases h9 v hv with ⟨q1, q2⟩ | ⟨b', q1, q2, q3⟩
          · refine Or.inl ⟨rd_ne ev q1, fun hm => ?_⟩
            rcases List.mem_append.mp hm with h | h
            · exact q2 h
            · have h9 := List.mem_singleton.mp h
              have := congrArg lb h9
              rw [kp_lb] at this
              exact ev this
          · exact Or.inr ⟨b', q1, rd_ne ev q2, List.mem_append_left _ q3⟩
      · rcases h10 k9 hk9 with h | ⟨x', h, h'⟩
        · exact Or.inl (rd_ot (by omega) h)
        · exact Or.inr ⟨x', h, rd_ot (by omega) h'⟩
    · exact w_crI ch_11004 rfl hv24 e1 (w_ifF (nI_nm1 (by omega)) bad)
  have c2 : ∀ (z : ow_MS) (T1 : ow_NT) (x : Nat) (x3 : Int32), fr enR y z → cAt z 4000 T1 → T1.2.1 = T.2.1 → T1.2.2.1 = T.2.2.1 → T1.1 ≤ 12 → x < T1.1 → (∀ p, p ∈ F → p.1 < T1.1) → (∀ x', x' < T1.1 → x' = x ∨ ∃ u, (x', u) ∈ F) → (∀ v, v < 24 → (z.2.1 11004 v = -1 ∧ kp v ∉ F) ∨ ∃ b, b < 400 ∧ z.2.1 11004 v = nI b ∧ kp v ∈ F) → (∀ k, k < 100 → z.2.1 11003 k = -1 ∨ ∃ x, x < T1.1 ∧ z.2.1 11003 k = nI x) → Tt (fun K t => c_X9_enter vl K t 2 (nI b) x3 (nI x) 11000 4000 0 0 z) Q := by
    intro z T1 x x3 hf h1 h2 h3 h4 h5 h7 h8 h9 h10
    refine u_X9_enter_2 ?_; unfold cm_X9_enter_2
    rw [show (2 : Int32) * nI x = nI (2 * x) from pk_mul 2 _]
    exact w_crI ch_11002 rfl hb rfl (w_if (fun _ => c3 z T1 x 1 x3 hf h1 h2 h3 h4 h5 (by omega) h7 h8 h9 h10) (fun _ => c3 z T1 x 0 x3 hf h1 h2 h3 h4 h5 (by omega) h7 h8 h9 h10))
  have c1 : ∀ t0 : Int32, Tt (fun K t => c_X9_enter vl K t 1 (nI b) 0 0 11000 4000 t0 0 y) Q := by
    intro t0
    refine u_X9_enter_1 ?_; unfold cm_X9_enter_1
    rcases s8 k hk1 with e | ⟨x, hx, e⟩
    · refine w_rdF hk (w_crI ch_11003 rfl hk1 e (w_ifT rfl (w_rdF s1.1 (w_lt (b := 12) (by omega) (by omega) (fun h12 => w_rdF s1.1 (w_rdF s1.1 (w_wrF ?_))) (fun _ => w_some ⟨fr_rf, Or.inl ⟨rfl, T, s1, s2⟩⟩)))))
      rw [nI_1]
      have hk2 : (usF y 4008 (nI (T.1 + 1))).1 11006 = nI k := rf_ot (by omega) hk
      refine w_rdF hk2 (w_ctI ch_11003 rfl hk1 (w_ctI (nH_3 nH4) rfl h12 ?_))
      have hf : fr enR y (usI (usI (usF y 4008 (nI (T.1 + 1))) 11003 k (nI T.1)) 4003 T.1 t0) := fr_I2 (fr_I2 (fr_F (Or.inl rfl)) (Or.inr (Or.inr (Or.inl rfl)))) (Or.inr (Or.inl rfl))
      have hcA : cAt (usI (usI (usF y 4008 (nI (T.1 + 1))) 11003 k (nI T.1)) 4003 T.1 t0) 4000 (T.1 + 1, T.2.1, T.2.2.1, su T.2.2.2 T.1 t0) := ⟨show (usF y 4008 (nI (T.1 + 1))).1 4008 = _ from po_usF_at, show (usF y 4008 (nI (T.1 + 1))).1 4009 = nI T.2.1 from rf_ot (by omega) s1.2.1, fun v => rd_ot (by omega) (rd_ot (by omega) (s1.2.2.1 v)), fun v => rd_ot (by omega) (rd_ot (by omega) (s1.2.2.2.1 v)), fun v => by
        show _ = su T.2.2.2 T.1 t0 v
        by_cases ev : v = T.1
        · rw [ev]
          exact po_usI_at.trans (if_pos rfl).symm
        · rw [show su T.2.2.2 T.1 t0 v = T.2.2.2 v from if_neg ev]
          exact rd_ne ev (rd_ot (by omega) (s1.2.2.2.2 v))⟩
      refine c2 _ (T.1 + 1, T.2.1, T.2.2.1, su T.2.2.2 T.1 t0) T.1 t0 hf hcA rfl rfl (show T.1 + 1 ≤ 12 by omega) (Nat.lt_succ_self _) (fun p hp => Nat.lt_succ_of_lt (s5 p hp)) (fun x' hx' => ?_) (fun v hv => ?_) (fun k9 hk9 => ?_)
      · have hx' : x' < T.1 + 1 := hx'
        by_cases ex : x' = T.1
        · exact Or.inl ex
        · exact Or.inr (s6 x' (by omega))
      · rw [show (usI (usI (usF y 4008 (nI (T.1 + 1))) 11003 k (nI T.1)) 4003 T.1 t0).2.1 11004 v = y.2.1 11004 v from rd_ot (by omega) (rd_ot (by omega) rfl)]
        exact s7 v hv
      · by_cases ek : k9 = k
        · exact Or.inr ⟨T.1, Nat.lt_succ_self _, by rw [ek]; exact rd_ot (by omega) po_usI_at⟩
        · rcases s8 k9 hk9 with h | ⟨x', h, h'⟩
          · exact Or.inl (rd_ot (by omega) (rd_ne ek h))
          · exact Or.inr ⟨x', Nat.lt_succ_of_lt h, rd_ot (by omega) (rd_ne ek h')⟩
    · exact w_rdF hk (w_crI ch_11003 rfl hk1 e (w_ifF (nI_nm1 (by omega)) (c2 y T x t0 fr_rf s1 rfl rfl s3 hx s5 (fun x' hx' => Or.inr (s6 x' hx')) s7 s8)))
  refine e_X9_enter ?_
  refine u_X9_enter_0 ?_; unfold cm_X9_enter_0
  refine w_rdF ha ?_
  rw [show nI a - 1 = nI (a - 1) from pk_sub (b := 1) ha1]
  exact w_crI ch_11002 rfl (show a - 1 < 400 by omega) rfl (w_if (fun _ => c1 1) (fun _ => c1 (-1)))
theorem u_X9_firstLonely_1 {vl : Nat → Nat} {x2 : Int32} {x3 : Int32} {r0 : Nat} {r1 : Nat} {z : ow_MS} {Q : (Int32 × ow_MS) → Prop} (H : Tt (fun K k => cm_X9_firstLonely_1 vl K (c_X9_firstLonely vl K k) x2 x3 r0 r1 z) Q) : Tt (fun K k => c_X9_firstLonely vl K k 1 x2 x3 r0 r1 z) Q := w_un (fun _ _ => rfl) H
theorem u_X9_firstLonely_3 {vl : Nat → Nat} {x2 : Int32} {x3 : Int32} {r0 : Nat} {r1 : Nat} {z : ow_MS} {Q : (Int32 × ow_MS) → Prop} (H : Tt (fun K k => cm_X9_firstLonely_3 vl K (c_X9_firstLonely vl K k) x2 x3 r0 r1 z) Q) : Tt (fun K k => c_X9_firstLonely vl K k 3 x2 x3 r0 r1 z) Q := w_un (fun _ _ => rfl) H
theorem u_X9_firstLonely_2 {vl : Nat → Nat} {x2 : Int32} {x3 : Int32} {r0 : Nat} {r1 : Nat} {z : ow_MS} {Q : (Int32 × ow_MS) → Prop} (H : Tt (fun K k => cm_X9_firstLonely_2 vl K (c_X9_firstLonely vl K k) x2 x3 r0 r1 z) Q) : Tt (fun K k => c_X9_firstLonely vl K k 2 x2 x3 r0 r1 z) Q := w_un (fun _ _ => rfl) H
theorem e_X9_firstLonely {vl : Nat → Nat} {r0 : Nat} {r1 : Nat} {z : ow_MS} {Q : (Int32 × ow_MS) → Prop} (H : Tt (fun K k => c_X9_firstLonely vl K k 0 0 0 r0 r1 z) Q) : Te (fun K => ce_X9_firstLonely vl K r0 r1 z) Q := w_te H
theorem u_X9_firstLonely_0 {vl : Nat → Nat} {x2 : Int32} {x3 : Int32} {r0 : Nat} {r1 : Nat} {z : ow_MS} {Q : (Int32 × ow_MS) → Prop} (H : Tt (fun K k => cm_X9_firstLonely_0 vl K (c_X9_firstLonely vl K k) x2 x3 r0 r1 z) Q) : Tt (fun K k => c_X9_firstLonely vl K k 0 x2 x3 r0 r1 z) Q := w_un (fun _ _ => rfl) H
theorem tc_firstLonely (hS : rdT y F T) : Te (fun K => ce_X9_firstLonely vl K 11000 4000 y) (fun r => r.2 = y ∧ (r.1 = -1 ∧ (∀ v, v < 2 * T.1 → kp v ∈ F → kp (mt v) ∈ F) ∨ ∃ b, b < 400 ∧ r.1 = nI b)) := by
  obtain ⟨s1, s2, s3, s4, s5, s6, s7, s8⟩ := id hS
  let Q : Int32 × ow_MS → Prop := fun r => r.2 = y ∧ (r.1 = -1 ∧ (∀ v, v < 2 * T.1 → kp v ∈ F → kp (mt v) ∈ F) ∨ ∃ b, b < 400 ∧ r.1 = nI b)
  let I : Nat → Int32 → Prop := fun i l => (l = -1 ∧ ∀ v, v < i → kp v ∈ F → kp (mt v) ∈ F) ∨ ∃ b, b < 400 ∧ l = nI b
  have c1 : ∀ (d i : Nat) (l : Int32), i + d = 2 * T.1 → I i l → Tt (fun K t => c_X9_firstLonely vl K t 1 l (nI i) 11000 4000 y) Q := by
    intro d
    induction d with
    | zero =>
      intro i l hi hl
      have e : i = 2 * T.1 := by omega
      subst e
      refine u_X9_firstLonely_1 ?_; unfold cm_X9_firstLonely_1
      refine w_rdF s1.1 ?_
      rw [show (2 : Int32) * nI T.1 = nI (2 * T.1) from pk_mul 2 _]
      exact w_leT (by omega) (by omega) (w_some ⟨rfl, hl⟩)
    | succ d ih =>
      intro i l hi hl
      have hi24 : i < 24 := by omega
      have hm24 := mt_lt (c := 12) (show i < 2 * 12 by omega)
      have c3 : ∀ l2, I (i + 1) l2 → Tt (fun K t => c_X9_firstLonely vl K t 3 l2 (nI i) 11000 4000 y) Q := by
        intro l2 h2
        refine u_X9_firstLonely_3 ?_; unfold cm_X9_firstLonely_3
        rw [nI_1]
        exact ih (i + 1) l2 (by omega) h2
      have keep : (kp i ∈ F → kp (mt i) ∈ F) → I (i + 1) l := by
        intro h9
        rcases hl with ⟨e, h⟩ | h
        · refine Or.inl ⟨e, fun v hv => ?_⟩
          by_cases ev : v = i
          · rw [ev]
            exact h9
          · exact h v (by omega)
        · exact Or.inr h
      refine u_X9_firstLonely_1 ?_; unfold cm_X9_firstLonely_1
      refine w_rdF s1.1 ?_
      rw [show (2 : Int32) * nI T.1 = nI (2 * T.1) from pk_mul 2 _, xor1 ⟨i, hi24⟩]
      refine w_leF (by omega) (by omega) ?_
      rcases s7 i hi24 with ⟨e1, e2⟩ | ⟨b, b1, e1, e2⟩
      · exact w_crI ch_11004 rfl hi24 e1 (w_ifT rfl (c3 l (keep (fun h => absurd h e2))))
      · have c2 : Tt (fun K t => c_X9_firstLonely vl K t 2 l (nI i) 11000 4000 y) Q := by
          refine u_X9_firstLonely_2 ?_; unfold cm_X9_firstLonely_2
          exact w_crI ch_11004 rfl hi24 e1 (c3 _ (Or.inr ⟨b, b1, rfl⟩))
        refine w_crI ch_11004 rfl hi24 e1 (w_ifF (nI_nm1 (by omega)) ?_)
        rcases s7 (mt i) (by omega) with ⟨f1, f2⟩ | ⟨b', b2, f1, f2⟩
        · refine w_crI ch_11004 rfl (show mt i < 24 by omega) f1 (w_ifT rfl ?_)
          rcases hl with ⟨e, h⟩ | ⟨b3, b4, e⟩
          · exact w_ifT e c2
          · refine w_ifF (by rw [e]; exact nI_nm1 (by omega)) (w_crI ch_11004 rfl hi24 e1 ?_)
            exact w_if (fun _ => c3 l (Or.inr ⟨b3, b4, e⟩)) (fun _ => c2)
        · exact w_crI ch_11004 rfl (show mt i < 24 by omega) f1 (w_ifF (nI_nm1 (by omega)) (c3 l (keep (fun _ => f2))))
  refine e_X9_firstLonely ?_
  refine u_X9_firstLonely_0 ?_; unfold cm_X9_firstLonely_0
  exact c1 (2 * T.1) 0 (-1) (by omega) (Or.inl ⟨rfl, fun v hv => absurd hv (Nat.not_lt_zero _)⟩)
/-- the last of an open component -/
def lsI (L : List (Nat × Nat)) (x3 x4 : Int32) : Prop := match L with
  | [] => x3 = -1
  | p :: L => x3 = nI (lb p) ∧ ∃ q, (p :: L)[L.length]? = some q ∧ x4 = nI (lb q)
theorem e_X9_finish {vl : Nat → Nat} {r0 : Nat} {x1 : Int32} {x2 : Int32} {z : ow_MS} {Q : ow_MS → Prop} (H : Tt (fun K _ => cm_X9_finish_0 vl K x1 x2 r0 z) Q) : Te (fun K => ce_X9_finish vl K r0 x1 x2 z) Q := w_te0 H
theorem tc_finish {A : rn_L} {L : List (Nat × Nat)} {x3 x4 : Int32} (hS : rdT y (A.flatten ++ L) T) (hl : lkS T.2.2.1 A L) (hci : T.2.1 = cirs A) (hx : lsI L x3 x4) : Te (fun K => ce_X9_finish vl K 4000 x3 x4 y) (fun y1 => ∃ T1, rdT y1 (A ++ [L]).flatten T1 ∧ lkS T1.2.2.1 (A ++ [L]) [] ∧ T1.2.1 = cirs (A ++ [L]) ∧ fr (cP 4000) y y1) := by
  obtain ⟨s1, s2, s3, s4, s5, s6, s7, s8⟩ := id hS
  refine e_X9_finish ?_; unfold cm_X9_finish_0
  cases L with
  | nil =>
    have hx : x3 = -1 := hx
    refine w_ifT hx (w_rdF s1.2.1 (w_wrF (w_some ⟨(T.1, T.2.1 + 1, T.2.2), ?_, lk_nil hl, ?_, fr_F (by unfold cP; omega)⟩)))
    · rw [fl_app]
      refine ⟨⟨rf_ot (by omega) s1.1, ?_, s1.2.2⟩, s2, s3, s4, s5, s6, s7, s8⟩
      exact po_usF_at.trans (nI_1 _)
    · rw [cirs_app, if_pos rfl, ← hci]
  | cons p L =>
    obtain ⟨hx3, q, hq, hx4⟩ := hx
    have hpF : p ∈ A.flatten ++ p :: L := List.mem_append_right _ List.mem_cons_self
    have hqF : q ∈ A.flatten ++ p :: L := List.mem_append_right _ (List.mem_of_getElem? hq)
    have b24 : ∀ r, r ∈ A.flatten ++ p :: L → lb r < 24 := fun r hr => by
      have h1 := s5 r hr
      have h2 := s4.2 r hr
      unfold lb
      omega
    have hp24 := b24 p hpF
    refine w_ifF (by rw [hx3]; exact nI_nm1 (by omega)) ?_
    rw [hx3, hx4]
    refine w_cs0 (tc_link nH4 s1 (b24 q hqF) (b24 p hpF)) ?_
    rintro y1 ⟨g1, g2⟩
    refine w_some ⟨_, ⟨g1, nl_b24 s2 (b24 q hqF) (b24 p hpF), s3, ?_, ?_, ?_, fun v hv => ?_, fun k hk => ?_⟩, lk_close s4 hq hl, ?_, g2⟩
    · rw [fl_app]
      exact s4
    · rw [fl_app]
      exact s5
    · rw [fl_app]
      exact s6
    · rw [fl_app, (g2 11004 (by unfold cP; omega)).2.1]
      exact s7 v hv
    · rw [(g2 11003 (by unfold cP; omega)).2.1]
      exact s8 k hk
    · rw [cirs_app, if_neg (List.cons_ne_nil p L), Nat.add_zero]
      exact hci
end CRE
