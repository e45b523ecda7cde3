/-! the class: sides and faces -/
def fH (f : Nat) : Prop := f = 6000 ∨ f = 18000 ∨ f = 19000
theorem fH_1 {vl : Nat → Nat} {f : Nat} (h : fH f) : ((cX vl).2 (f + 1)).2.1 = 48 := by
  rcases h with rfl | rfl | rfl <;> rfl
theorem sd_c : ∀ s : Fin 48, ((nI s.val &&& 1) = 0 ↔ s.val % 2 = 0) ∧ nI s.val >>> ((1 : Int32) &&& 31) = nI (s.val / 2) := by decide +kernel
section CF
variable {vl : Nat → Nat} {y : ow_MS} {h f : Nat} {T : ow_NT}
theorem e_X4_endOf {vl : Nat → Nat} {r0 : Nat} {x1 : Int32} {z : ow_MS} {Q : (Int32 × ow_MS) → Prop} (H : Tt (fun K _ => cm_X4_endOf_0 vl K x1 r0 z) Q) : Te (fun K => ce_X4_endOf vl K r0 x1 z) Q := w_te0 H
theorem tc_endOf {s : Nat} (hh : nH h) (hy : cAt y h T) (hs : s < 48) : Te (fun K => ce_X4_endOf vl K h (nI s) y) (fun r => r.1 = nI (fc_end T.2.2.1.1 s) ∧ r.2 = y) := by
  obtain ⟨l1, l2⟩ := sd_c ⟨s, hs⟩
  dsimp only at l1 l2
  refine e_X4_endOf ?_; unfold cm_X4_endOf_0
  rw [l2]
  unfold fc_end
  refine w_if (fun e => w_crI (nH_1 hh) rfl (by omega) (hy.2.2.1 _) (w_some ⟨?_, rfl⟩)) (fun e => w_some ⟨?_, rfl⟩)
  · rw [if_pos (l1.mp e)]
  · rw [if_neg (fun h9 => e (l1.mpr h9))]
theorem bd_eq {a b : Bool} : ((if a then (1 : Int32) else 0) = (if b then 1 else 0)) ↔ (a == b) = true := by
  cases a <;> cases b <;> decide
theorem u_X4_onward_5 {vl : Nat → Nat} {x1 : Int32} {x2 : Int32} {x3 : Int32} {x4 : Int32} {r0 : Nat} {t0 : Int32} {t1 : Int32} {z : ow_MS} {Q : (Int32 × ow_MS) → Prop} (H : Tt (fun K k => cm_X4_onward_5 vl K (c_X4_onward vl K k) x1 x2 x3 x4 r0 t0 t1 z) Q) : Tt (fun K k => c_X4_onward vl K k 5 x1 x2 x3 x4 r0 t0 t1 z) Q := w_un (fun _ _ => rfl) H
theorem u_X4_onward_4 {vl : Nat → Nat} {x1 : Int32} {x2 : Int32} {x3 : Int32} {x4 : Int32} {r0 : Nat} {t0 : Int32} {t1 : Int32} {z : ow_MS} {Q : (Int32 × ow_MS) → Prop} (H : Tt (fun K k => cm_X4_onward_4 vl K (c_X4_onward vl K k) x1 x2 x3 x4 r0 t0 t1 z) Q) : Tt (fun K k => c_X4_onward vl K k 4 x1 x2 x3 x4 r0 t0 t1 z) Q := w_un (fun _ _ => rfl) H
theorem u_X4_onward_3 {vl : Nat → Nat} {x1 : Int32} {x2 : Int32} {x3 : Int32} {x4 : Int32} {r0 : Nat} {t0 : Int32} {t1 : Int32} {z : ow_MS} {Q : (Int32 × ow_MS) → Prop} (H : Tt (fun K k => cm_X4_onward_3 vl K (c_X4_onward vl K k) x1 x2 x3 x4 r0 t0 t1 z) Q) : Tt (fun K k => c_X4_onward vl K k 3 x1 x2 x3 x4 r0 t0 t1 z) Q := w_un (fun _ _ => rfl) H
theorem u_X4_onward_2 {vl : Nat → Nat} {x1 : Int32} {x2 : Int32} {x3 : Int32} {x4 : Int32} {r0 : Nat} {t0 : Int32} {t1 : Int32} {z : ow_MS} {Q : (Int32 × ow_MS) → Prop} (H : Tt (fun K k => cm_X4_onward_2 vl K (c_X4_onward vl K k) x1 x2 x3 x4 r0 t0 t1 z) Q) : Tt (fun K k => c_X4_onward vl K k 2 x1 x2 x3 x4 r0 t0 t1 z) Q := w_un (fun _ _ => rfl) H
theorem e_X4_onward {vl : Nat → Nat} {r0 : Nat} {x1 : Int32} {z : ow_MS} {Q : (Int32 × ow_MS) → Prop} (H : Tt (fun K k => c_X4_onward vl K k 0 x1 0 0 0 r0 0 0 z) Q) : Te (fun K => ce_X4_onward vl K r0 x1 z) Q := w_te H
theorem u_X4_onward_0 {vl : Nat → Nat} {x1 : Int32} {x2 : Int32} {x3 : Int32} {x4 : Int32} {r0 : Nat} {t0 : Int32} {t1 : Int32} {z : ow_MS} {Q : (Int32 × ow_MS) → Prop} (H : Tt (fun K k => cm_X4_onward_0 vl K (c_X4_onward vl K k) x1 x2 x3 x4 r0 t0 t1 z) Q) : Tt (fun K k => c_X4_onward vl K k 0 x1 x2 x3 x4 r0 t0 t1 z) Q := w_un (fun _ _ => rfl) H
theorem u_X4_onward_1 {vl : Nat → Nat} {x1 : Int32} {x2 : Int32} {x3 : Int32} {x4 : Int32} {r0 : Nat} {t0 : Int32} {t1 : Int32} {z : ow_MS} {Q : (Int32 × ow_MS) → Prop} (H : Tt (fun K k => cm_X4_onward_1 vl K (c_X4_onward vl K k) x1 x2 x3 x4 r0 t0 t1 z) Q) : Tt (fun K k => c_X4_onward vl K k 1 x1 x2 x3 x4 r0 t0 t1 z) Q := w_un (fun _ _ => rfl) H
theorem tc_onward {s : Nat} (hh : nH h) (hy : cAt y h T) (hb : ow_b24 T.2.2.1) (hs : s < 48) : Te (fun K => ce_X4_onward vl K h (nI s) y) (fun r => r.1 = nI (fc_on T.2.2.1 T.2.2.2 s) ∧ r.2 = y) := by
  obtain ⟨l1, l2⟩ := sd_c ⟨s, hs⟩
  dsimp only at l1 l2
  let Q : Int32 × ow_MS → Prop := fun r => r.1 = nI (fc_on T.2.2.1 T.2.2.2 s) ∧ r.2 = y
  have hv24 : fc_end T.2.2.1.1 s < 24 := by
    unfold fc_end
    split
    · exact hb.1 _
    · omega
  have efc : fc_on T.2.2.1 T.2.2.2 s = if (decide (fc_end T.2.2.1.1 s % 2 = 0) == decide (0 < T.2.2.2 (fc_end T.2.2.1.1 s / 2))) == decide (s % 2 = 0) then 2 * mt (fc_end T.2.2.1.1 s) else 2 * T.2.2.1.2 (mt (fc_end T.2.2.1.1 s)) + 1 := rfl
  obtain ⟨m1, m2⟩ := sd_c ⟨fc_end T.2.2.1.1 s, by omega⟩
  have hx := xor1 ⟨fc_end T.2.2.1.1 s, hv24⟩
  have hm24 : mt (fc_end T.2.2.1.1 s) < 24 := mt_lt (c := 12) (by omega)
  dsimp only at m1 m2 hx
  generalize hve : fc_end T.2.2.1.1 s = v at *
  have k5 : ∀ t0 x2 : Int32, t0 = (if (decide (v % 2 = 0) == decide (0 < T.2.2.2 (v / 2))) then 1 else 0) → x2 = (if decide (s % 2 = 0) then 1 else 0) → Tt (fun K k => c_X4_onward vl K k 5 (nI s) x2 (nI v) (nI (mt v)) h t0 0 y) Q := by
    intro t0 x2 e1 e2
    subst e1
    subst e2
    refine u_X4_onward_5 ?_; unfold cm_X4_onward_5
    refine w_if (fun e => ?_) (fun e => w_crI (nH_2 hh) rfl hm24 (hy.2.2.2.1 _) ?_)
    · refine w_some ⟨?_, rfl⟩
      show (2 : Int32) * nI (mt v) = _
      rw [efc, if_pos (bd_eq.mp e), show (2 : Int32) * nI (mt v) = nI (2 * mt v) from pk_mul 2 _]
    · refine w_some ⟨?_, rfl⟩
      show (2 : Int32) * nI (T.2.2.1.2 (mt v)) + 1 = _
      rw [efc, if_neg (fun h9 => e (bd_eq.mpr h9)), show (2 : Int32) * nI (T.2.2.1.2 (mt v)) = nI (2 * T.2.2.1.2 (mt v)) from pk_mul 2 _, nI_1]
  have k4 : ∀ t0 t1 x2 : Int32, t1 = (if decide (v % 2 = 0) then 1 else 0) → t0 = (if decide (0 < T.2.2.2 (v / 2)) then 1 else 0) → x2 = (if decide (s % 2 = 0) then 1 else 0) → Tt (fun K k => c_X4_onward vl K k 4 (nI s) x2 (nI v) (nI (mt v)) h t0 t1 y) Q := by
    intro t0 t1 x2 e1 e0 e2
    subst e1
    subst e0
    refine u_X4_onward_4 ?_; unfold cm_X4_onward_4
    refine w_if (fun e => k5 _ _ ?_ e2) (fun e => k5 _ _ ?_ e2)
    · rw [if_pos (bd_eq.mp e)]
    · rw [if_neg (fun h9 => e (bd_eq.mpr h9))]
  have k3 : ∀ t0 x2 : Int32, t0 = (if decide (v % 2 = 0) then 1 else 0) → x2 = (if decide (s % 2 = 0) then 1 else 0) → Tt (fun K k => c_X4_onward vl K k 3 (nI s) x2 (nI v) (nI (mt v)) h t0 0 y) Q := by
    intro t0 x2 e1 e2
    refine u_X4_onward_3 ?_; unfold cm_X4_onward_3
    rw [m2]
    refine w_crI (nH_3 hh) rfl (by omega) (hy.2.2.2.2 _) (w_if (fun e => k4 _ _ _ e1 ?_ e2) (fun e => k4 _ _ _ e1 ?_ e2))
    · rw [decide_eq_false (Int32.not_lt.mpr e)]
      rfl
    · rw [decide_eq_true (Int32.not_le.mp e)]
      rfl
  have k2 : ∀ x2 : Int32, x2 = (if decide (s % 2 = 0) then 1 else 0) → Tt (fun K k => c_X4_onward vl K k 2 (nI s) x2 0 0 h (nI v) 0 y) Q := by
    intro x2 e2
    refine u_X4_onward_2 ?_; unfold cm_X4_onward_2
    rw [hx]
    refine w_if (fun e => k3 _ _ ?_ e2) (fun e => k3 _ _ ?_ e2)
    · rw [decide_eq_true (m1.mp e)]
      rfl
    · rw [decide_eq_false (fun h9 => e (m1.mpr h9))]
      rfl
  refine e_X4_onward ?_
  refine u_X4_onward_0 ?_; unfold cm_X4_onward_0
  refine w_if (fun e => ?_) (fun e => ?_)
  · refine u_X4_onward_1 ?_; unfold cm_X4_onward_1
    rw [l2]
    have hse := l1.mp e
    have : T.2.2.1.1 (s / 2) = v := by
      rw [← hve]
      unfold fc_end
      rw [if_pos hse]
    refine w_ifF (by decide) (w_crI (nH_1 hh) rfl (by omega) (hy.2.2.1 _) ?_)
    rw [this]
    exact k2 _ (by rw [decide_eq_true hse]; rfl)
  · refine u_X4_onward_1 ?_; unfold cm_X4_onward_1
    rw [l2]
    have hse : ¬ s % 2 = 0 := fun h9 => e (l1.mpr h9)
    have : s / 2 = v := by
      rw [← hve]
      unfold fc_end
      rw [if_neg hse]
    refine w_ifT rfl ?_
    rw [this]
    exact k2 _ (by rw [decide_eq_false hse]; rfl)
end CF
